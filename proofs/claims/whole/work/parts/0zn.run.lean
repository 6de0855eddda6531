/-! COMMANDS, whole; run. -/
def FrC (C C' : Mem) : Prop := ∀ x y, x ≠ 4 → x ≠ 18 → x ≠ 19 → x ≠ 26 → C' x y = C x y
def FrX (X X' : Mem) : Prop := ∀ a b, a ≠ 101 → ¬ (a = 95 ∧ (b = 12 ∨ b = 31 ∨ b = 32 ∨ b = 33 ∨ b = 34)) → X' a b = X a b
/-- what a command tells, in both memories -/
def Told (C X : Mem) (c : Int) : Prop := (c = 1 ∧ C 4 6 = 0 ∧ ∃ w, KyC C 4 w ∧ KX X w ∧ 1 ≤ w.length ∧ C 26 0 = X 95 32 ∧ 0 ≤ X 95 32 ∧ X 95 32 ≤ 255) ∨ (c = 2 ∧ C 4 6 = 1 ∧ ∃ w, KyC C 4 w ∧ KX X w ∧ 1 ≤ w.length) ∨ (c = 3 ∧ C 4 6 = 2 ∧ C 26 0 = X 95 33 ∧ C 26 1 = X 95 34 ∧ C 26 2 = X 95 32 ∧ 0 ≤ X 95 32 ∧ LdOk (X 95 33) (X 95 34) (X 95 32).toNat)
def CmdRes (t : Nat → Int) (n s : Nat) (C X : Mem) (o1 o2 : Option (Mem × Int)) : Prop := (∃ (C' X' : Mem) (q : Nat), (∀ E, ¬ CmdR t n s E) ∧ o1 = some (C', 0) ∧ o2 = some (X', 0) ∧ C' 4 2 = (q : Int) ∧ X' 95 31 = (q : Int) ∧ q ≤ n ∧ TxC C' t n ∧ TxX X' t n ∧ FrC C C' ∧ FrX X X') ∨ (∃ (C' X' : Mem) (E : Nat) (c : Int), CmdR t n s E ∧ o1 = some (C', 1) ∧ o2 = some (X', c) ∧ s < E ∧ E ≤ n ∧ C' 4 3 = (E : Int) ∧ X' 95 31 = (E : Int) ∧ TxC C' t n ∧ TxX X' t n ∧ FrC C C' ∧ FrX X X' ∧ Told C' X' c)
section RU
variable {C C' X X' : Mem} {t : Nat → Int} {n i e st k s E : Nat} {z : Int}
theorem FrC_refl : FrC C C := fun _ _ _ _ _ _ => rfl
theorem FrX_refl : FrX X X := fun _ _ _ _ => rfl
theorem FrC_tr {C2 : Mem} (h1 : FrC C C') (h2 : FrC C' C2) : FrC C C2 := fun x y q1 q2 q3 q4 => by rw [h2 x y q1 q2 q3 q4, h1 x y q1 q2 q3 q4]
theorem FrX_tr {X2 : Mem} (h1 : FrX X X') (h2 : FrX X' X2) : FrX X X2 := fun a b q1 q2 => by rw [h2 a b q1 q2, h1 a b q1 q2]
theorem ad_idem {p : Int → Bool} : ad p t n (ad p t n i) = ad p t n i := by
  refine ad_n ?_
  intro h
  have := ad_end h.1
  rw [this] at h
  exact absurd h.2 (by decide)
theorem NumOk_sk {lo hi' : Int} : NumOk t n (ad isB t n e) lo hi' ↔ NumOk t n e lo hi' := by
  unfold NumOk nV nE
  rw [ad_idem]
theorem both_cmd (h1 : TxC C t n) (h2 : TxX X t n) (hk : Tok1 C t n s) (hX : X 95 31 = (s : Int)) : CmdRes t n s C X (f_X5_readCommand C) (f_X8_readsCommand X) := by
  have hn := h1.2.1
  have hs := hk.2.1
  have hC2 := hk.1
  have hend : ∀ m : Nat, 1 ≤ m → ad isL t n s = s + m → C 4 3 = ((s + m : Nat) : Int) ∧ s + m ≤ n := by
    intro m hm1 hm
    have hle : ad isL t n s ≤ n := ad_le (by omega)
    rcases hk.2.2 with q | q
    · exact ⟨by rw [q.2.2, hm], by omega⟩
    · have : ad isL t n s = s := ad_n (by intro hh; rw [q.1] at hh; exact absurd hh.2 (by decide))
      omega
  unfold f_X5_readCommand f_X8_readsCommand
  rcases sp_put h1 hk with ⟨w1, w2⟩ | ⟨w1, w2⟩
  · -- put
    have hm : f_X8_commandHere X = some (X, 1) := by
      rcases tx_cmd h2 hX (by omega) with q | q | q | q
      · exact q.2
      · have := q.1.1; have := w1.1; omega
      · have := q.1.1; have := w1.1; omega
      · exact absurd w1 q.1
    obtain ⟨e1, e2⟩ := hend 3 (by omega) w1.1
    have hoE : ∀ E, CmdR t n s E → PutR t n s E := by
      intro E hE
      rcases hE with q | q | q
      · exact q
      · have := q.1.1; have := w1.1; omega
      · have := q.1.1; have := w1.1; omega
    rw [w2, bd_some, fEq (by omega), hm, bd_some, fEq (by omega), jn_eq, tEq (by omega)]
    dsimp only
    have T1 : TxC (up C 4 6 0) t n := TxC_u h1 (by omega)
    have T2 : TxX (up X 95 31 (X 95 31 + 3)) t n := TxX_u h2 (by omega)
    have fc0 : FrC C (up C 4 6 0) := fun x y q1 _ _ _ => up_k q1
    have fx0 : FrX X (up X 95 31 (X 95 31 + 3)) := fun a b _ q => by rw [up_ap, if_neg (by omega)]
    unfold f_X8_readsRest
    rcases both_tkey T1 T2 (e := s + 3) (by rw [up_j (by omega)]; exact e1) (by rw [up_same, hX]; omega) e2 with ⟨k1, Ca, Xa, a1, a2, a3, a4, a5, a6, a7, a8, a9, a10, a11⟩ | ⟨k1, Ca, Xa, q, a1, a2, a3, a4, a5, a6, a7, a8, a9⟩
    · have fca : FrC C Ca := FrC_tr fc0 (fun x y q1 q2 q3 _ => a9 x y q1 q2 q3)
      have fxa : FrX X Xa := FrX_tr fx0 (fun a b q1 q2 => a11 a b q1 (by omega))
      have hkn : kEn t n (s + 3) ≤ n := ad_le (ad_le e2)
      have hkg : s + 3 ≤ kEn t n (s + 3) := Nat.le_trans ad_ge ad_ge
      rw [a1, bd_some, fEq (by omega), fEq (by omega), a2, bd_some, fEq (by omega), fEq (by omega)]
      rcases both_num (k := 0) a3 a4 a5 a6 hkn (by omega) (kz := 0) rfl (lo := 0) (hi' := 255) (by omega) (by omega) with ⟨k2, Cb, Xb, b1, b2, b3, b4, b5, b6, b7, b8, b9, b10, b11, b12⟩ | ⟨k2, Cb, Xb, q, b1, b2, b3, b4, b5, b6, b7, b8, b9, _⟩
      · have fcb : FrC C Cb := FrC_tr fca (fun x y q1 q2 q3 q4 => b9 x y q1 (by omega))
        have fxb : FrX X Xb := FrX_tr fxa (fun a b q1 q2 => b11 a b (by omega))
        have hnn : nE t n (kEn t n (s + 3)) ≤ n := ad_le (ad_le hkn)
        have hng : kEn t n (s + 3) ≤ nE t n (kEn t n (s + 3)) := Nat.le_trans ad_ge ad_ge
        rw [b1, bd_some, fEq (by omega), b2, bd_some, fEq (by omega), bd_some, fEq (by omega)]
        rcases both_stop b3 b4 b5 b6 hnn with ⟨k3, Cc, Xc, c1, c2, c3, c4, c5, c6, c7, c8, c9⟩ | ⟨k3, Cc, Xc, q, c1, c2, c3, c4, c5, c6, c7, c8, c9⟩
        · have hsg : nE t n (kEn t n (s + 3)) ≤ ad isB t n (nE t n (kEn t n (s + 3))) := ad_ge
          have hx32 : Xc 95 32 = nV t n (kEn t n (s + 3)) := by rw [c9 _ _ (by omega)]; exact b8
          rw [c1, bd_some, fEq (by omega), c2, bd_some, fEq (by omega)]
          refine Or.inr ⟨Cc, Xc, _, 1, Or.inl ⟨w1, k1, k2, k3, rfl⟩, rfl, rfl, by omega, by have := k3.1; omega, c5, c6, c3, c4, FrC_tr fcb (fun x y q1 _ _ _ => c7 x y q1), FrX_tr fxb (fun a b q1 q2 => c9 a b (by omega)), Or.inl ⟨rfl, ?_, kW t n (s + 3), ⟨?_, ?_, a7.2.2⟩, ⟨?_, ?_, a8.2.2⟩, (kW_ok k1).2, ?_, ?_, ?_⟩⟩
          · rw [c8, b10, a10, up_same]
          · rw [c7 _ _ (by omega), b9 _ _ (by omega) (by omega)]; exact a7.1
          · intro j hj; rw [c7 _ _ (by omega), b9 _ _ (by omega) (by omega)]; exact a7.2.1 j hj
          · rw [c9 _ _ (by omega), b11 _ _ (by omega)]; exact a8.1
          · intro j hj; rw [c9 _ _ (by omega), b11 _ _ (by omega)]; exact a8.2.1 j hj
          · rw [c7 _ _ (by omega), b7, hx32]
          · rw [hx32]; exact k2.2.1
          · rw [hx32]; exact k2.2.2
        · rw [c1, bd_some, tEq (by omega), c2, bd_some, tEq (by omega)]
          exact Or.inl ⟨Cc, Xc, q, fun E hE => k3 (hoE E hE).2.2.2.1, rfl, rfl, c5, c6, c7, c3, c4, FrC_tr fcb (fun x y q1 _ _ _ => c8 x y q1), FrX_tr fxb (fun a b q1 q2 => c9 a b (by omega))⟩
      · rw [b1, bd_some, tEq (by omega), b2, bd_some, tEq (by omega), bd_some, tEq (by omega)]
        exact Or.inl ⟨Cb, Xb, q, fun E hE => k2 (hoE E hE).2.2.1, rfl, rfl, b5, b6, b7, b3, b4, FrC_tr fca (fun x y q1 _ _ _ => b8 x y q1), FrX_tr fxa (fun a b q1 q2 => b9 a b (by omega))⟩
    · rw [a1, bd_some, tEq (by omega), fEq (by omega), a2, bd_some, tEq (by omega), bd_some, tEq (by omega)]
      exact Or.inl ⟨Ca, Xa, q, fun E hE => k1 (hoE E hE).2.1, rfl, rfl, a5, a6, a7, a3, a4, FrC_tr fc0 (fun x y q1 _ _ _ => a8 x y q1), FrX_tr fx0 (fun a b q1 q2 => a9 a b (by omega))⟩
  · rw [w2, bd_some, tEq (by omega)]
    rcases sp_take h1 hk with ⟨v1, v2⟩ | ⟨v1, v2⟩
    · -- take
      have hm : f_X8_commandHere X = some (X, 2) := by
        rcases tx_cmd h2 hX (by omega) with q | q | q | q
        · exact absurd q.1 w1
        · exact q.2
        · have := q.1.2.1; have := v1.2.1; omega
        · exact absurd v1 q.2.1
      obtain ⟨e1, e2⟩ := hend 4 (by omega) v1.1
      have hoE : ∀ E, CmdR t n s E → TakeR t n s E := by
        intro E hE
        rcases hE with q | q | q
        · exact absurd q.1 w1
        · exact q
        · have := q.1.2.1; have := v1.2.1; omega
      rw [v2, bd_some, fEq (by omega), hm, bd_some, fEq (by omega), jn_eq, fEq (by omega)]
      dsimp only
      have T1 : TxC (up C 4 6 1) t n := TxC_u h1 (by omega)
      have T2 : TxX (up X 95 31 (X 95 31 + 4)) t n := TxX_u h2 (by omega)
      have fc0 : FrC C (up C 4 6 1) := fun x y q1 _ _ _ => up_k q1
      have fx0 : FrX X (up X 95 31 (X 95 31 + 4)) := fun a b _ q => by rw [up_ap, if_neg (by omega)]
      unfold f_X8_readsRest
      rcases both_tkey T1 T2 (e := s + 4) (by rw [up_j (by omega)]; exact e1) (by rw [up_same, hX]; omega) e2 with ⟨k1, Ca, Xa, a1, a2, a3, a4, a5, a6, a7, a8, a9, a10, a11⟩ | ⟨k1, Ca, Xa, q, a1, a2, a3, a4, a5, a6, a7, a8, a9⟩
      · have fca : FrC C Ca := FrC_tr fc0 (fun x y q1 q2 q3 _ => a9 x y q1 q2 q3)
        have fxa : FrX X Xa := FrX_tr fx0 (fun a b q1 q2 => a11 a b q1 (by omega))
        have hkn : kEn t n (s + 4) ≤ n := ad_le (ad_le e2)
        have hkg : s + 4 ≤ kEn t n (s + 4) := Nat.le_trans ad_ge ad_ge
        rw [a1, bd_some, fEq (by omega), fEq (by omega), a2, bd_some, fEq (by omega), tEq (by omega), bd_some, fEq (by omega)]
        rcases both_stop a3 a4 a5 a6 hkn with ⟨k3, Cc, Xc, c1, c2, c3, c4, c5, c6, c7, c8, c9⟩ | ⟨k3, Cc, Xc, q, c1, c2, c3, c4, c5, c6, c7, c8, c9⟩
        · have hsg : kEn t n (s + 4) ≤ ad isB t n (kEn t n (s + 4)) := ad_ge
          rw [c1, bd_some, fEq (by omega), c2, bd_some, fEq (by omega)]
          refine Or.inr ⟨Cc, Xc, _, 2, Or.inr (Or.inl ⟨v1, k1, k3, rfl⟩), rfl, rfl, by omega, by have := k3.1; omega, c5, c6, c3, c4, FrC_tr fca (fun x y q1 _ _ _ => c7 x y q1), FrX_tr fxa (fun a b q1 q2 => c9 a b (by omega)), Or.inr (Or.inl ⟨rfl, ?_, kW t n (s + 4), ⟨?_, ?_, a7.2.2⟩, ⟨?_, ?_, a8.2.2⟩, (kW_ok k1).2⟩)⟩
          · rw [c8, a10, up_same]
          · rw [c7 _ _ (by omega)]; exact a7.1
          · intro j hj; rw [c7 _ _ (by omega)]; exact a7.2.1 j hj
          · rw [c9 _ _ (by omega)]; exact a8.1
          · intro j hj; rw [c9 _ _ (by omega)]; exact a8.2.1 j hj
        · rw [c1, bd_some, tEq (by omega), c2, bd_some, tEq (by omega)]
          exact Or.inl ⟨Cc, Xc, q, fun E hE => k3 (hoE E hE).2.2.1, rfl, rfl, c5, c6, c7, c3, c4, FrC_tr fca (fun x y q1 _ _ _ => c8 x y q1), FrX_tr fxa (fun a b q1 q2 => c9 a b (by omega))⟩
      · rw [a1, bd_some, tEq (by omega), fEq (by omega), a2, bd_some, tEq (by omega), bd_some, tEq (by omega)]
        exact Or.inl ⟨Ca, Xa, q, fun E hE => k1 (hoE E hE).2.1, rfl, rfl, a5, a6, a7, a3, a4, FrC_tr fc0 (fun x y q1 _ _ _ => a8 x y q1), FrX_tr fx0 (fun a b q1 q2 => a9 a b (by omega))⟩
    · rw [v2, bd_some, tEq (by omega)]
      have T0 : TxC (up C 4 6 2) t n := TxC_u h1 (by omega)
      have hk' : Tok1 (up C 4 6 2) t n s := ⟨by rw [up_j (by omega)]; exact hk.1, hk.2.1, by rw [up_j (by omega), up_j (by omega)]; exact hk.2.2⟩
      have fc0 : FrC C (up C 4 6 2) := fun x y q1 _ _ _ => up_k q1
      rcases sp_load T0 hk' with ⟨u1, u2⟩ | ⟨u1, u2⟩
      · -- load
        have hm : f_X8_commandHere X = some (X, 3) := by
          rcases tx_cmd h2 hX (by omega) with q | q | q | q
          · exact absurd q.1 w1
          · exact absurd q.1 v1
          · exact q.2
          · exact absurd u1 q.2.2.1
        obtain ⟨e1, e2⟩ := hend 4 (by omega) u1.1
        have hoE : ∀ E, CmdR t n s E → LoadR t n s E := by
          intro E hE
          rcases hE with q | q | q
          · exact absurd q.1 w1
          · exact absurd q.1 v1
          · exact q
        rw [u2, bd_some, fEq (by omega), hm, bd_some, fEq (by omega), jn_eq, fEq (by omega)]
        dsimp only
        have T2 : TxX (up X 95 31 (X 95 31 + 4)) t n := TxX_u h2 (by omega)
        have fx0 : FrX X (up X 95 31 (X 95 31 + 4)) := fun a b _ q => by rw [up_ap, if_neg (by omega)]
        unfold f_X8_readsRest f_X8_readsLoad
        rw [tEq (a := 3) (by omega)]
        rcases both_num (k := 0) T0 T2 (e := s + 4) (by rw [up_j (by omega)]; exact e1) (by rw [up_same, hX]; omega) e2 (by omega) (kz := 0) rfl (lo := 0) (hi' := 17575) (by omega) (by omega) with ⟨k1, Ca, Xa, a1, a2, a3, a4, a5, a6, a7, a8, a9, a10, a11, a12⟩ | ⟨k1, Ca, Xa, q, a1, a2, a3, a4, a5, a6, a7, a8, a9, _⟩
        · have fca : FrC C Ca := FrC_tr fc0 (fun x y q1 q2 q3 q4 => a9 x y q1 (by omega))
          have fxa : FrX X (up Xa 95 33 (Xa 95 32)) := FrX_tr (FrX_tr fx0 (fun a b q1 q2 => a11 a b (by omega))) (fun a b _ q => by rw [up_ap, if_neg (by omega)])
          have hn1 : nE t n (s + 4) ≤ n := ad_le (ad_le e2)
          have hg1 : s + 4 ≤ nE t n (s + 4) := Nat.le_trans ad_ge ad_ge
          rw [a1, bd_some, fEq (by omega), a2, bd_some, fEq (by omega)]
          rcases both_num (k := 1) a3 (TxX_u a4 (y := 33) (z := Xa 95 32) (by omega)) a5 (by rw [up_j (by omega)]; exact a6) hn1 (by omega) (kz := 1) rfl (lo := 1) (hi' := 99) (by omega) (by omega) with ⟨k2, Cb, Xb, b1, b2, b3, b4, b5, b6, b7, b8, b9, b10, b11, b12⟩ | ⟨k2, Cb, Xb, q, b1, b2, b3, b4, b5, b6, b7, b8, b9, _⟩
          · have fcb : FrC C Cb := FrC_tr fca (fun x y q1 q2 q3 q4 => b9 x y q1 (by omega))
            have fxb : FrX X (up Xb 95 34 (Xb 95 32)) := FrX_tr (FrX_tr fxa (fun a b q1 q2 => b11 a b (by omega))) (fun a b _ q => by rw [up_ap, if_neg (by omega)])
            have hn2 : nE t n (nE t n (s + 4)) ≤ n := ad_le (ad_le hn1)
            have hg2 : nE t n (s + 4) ≤ nE t n (nE t n (s + 4)) := Nat.le_trans ad_ge ad_ge
            have T3 : TxX (up Xb 95 34 (Xb 95 32)) t n := TxX_u b4 (by omega)
            have hsk := tx_skip (i := nE t n (nE t n (s + 4))) T3 (by rw [up_j (by omega)]; exact b6) hn2
            rw [b1, bd_some, fEq (by omega), b2, bd_some, fEq (by omega), hsk, bd_some]
            generalize hXs : up (up Xb 95 34 (Xb 95 32)) 95 31 ((ad isB t n (nE t n (nE t n (s + 4))) : Nat) : Int) = Xs
            have Ts : TxX Xs t n := by rw [← hXs]; exact TxX_u T3 (by omega)
            have hXs31 : Xs 95 31 = ((ad isB t n (nE t n (nE t n (s + 4))) : Nat) : Int) := by rw [← hXs]; exact up_same
            have fxs : FrX X Xs := FrX_tr fxb (fun a b _ q => by rw [← hXs, up_ap, if_neg (by omega)])
            have hskn : ad isB t n (nE t n (nE t n (s + 4))) ≤ n := ad_le hn2
            have hv33 : Xs 95 33 = nV t n (s + 4) := by rw [← hXs, up_j (by omega), up_j (by omega), b11 _ _ (by omega), up_same, a8]
            have hv34 : Xs 95 34 = nV t n (nE t n (s + 4)) := by rw [← hXs, up_j (by omega), up_same, b8]
            have hnum := tx_number (lo := 1) (hi' := 60) Ts hXs31 hskn (by omega) (by omega)
            have hen : nE t n (ad isB t n (nE t n (nE t n (s + 4)))) = nE t n (nE t n (nE t n (s + 4))) := by unfold nE; rw [ad_idem]
            have hvn : nV t n (ad isB t n (nE t n (nE t n (s + 4)))) = nV t n (nE t n (nE t n (s + 4))) := by unfold nV; rw [hen, ad_idem]
            rw [hen, hvn, ad_idem] at hnum
            have hn3 : nE t n (nE t n (nE t n (s + 4))) ≤ n := ad_le (ad_le hn2)
            have hg3 : nE t n (nE t n (s + 4)) ≤ nE t n (nE t n (nE t n (s + 4))) := Nat.le_trans ad_ge ad_ge
            rcases both_num (k := 2) b3 (TxX_u b4 (y := 31) (z := ((nE t n (nE t n (s + 4)) : Nat) : Int)) (by omega)) b5 up_same hn2 (by omega) (kz := 2) rfl (lo := 1) (hi' := 60) (by omega) (by omega) with ⟨k3, Cc, _, c1, _, c3, _, c5, _, c7, _, c9, c10, _, c12⟩ | ⟨k3, Cc, _, q, c1, _, c3, _, c5, _, c7, c8, _, c10⟩
            · have fcc : FrC C Cc := FrC_tr fcb (fun x y q1 q2 q3 q4 => c9 x y q1 (by omega))
              rcases hnum with ⟨m1, m2⟩ | ⟨m1, m2⟩
              · have e26_0 : Cc 26 0 = nV t n (s + 4) := by rw [c9 _ _ (by omega) (by omega), b9 _ _ (by omega) (by omega)]; exact a7
                have e26_1 : Cc 26 1 = nV t n (nE t n (s + 4)) := by rw [c9 _ _ (by omega) (by omega)]; exact b7
                have r1 := k1.2
                have r2 := k2.2
                have r3 := k3.2
                generalize hXc : up (up (up Xs 95 31 ((ad isB t n (nE t n (nE t n (s + 4))) : Nat) : Int)) 95 32 (nV t n (nE t n (nE t n (s + 4))))) 95 31 ((nE t n (nE t n (nE t n (s + 4))) : Nat) : Int) = Xc at m2
                have Tc : TxX Xc t n := by rw [← hXc]; exact TxX_u (TxX_u (TxX_u Ts (by omega)) (by omega)) (by omega)
                have xc33 : Xc 95 33 = nV t n (s + 4) := by rw [← hXc, up_j (by omega), up_j (by omega), up_j (by omega)]; exact hv33
                have xc34 : Xc 95 34 = nV t n (nE t n (s + 4)) := by rw [← hXc, up_j (by omega), up_j (by omega), up_j (by omega)]; exact hv34
                have xc32 : Xc 95 32 = nV t n (nE t n (nE t n (s + 4))) := by rw [← hXc, up_j (by omega), up_same]
                have xc31 : Xc 95 31 = ((nE t n (nE t n (nE t n (s + 4))) : Nat) : Int) := by rw [← hXc]; exact up_same
                have fxc : FrX X Xc := FrX_tr fxs (fun a b _ q => by rw [← hXc, up_ap, if_neg (by omega), up_ap, if_neg (by omega), up_ap, if_neg (by omega)])
                have hm1 : 0 ≤ nV t n (nE t n (s + 4)) * (nV t n (nE t n (nE t n (s + 4))) - 1) := Int.mul_nonneg (by omega) (by omega)
                have hm2 : nV t n (nE t n (s + 4)) * (nV t n (nE t n (nE t n (s + 4))) - 1) ≤ 99 * (nV t n (nE t n (nE t n (s + 4))) - 1) := Int.mul_le_mul_of_nonneg_right (by omega) (by omega)
                unfold f_X5_number f_X7_endsInTime f_X8_isLoad
                rw [c1, bd_some, fEq (by omega), m2, bd_some, fEq (by omega), fLt (a := 0) (b := 0) (by omega), tLt (a := 0) (by omega), ix_t (by omega), bd_some, fLt (a := 1) (b := 0) (by omega), tLt (a := 1) (by omega), ix_t (by omega), bd_some, fLt (a := 2) (b := 0) (by omega), tLt (a := 2) (by omega), ix_t (by omega), bd_some, xc33, xc34, xc32]
                show CmdRes t n s C X (bd (cLt 17575 (Cc 26 0 + Cc 26 1 * (Cc 26 2 - 1)) _ _) _) _
                rw [e26_0, e26_1, c7, mx_within (by simp only [R32]; omega) (by simp only [R32]; omega) (by simp only [R32]; omega), bd_some, if_pos (by omega), fEq (by omega), mx_within (by simp only [R32]; omega) (by simp only [R32]; omega) (by simp only [R32]; omega), bd_some, if_pos (by omega), fEq (by omega), mx_within (by simp only [R32]; omega) (by simp only [R32]; omega) (by simp only [R32]; omega), bd_some, if_pos (by omega), fEq (by omega)]
                by_cases hsum : 17575 < nV t n (s + 4) + nV t n (nE t n (s + 4)) * (nV t n (nE t n (nE t n (s + 4))) - 1)
                · rw [tLt (by omega), tLt (by omega), bd_some, bd_some, tEq (by omega), tEq (by omega), hXs31, bd_some, bo_t (by omega), bd_some, tEq (by omega)]
                  refine Or.inl ⟨Cc, _, ad isB t n (nE t n (nE t n (s + 4))), fun E hE => absurd (hoE E hE).2.2.2.2.1 (by omega), rfl, rfl, c12, up_same, hskn, c3, TxX_u Tc (by omega), fcc, FrX_tr fxc (fun a b _ q => by rw [up_ap, if_neg (by omega)])⟩
                · rw [fLt (by omega), fLt (by omega), bd_some, bd_some, fEq (by omega), fEq (by omega), bd_some, bo_t (by omega), bd_some, fEq (by omega)]
                  rcases both_stop c3 Tc c5 xc31 hn3 with ⟨k4, Cd, Xd, d1, d2, d3, d4, d5, d6, d7, d8, d9⟩ | ⟨k4, Cd, Xd, q, d1, d2, d3, d4, d5, d6, d7, d8, d9⟩
                  · have hsg : nE t n (nE t n (nE t n (s + 4))) ≤ ad isB t n (nE t n (nE t n (nE t n (s + 4)))) := ad_ge
                    rw [d1, bd_some, fEq (by omega), d2, bd_some, fEq (by omega)]
                    have y33 : Xd 95 33 = nV t n (s + 4) := by rw [d9 _ _ (by omega)]; exact xc33
                    have y34 : Xd 95 34 = nV t n (nE t n (s + 4)) := by rw [d9 _ _ (by omega)]; exact xc34
                    have y32 : Xd 95 32 = nV t n (nE t n (nE t n (s + 4))) := by rw [d9 _ _ (by omega)]; exact xc32
                    refine Or.inr ⟨Cd, Xd, _, 3, Or.inr (Or.inr ⟨u1, k1, k2, k3, by omega, k4, rfl⟩), rfl, rfl, by omega, by have := k4.1; omega, d5, d6, d3, d4, FrC_tr fcc (fun x y q1 _ _ _ => d7 x y q1), FrX_tr fxc (fun a b q1 q2 => d9 a b (by omega)), Or.inr (Or.inr ⟨rfl, ?_, ?_, ?_, ?_, ?_, ?_⟩)⟩
                    · rw [d8, c10, b10, a10, up_same]
                    · rw [d7 _ _ (by omega), e26_0, y33]
                    · rw [d7 _ _ (by omega), e26_1, y34]
                    · rw [d7 _ _ (by omega), c7, y32]
                    · rw [y32]; omega
                    · rw [y33, y34, y32]
                      have : ((nV t n (nE t n (nE t n (s + 4)))).toNat : Int) = nV t n (nE t n (nE t n (s + 4))) := by omega
                      exact ⟨r1.1, r2.1, r2.2, by omega, by omega, by rw [this]; omega⟩
                  · rw [d1, bd_some, tEq (by omega), d2, bd_some, tEq (by omega)]
                    exact Or.inl ⟨Cd, Xd, q, fun E hE => k4 (hoE E hE).2.2.2.2.2.1, rfl, rfl, d5, d6, d7, d3, d4, FrC_tr fcc (fun x y q1 _ _ _ => d8 x y q1), FrX_tr fxc (fun a b q1 q2 => d9 a b (by omega))⟩
              · exact absurd (NumOk_sk.mpr k3) m1
            · rcases hnum with ⟨m1, m2⟩ | ⟨m1, m2⟩
              · exact absurd (NumOk_sk.mp m1) k3
              · have hq : (q : Int) = ((ad isB t n (nE t n (nE t n (s + 4))) : Nat) : Int) := by rw [c10]
                rw [c1, bd_some, tEq (by omega), m2, bd_some, tEq (by omega), bd_some, bo_t (by omega), bd_some, tEq (by omega)]
                exact Or.inl ⟨Cc, _, q, fun E hE => k3 (hoE E hE).2.2.2.1, rfl, rfl, c5, by rw [up_same, hq], c7, c3, TxX_u Ts (by omega), FrC_tr fcb (fun x y q1 _ _ _ => c8 x y q1), FrX_tr fxs (fun a b _ q => by rw [up_ap, if_neg (by omega)])⟩
          · rw [b1, bd_some, tEq (by omega), b2, bd_some, tEq (by omega), bd_some, bo_t (by omega), bd_some, tEq (by omega)]
            exact Or.inl ⟨Cb, Xb, q, fun E hE => k2 (hoE E hE).2.2.1, rfl, rfl, b5, b6, b7, b3, b4, FrC_tr fca (fun x y q1 _ _ _ => b8 x y q1), FrX_tr fxa (fun a b q1 q2 => b9 a b (by omega))⟩
        · rw [a1, bd_some, tEq (by omega), a2, bd_some, tEq (by omega), bd_some, bo_t (by omega), bd_some, tEq (by omega)]
          exact Or.inl ⟨Ca, Xa, q, fun E hE => k1 (hoE E hE).2.1, rfl, rfl, a5, a6, a7, a3, a4, FrC_tr fc0 (fun x y q1 _ _ _ => a8 x y q1), FrX_tr fx0 (fun a b q1 q2 => a9 a b (by omega))⟩
      · -- none
        have hm : f_X8_commandHere X = some (X, 0) := by
          rcases tx_cmd h2 hX (by omega) with q | q | q | q
          · exact absurd q.1 w1
          · exact absurd q.1 v1
          · exact absurd q.1 u1
          · exact q.2.2.2
        rw [u2, bd_some, tEq (by omega), hm, bd_some, tEq (by omega)]
        refine Or.inl ⟨_, X, s, ?_, rfl, rfl, by rw [up_j (by omega)]; exact hC2, hX, by omega, T0, h2, fc0, FrX_refl⟩
        intro E hE
        rcases hE with q | q | q
        · exact w1 q.1
        · exact v1 q.1
        · exact u1 q.1
end RU

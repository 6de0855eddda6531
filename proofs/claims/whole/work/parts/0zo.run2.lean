/-! RUN. -/
def AllOk (t : Nat → Int) (n : Nat) : Nat → Nat → Prop
  | 0, e => n ≤ ad isB t n e
  | m + 1, e => ad isB t n e < n → ∃ E, CmdR t n (ad isB t n e) E ∧ AllOk t n m E
section R3
variable {C C' X X' : Mem} {t : Nat → Int} {n i e st k s E : Nat} {z a b c : Int}
theorem Inv_fr (h : Inv C X) (h1 : FrC C C') (h2 : FrX X X') (h3 : C' 4 1 = C 4 1) : Inv C' X' := by
  refine ⟨Tree_kp h.1 (fun x y hx => h1 x y (by omega) (by omega) (by omega) (by omega)) (fun a b hab => h2 a b (by omega) (by omega)), ?_, ?_, ?_⟩
  · obtain ⟨n, n1, n2, n3, n4⟩ := h.2.1
    refine ⟨n, n1, by rw [h3]; exact n2, by rw [h2 _ _ (by omega) (by omega)]; exact n3, fun j hj => ?_⟩
    rw [h1 _ _ (by omega) (by omega) (by omega) (by omega), h2 _ _ (by omega) (by omega)]; exact n4 j hj
  · rcases h.2.2.1 with ⟨q1, q2⟩ | ⟨q1, P, root, L, g1, g2, g3, g4, g5, g6, g7⟩
    · exact Or.inl ⟨by rw [h1 _ _ (by omega) (by omega) (by omega) (by omega)]; exact q1, by rw [h2 _ _ (by omega) (by omega)]; exact q2⟩
    · exact Or.inr ⟨by rw [h1 _ _ (by omega) (by omega) (by omega) (by omega)]; exact q1, P, root, L, g1, by rw [h1 _ _ (by omega) (by omega) (by omega) (by omega)]; exact g2, by rw [h1 _ _ (by omega) (by omega) (by omega) (by omega)]; exact g3, by rw [h2 _ _ (by omega) (by omega)]; exact g4, by rw [h2 _ _ (by omega) (by omega)]; exact g5, fun i hi j hj => by rw [h1 _ _ (by omega) (by omega) (by omega) (by omega)]; exact g6 i hi j hj, fun i hi j hj => by rw [h2 _ _ (by omega) (by omega)]; exact g7 i hi j hj⟩
  · rcases h.2.2.2 with ⟨q1, q2⟩ | ⟨q1, P, root, L, g1, g2, g3, g4, g5, g6, g7⟩
    · exact Or.inl ⟨by rw [h1 _ _ (by omega) (by omega) (by omega) (by omega)]; exact q1, by rw [h2 _ _ (by omega) (by omega)]; exact q2⟩
    · exact Or.inr ⟨by rw [h1 _ _ (by omega) (by omega) (by omega) (by omega)]; exact q1, P, root, L, g1, by rw [h1 _ _ (by omega) (by omega) (by omega) (by omega)]; exact g2, by rw [h1 _ _ (by omega) (by omega) (by omega) (by omega)]; exact g3, by rw [h2 _ _ (by omega) (by omega)]; exact g4, by rw [h2 _ _ (by omega) (by omega)]; exact g5, fun i hi j hj => by rw [h1 _ _ (by omega) (by omega) (by omega) (by omega)]; exact g6 i hi j hj, fun i hi j hj => by rw [h2 _ _ (by omega) (by omega)]; exact g7 i hi j hj⟩
/-- is there more: the class has read the next token -/
theorem sp_more (h : TxC C t n) (he : C 4 3 = (e : Int)) (hen : e ≤ n) : ∃ C', TxC C' t n ∧ FrC C C' ∧ ((n ≤ ad isB t n e ∧ f_X5_hasMore C = some (C', 0)) ∨ (ad isB t n e < n ∧ f_X5_hasMore C = some (C', 1) ∧ Tok1 C' t n (ad isB t n e))) := by
  obtain ⟨C', r1, r2, r3, r4, r5, r6⟩ := tc_tok h he hen
  refine ⟨C', r2, fun x y q _ _ _ => r3 x y q, ?_⟩
  unfold f_X5_hasMore
  rw [r1, bd_some]
  rcases r6 with ⟨q1, q2, q3⟩ | ⟨q1, q | q | q⟩
  · exact Or.inl ⟨q1, by rw [tEq (by omega)]⟩
  · exact Or.inr ⟨q1, by rw [fEq (by omega)], r5, q1, Or.inl q⟩
  · have hnl : isL (t (ad isB t n e)) = false := by
      have hf := figs q.1
      unfold isL
      simp
      omega
    obtain ⟨q2, q3, q4 | q4⟩ := q
    · exact Or.inr ⟨q1, by rw [fEq (by omega)], r5, q1, Or.inr ⟨hnl, by omega, by omega, by omega⟩⟩
    · exact Or.inr ⟨q1, by rw [fEq (by omega)], r5, q1, Or.inr ⟨hnl, by omega, by omega, by omega⟩⟩
  · have h4 : C' 4 4 = 3 ∨ C' 4 4 = 4 := by rw [q.2.2.2]; split <;> omega
    exact Or.inr ⟨q1, by rw [fEq (by omega)], r5, q1, Or.inr ⟨q.1, by omega, by omega, by omega⟩⟩
theorem pass1 {K' : Mem → Option (Mem × Int)} : ∀ (m f f' e : Nat) (v1 : Int) (C X : Mem), TxC C t n → TxX X t n → C 4 3 = (e : Int) → X 95 31 = ((ad isB t n e : Nat) : Int) → e ≤ n → 0 ≤ v1 → v1 ≤ (e : Int) → n - e ≤ m → m < f → m < f' → (∃ (C' X' : Mem) (q : Nat), q ≤ n ∧ f_X5_firstFault_6 (fun (v1_e6 : Int) (C_e6 : Mem) => (some (C_e6, -1))) f v1 C = some (C', (q : Int)) ∧ f_X8_run_9 K' f' X = some (X', (-10) - (q : Int)) ∧ TxC C' t n ∧ TxX X' t n ∧ FrC C C' ∧ FrX X X') ∨ (∃ (C' X' : Mem), f_X5_firstFault_6 (fun (v1_e6 : Int) (C_e6 : Mem) => (some (C_e6, -1))) f v1 C = some (C', -1) ∧ f_X8_run_9 K' f' X = K' X' ∧ AllOk t n m e ∧ TxC C' t n ∧ TxX X' t n ∧ FrC C C' ∧ FrX X X')
  | _, 0, _ => by intros; omega
  | _, _, 0 => by intros; omega
  | m, f + 1, f' + 1 => by
    intro e v1 C X h1 h2 hC hX he hv0 hv hm hf hf'
    have hn := h1.2.1
    obtain ⟨C1, t1, t2, t3⟩ := sp_more h1 hC he
    have hsge : e ≤ ad isB t n e := ad_ge
    have hsle : ad isB t n e ≤ n := ad_le he
    unfold f_X5_firstFault_6 f_X8_run_9
    rw [fLt (by omega), hX, h2.1]
    rcases t3 with ⟨q1, q2⟩ | ⟨q1, q2, q3⟩
    · rw [q2, bd_some, tEq (by omega), fLt (by omega)]
      refine Or.inr ⟨C1, X, rfl, rfl, ?_, t1, h2, t2, FrX_refl⟩
      cases m with
      | zero => exact q1
      | succ m => intro hh; omega
    · rw [q2, bd_some, fEq (by omega), tLt (by omega)]
      rcases both_cmd t1 h2 q3 hX with ⟨C2, X2, q, g1, g2, g3, g4, g5, g6, g7, g8, g9, g10⟩ | ⟨C2, X2, E, c, g1, g2, g3, g4, g5, g6, g7, g8, g9, g10, g11, g12⟩
      · rw [g2, bd_some, tEq (by omega), g3, bd_some, tEq (by omega), g4, g5]
        exact Or.inl ⟨C2, X2, q, g6, rfl, rfl, g7, g8, FrC_tr t2 g9, g10⟩
      · have hc : c = 1 ∨ c = 2 ∨ c = 3 := by
          rcases g12 with q | q | q
          · exact Or.inl q.1
          · exact Or.inr (Or.inl q.1)
          · exact Or.inr (Or.inr q.1)
        have hsk := tx_skip g9 g7 g5
        rw [g2, bd_some, fEq (by omega), g3, bd_some, fEq (by omega), hsk, bd_some]
        cases m with
        | zero => omega
        | succ m =>
          rcases pass1 (K' := K') m f f' E (v1 + 1) C2 (up X2 95 31 ((ad isB t n E : Nat) : Int)) g8 (TxX_u g9 (by omega)) g6 up_same g5 (by omega) (by omega) (by omega) (by omega) (by omega) with ⟨C3, X3, q, i0, i1, i2, i3, i4, i5, i6⟩ | ⟨C3, X3, i1, i2, i3, i4, i5, i6, i7⟩
          · exact Or.inl ⟨C3, X3, q, i0, i1, i2, i3, i4, FrC_tr (FrC_tr t2 g10) i5, FrX_tr (FrX_tr g11 (fun a b _ q => by rw [up_ap, if_neg (by omega)])) i6⟩
          · exact Or.inr ⟨C3, X3, i1, i2, fun _ => ⟨E, g1, i3⟩, i4, i5, FrC_tr (FrC_tr t2 g10) i6, FrX_tr (FrX_tr g11 (fun a b _ q => by rw [up_ap, if_neg (by omega)])) i7⟩
theorem TxC_kp (h : TxC C t n) (h1 : KpC C C') : TxC C' t n := ⟨by rw [h1 _ _ (by omega) (by omega) (by omega)]; exact h.1, h.2.1, fun j hj => by rw [h1 _ _ (by omega) (by omega) (by omega)]; exact h.2.2 j hj⟩
theorem TxX_kp (h : TxX X t n) (h1 : KpX X X') : TxX X' t n := ⟨by rw [h1 _ _ (by omega)]; exact h.1, h.2.1, fun j hj => by rw [h1 _ _ (by omega)]; exact h.2.2 j hj⟩
/-- what was read is done, on both sides alike -/
theorem both_do (h : Inv C X) (ht : Told C X c) : ∃ (C' X' : Mem) (z d : Int), KpC C C' ∧ KpX X X' ∧ Inv C' X' ∧ (d = 0 ∨ d = 1) ∧ f_X8_does c X = some (X', d) ∧ ((c = 1 ∧ f_X0_putKey 4 (C 26 0) C = some (C', z) ∧ -9 ≤ z ∧ z ≤ 255 ∧ (z = -3 ↔ d = 0)) ∨ (c = 2 ∧ f_X0_takeKey 4 C = some (C', z) ∧ -9 ≤ z ∧ z ≤ 255 ∧ (z = -9 ↔ d = 0)) ∨ (c = 3 ∧ f_X0_loadRow (C 26 0) (C 26 1) (C 26 2) C = some (C', z) ∧ d = 1)) := by
  obtain ⟨P, root, L, d1, d2, d3, r1, r2, r3⟩ := h.1
  rcases ht with ⟨c1, c2, w, k1, k2, k3, k4, k5, k6⟩ | ⟨c1, c2, w, k1, k2, k3⟩ | ⟨c1, c2, k1, k2, k3, k4, k5⟩
  · obtain ⟨y, y1, y2, hf⟩ := put_key (z := X 95 32) r3 r1 r2 k1 (by omega) (by omega) k2 k3 ⟨k5, k6⟩
    obtain ⟨C', X', P', root', L', e1, e2, e3, g1, g2, g3, g4, g5, g6, g7⟩ := hf
    refine ⟨C', X', y, if y = -3 then 0 else 1, g6, g7, Inv_kp h ⟨P', root', L', e1, e2, e3, g3, g4, g5⟩ g6 g7, ?_, ?_, Or.inl ⟨c1, by rw [k4]; exact g1, y1, y2, ?_⟩⟩
    · split
      · exact Or.inl rfl
      · exact Or.inr rfl
    · unfold f_X8_does
      rw [c1, tEq (by omega), g2, bd_some]
      by_cases h3 : y = -3
      · rw [tEq (by omega), if_pos h3]
      · rw [fEq (by omega), if_neg h3]
    · by_cases h3 : y = -3
      · rw [if_pos h3]; simp [h3]
      · rw [if_neg h3]
        constructor
        · intro q; exact absurd q h3
        · intro q; omega
  · obtain ⟨y, y1, y2, hf⟩ := take_key r3 r1 r2 k1 (by omega) k2
    obtain ⟨C', X', P', root', L', e1, e2, e3, g1, g2, g3, g4, g5, g6, g7⟩ := hf
    refine ⟨C', X', y, if y = -9 then 0 else 1, g6, g7, Inv_kp h ⟨P', root', L', e1, e2, e3, g3, g4, g5⟩ g6 g7, ?_, ?_, Or.inr (Or.inl ⟨c1, g1, y1, y2, ?_⟩)⟩
    · split
      · exact Or.inl rfl
      · exact Or.inr rfl
    · unfold f_X8_does
      rw [c1, fEq (by omega), tEq (by omega), g2, bd_some]
      by_cases h3 : y = -9
      · rw [tEq (by omega), if_pos h3]
      · rw [fEq (by omega), if_neg h3]
    · by_cases h3 : y = -9
      · rw [if_pos h3]; simp [h3]
      · rw [if_neg h3]
        constructor
        · intro q; exact absurd q h3
        · intro q; omega
  · have hcz : X 95 32 = (((X 95 32).toNat : Nat) : Int) := by omega
    obtain ⟨C', X', P', root', L', q1, q2, q3, q4, q5, q6, q7, q8, q9⟩ := ld_all k5 r1 r2
    rw [← hcz] at q1 q2
    refine ⟨C', X', 0, 1, q8, q9, Inv_kp h ⟨P', root', L', d1, d2, d3, q5, q6, q7⟩ q8 q9, Or.inr rfl, ?_, Or.inr (Or.inr ⟨c1, by rw [k1, k2, k3]; exact q1, rfl⟩)⟩
    unfold f_X8_does
    rw [c1, fEq (by omega), fEq (by omega), q2, bd_some, tLt (by omega)]
theorem pass2 : ∀ (m f f' e : Nat) (v2 v3 : Int) (C X : Mem), Inv C X → TxC C t n → TxX X t n → C 4 3 = (e : Int) → X 95 31 = ((ad isB t n e : Nat) : Int) → e ≤ n → 0 ≤ v3 → v3 ≤ (e : Int) → n - e ≤ m → AllOk t n m e → m < f → m < f' → Agree Inv (f_X7_run_28 (fun (v2_e28 : Int) (v3_e28 : Int) (C_e28 : Mem) => (some ((up C_e28 4 1 (0)), v2_e28))) f v2 v3 C) (f_X8_run_53 (fun (v1_e53 : Int) (C_e53 : Mem) => (some ((up C_e53 95 30 (0)), v1_e53))) f' v2 X)
  | _, 0, _ => by intros; omega
  | _, _, 0 => by intros; omega
  | m, f + 1, f' + 1 => by
    intro e v2 v3 C X hI h1 h2 hC hX he hv0 hv hm hok hf hf'
    have hn := h1.2.1
    have hsge : e ≤ ad isB t n e := ad_ge
    have hsle : ad isB t n e ≤ n := ad_le he
    obtain ⟨C1, t1, t2, t3⟩ := sp_more h1 hC he
    unfold f_X7_run_28 f_X8_run_53
    rw [hX, h2.1]
    by_cases h120 : v3 < 120
    · rw [tLt (a := v3) (by omega)]
      rcases t3 with ⟨q1, q2⟩ | ⟨q1, q2, q3⟩
      · rw [q2, bd_some, tEq (by omega), fLt (by omega)]
        exact ⟨_, _, _, rfl, rfl, Inv_clear (Inv_fr hI t2 FrX_refl (by rw [t1.1, h1.1]))⟩
      · rw [q2, bd_some, fEq (by omega), tLt (by omega)]
        have hI1 : Inv C1 X := Inv_fr hI t2 FrX_refl (by rw [t1.1, h1.1])
        cases m with
        | zero => omega
        | succ m =>
        obtain ⟨E0, hE0, hok2⟩ := hok q1
        rcases both_cmd t1 h2 q3 hX with ⟨C2, X2, q, g1, _⟩ | ⟨C2, X2, E, c, g1, g2, g3, g4, g5, g6, g7, g8, g9, g10, g11, g12⟩
        · exact absurd hE0 (g1 E0)
        · have hEE : E = E0 := CmdR_fun g1 hE0
          subst hEE
          have hI2 : Inv C2 X2 := Inv_fr hI1 g10 g11 (by rw [g8.1, t1.1])
          obtain ⟨C3, X3, z, d, p1, p2, p3, p4, p5, p6⟩ := both_do hI2 g12
          have e43 : C3 4 3 = (E : Int) := by rw [p1 _ _ (by omega) (by omega) (by omega)]; exact g6
          have e31 : X3 95 31 = (E : Int) := by rw [p2 _ _ (by omega)]; exact g7
          have T3 := TxC_kp g8 p1
          have S3 := TxX_kp g9 p2
          have hsk := tx_skip S3 e31 g5
          have hI4 : Inv C3 (up X3 95 31 ((ad isB t n E : Nat) : Int)) := Inv_fr p3 FrC_refl (fun a b _ q => by rw [up_ap, if_neg (by omega)]) rfl
          have ih := fun v => pass2 m f f' E v (v3 + 1) C3 (up X3 95 31 ((ad isB t n E : Nat) : Int)) hI4 T3 (TxX_u S3 (by omega)) e43 up_same g5 (by omega) (by omega) (by omega) hok2 (by omega) (by omega)
          have modl : ∀ K : Int → Mem → Option (Mem × Int), (bd (f_X8_readsCommand X) (fun C67 r67 => (bd (f_X8_does (r67) C67) (fun C70 r70 => (jn ((fun (s1_81 : Int) => (bd (f_X8_skip C70) (fun C84 _ => (f_X8_run_53 K f' (v2 + s1_81) C84)))) : Int → Option (Mem × Int)) (fun j81 => (cEq (r70) 0 (j81 (0)) (j81 (1))))))))) = f_X8_run_53 K f' (v2 + d) (up X3 95 31 ((ad isB t n E : Nat) : Int)) := by
            intro K
            rw [g3, bd_some, p5, bd_some, jn_eq]
            rcases p4 with hd | hd
            · subst hd
              rw [tEq (by omega)]
              dsimp only
              rw [hsk, bd_some]
            · subst hd
              rw [fEq (by omega)]
              dsimp only
              rw [hsk, bd_some]
          rw [modl, g2, bd_some, fEq (by omega), jn_eq]
          unfold f_X5_number
          rcases p6 with ⟨c1, c2, c3, c4, c5⟩ | ⟨c1, c2, c3, c4, c5⟩ | ⟨c1, c2, c3⟩
          · have e46 : C2 4 6 = 0 := by
              rcases g12 with q | q | q
              · exact q.2.1
              · have := q.1; omega
              · have := q.1; omega
            rw [tEq (by omega), fLt (a := 0) (b := 0) (by omega), tLt (a := 0) (by omega), ix_t (by omega), bd_some]
            show Agree Inv (bd (f_X0_putKey 4 (C2 26 0) C2) _) _
            rw [c2, bd_some, jn_eq]
            by_cases hz : z = -3
            · rw [tEq (by omega)]
              dsimp only
              rw [fEq (by omega), show d = 0 from c5.mp hz]
              exact ih _
            · rw [fEq (by omega)]
              dsimp only
              have : d = 1 := by
                rcases p4 with q | q
                · exact absurd (c5.mpr q) hz
                · exact q
              rw [tEq (by omega), this]
              exact ih _
          · have e46 : C2 4 6 = 1 := by
              rcases g12 with q | q | q
              · have := q.1; omega
              · exact q.2.1
              · have := q.1; omega
            rw [fEq (by omega), tEq (by omega), c2, bd_some, jn_eq]
            by_cases hz : z = -9
            · rw [tEq (by omega)]
              dsimp only
              rw [fEq (by omega), show d = 0 from c5.mp hz]
              exact ih _
            · rw [fEq (by omega)]
              dsimp only
              have : d = 1 := by
                rcases p4 with q | q
                · exact absurd (c5.mpr q) hz
                · exact q
              rw [tEq (by omega), this]
              exact ih _
          · have e46 : C2 4 6 = 2 := by
              rcases g12 with q | q | q
              · have := q.1; omega
              · have := q.1; omega
              · exact q.2.1
            rw [fEq (a := C2 4 6) (b := 0) (by omega), fEq (a := C2 4 6) (b := 1) (by omega), fLt (a := 0) (b := 0) (by omega), tLt (a := 0) (by omega), ix_t (by omega), bd_some, fLt (a := 1) (b := 0) (by omega), tLt (a := 1) (by omega), ix_t (by omega), bd_some, fLt (a := 2) (b := 0) (by omega), tLt (a := 2) (by omega), ix_t (by omega), bd_some]
            show Agree Inv (bd (f_X0_loadRow (C2 26 0) (C2 26 1) (C2 26 2) C2) _) _
            rw [c2, bd_some]
            dsimp only
            rw [tEq (by omega), c3]
            exact ih _
    · rw [fLt (a := v3) (by omega), fLt (by omega)]
      exact ⟨_, _, _, rfl, rfl, Inv_clear hI⟩
theorem ag_run (h : Inv C X) : Agree Inv (f_X7_run C) (f_X8_run X) := by
  have hfu := FU_eq
  obtain ⟨n, n1, n2, n3, n4⟩ := h.2.1
  have T : TxC C (fun j => C 25 j) n := ⟨n2, n1, fun j hj => ⟨rfl, (n4 j hj).2⟩⟩
  have S : TxX X (fun j => C 25 j) n := ⟨n3, n1, fun j hj => ⟨(n4 j hj).1.symm, (n4 j hj).2⟩⟩
  generalize (fun j => C 25 j) = t at T S
  have T0 : TxC (up C 4 3 0) t n := TxC_u T (by omega)
  have S0 : TxX (up X 95 31 0) t n := TxX_u S (by omega)
  have sk := tx_skip (i := 0) S0 up_same (by omega)
  rw [up_up] at sk
  have S1 : TxX (up X 95 31 ((ad isB t n 0 : Nat) : Int)) t n := TxX_u S (by omega)
  have fc0 : FrC C (up C 4 3 0) := fun x y q _ _ _ => up_k q
  have fx0 : FrX X (up X 95 31 ((ad isB t n 0 : Nat) : Int)) := fun a b _ q => by rw [up_ap, if_neg (by omega)]
  unfold f_X7_run f_X8_run f_X5_firstFault f_X5_rewind
  rw [bd_some, sk, bd_some]
  rcases pass1 (K' := (fun (C_e9 : Mem) => (bd (f_X8_skip (up C_e9 95 31 (0))) (fun C48 _ => (f_X8_run_53 (fun (v1_e53 : Int) (C_e53 : Mem) => (some ((up C_e53 95 30 (0)), v1_e53))) FU (0) C48))))) n FU FU 0 0 (up C 4 3 0) (up X 95 31 ((ad isB t n 0 : Nat) : Int)) T0 S1 up_same up_same (by omega) (by omega) (by omega) (by omega) (by omega) (by omega) with ⟨C', X', q, i0, i1, i2, i3, i4, i5, i6⟩ | ⟨C', X', i1, i2, i3, i4, i5, i6, i7⟩
  · rw [i1, i2, bd_some, fLt (by omega)]
    exact ⟨C', X', _, rfl, rfl, Inv_fr h (FrC_tr fc0 i5) (FrX_tr fx0 i6) (by rw [i3.1, n2])⟩
  · rw [i1, i2, bd_some, tLt (by omega), bd_some]
    have hI : Inv C' X' := Inv_fr h (FrC_tr fc0 i6) (FrX_tr fx0 i7) (by rw [i4.1, n2])
    have sk2 := tx_skip (i := 0) (TxX_u i5 (y := 31) (z := 0) (by omega)) up_same (by omega)
    rw [up_up] at sk2
    rw [sk2, bd_some]
    exact pass2 n FU FU 0 0 0 (up C' 4 3 0) (up X' 95 31 ((ad isB t n 0 : Nat) : Int)) (Inv_fr hI (fun x y q _ _ _ => up_k q) (fun a b _ q => by rw [up_ap, if_neg (by omega)]) (by rw [up_j (by omega)])) (TxC_u i4 (by omega)) (TxX_u i5 (by omega)) up_same up_same (by omega) (by omega) (by omega) (by omega) i3 (by omega) (by omega)
end R3

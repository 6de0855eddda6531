/-! CHECK 10: the call check; the start; all calls agree. -/
section KA
variable {C X C' X' : Mem} {B : By} {p q root L : Nat} {a b c : Int}
theorem both_wrong (hC : RdC C B) (hX : Rw X B) (hB : ByOk B) (h1 : C 1 4 = (root : Int)) (h2 : C 1 5 = (L : Int)) (h3 : X 95 1 = (root : Int)) (h4 : X 95 2 = (L : Int)) (hr : root < 32) (hL1 : 1 ≤ L) (hL32 : L ≤ 32) : ∃ C' X' z, f_X1_firstWrong C = some (C', z) ∧ (bd (f_X8_wrongDown X) (fun C46 r46 => (jn ((fun (s0_65 : Int) (C_65 : Mem) => (cEq (s0_65) 0 (bd (f_X8_wrongFree C_65) (fun C73 r73 => (some (C73, r73)))) (some (C_65, s0_65)))) : Int → Mem → Option (Mem × Int)) (fun j65 => (cEq (r46) 0 (bd (f_X8_wrongNext C46) (fun C57 r57 => (j65 (r57) C57))) (j65 (r46) C46)))))) = some (X', z) ∧ FrW C C' ∧ FrV X X' := by
  have hfu := FU_eq
  unfold f_X1_firstWrong f_X8_wrongDown
  obtain ⟨C1, i1, i2, i3⟩ := ck_reset (K := (fun (v1_e2 : Int) (C_e2 : Mem) => (bd (f_X1_walk 40 ((up C_e2 3 4 (0)) 1 4) (0) (-1) (-1) (up C_e2 3 4 (0))) (fun C37 r37 => (jn ((fun (x1_50 : Int) (C_50 : Mem) => (cEq (x1_50) 0 (bd (f_X1_strayPage C_50) (fun C55 r55 => (some (C55, r55)))) (some (C_50, x1_50)))) : Int → Mem → Option (Mem × Int)) (fun j50 => (cEq (r37) 0 (bd (f_X1_wrongNext C37) (fun C46 r46 => (j50 (r46) C46))) (j50 (r37) C37)))))))) 32 FU 0 C (by omega) (by rfl) (by omega) (fun k hk => by omega)
  obtain ⟨X1, x1, x2, x3⟩ := cm_reset (K := (fun (v1_e12 : Int) (C_e12 : Mem) => (bd (f_X8_waits (C_e12 95 1) (0) (-9) (-9) C_e12) (fun C41 _ => (f_X8_wrongDown_44 (fun (C_e44 : Mem) => (some (C_e44, 0))) FU C41))))) 32 FU 0 (up (up X 95 19 (0)) 95 24 (0)) (by omega) (by rfl) (by omega) (fun k hk => by omega)
  rw [i1, x1]
  have e14 : up C1 3 4 0 1 4 = (root : Int) := by rw [up_k (by omega), i3 _ _ (by omega)]; exact h1
  have e951 : X1 95 1 = (root : Int) := by rw [x3 _ _ (by omega), up_j (by omega), up_j (by omega)]; exact h3
  have e19 : X1 95 19 = (([] : List Frm).length : Int) := by rw [x3 _ _ (by omega), up_j (by omega), up_same]; rfl
  obtain ⟨X2, w1, w2, w3, w4⟩ := ca_waits (r := []) (X := X1) trivial e19 (by simp) (X1 95 1) 0 (-9) (-9)
  rw [w1, bd_some, e14]
  have hV1 : FrV X X2 := by
    intro x y q1 q2 q3
    rw [w4 x y q1 (by omega) (by omega) (by omega) (by omega), x3 x y (by omega)]
    unfold up
    rw [if_neg q2, if_neg q1]
  have hW1 : FrW C (up C1 3 4 0) := by
    intro x y _ _ q3 _ q5
    unfold up
    rw [if_neg q5, i3 x y q3]
  have hSt : St B root L (up C1 3 4 0) X2 (fun _ => 0) 0 := by
    refine ⟨fun q hq j hj => ?_, Rw_fr hX (fun b => hV1 _ _ (by omega) (by omega) (by omega)) (hV1 _ _ (by omega) (by omega) (by omega)) (hV1 _ _ (by omega) (by omega) (by omega)), fun k hk => ⟨?_, ?_, Or.inl rfl⟩, ?_, ?_, ?_, ?_, ?_, fun k hk => by omega, ?_⟩
    · rw [hW1 _ _ (by omega) (by omega) (by omega) (by omega) (by omega)]; exact hC q hq j hj
    · rw [up_k (by omega)]; exact i2 k hk
    · rw [w4 _ _ (by omega) (by omega) (by omega) (by omega) (by omega)]; exact x2 k hk
    · rw [hW1 _ _ (by omega) (by omega) (by omega) (by omega) (by omega)]; exact h2
    · rw [hV1 _ _ (by omega) (by omega) (by omega)]; exact h4
    · rw [hV1 _ _ (by omega) (by omega) (by omega)]; exact h3
    · rw [up_same]; rfl
    · rw [w4 _ _ (by omega) (by omega) (by omega) (by omega) (by omega), x3 _ _ (by omega), up_same]; rfl
    · rw [sm_zero]; simp
  have hz0 : sm (fun _ => (0 : Int)) 32 = 0 := sm_zero 32
  rw [e951] at w2
  have wk := ck_walk (K := (fun (C_e44 : Mem) => (some (C_e44, 0)))) hB hr hL32 (L - 1) 40 (up C1 3 4 0) X2 (fun _ => 0) 0 root 0 (root : Int) 0 (-1) (-1) (-9) (-9) none none [] FU (by omega) hSt hr rfl rfl (by omega) (Or.inl ⟨rfl, rfl, rfl⟩) (Or.inl ⟨rfl, rfl, rfl⟩) ⟨fun _ => rfl, fun _ => rfl⟩ (Or.inl rfl) (fun _ => rfl) (by rw [w3]) w2 (by simp) (by rw [hz0, Int.mul_zero]; omega)
  simp only [jn_eq]
  rcases wk with ⟨C', X', z, hz, u1, u2, u3, u4⟩ | ⟨C', X', S', m', n', u1, u2, u3, u4, u5, u6, u7, u8, u9, u10, u11⟩
  · rw [u1, u2, bd_some, bd_some, fEq (a := z) (by omega), fEq (a := z) (by omega), fEq (a := z) (by omega), fEq (a := z) (by omega)]
    exact ⟨C', X', z, rfl, rfl, FrW_tr hW1 u3, FrV_tr hV1 u4⟩
  · have hle : sm S' 32 ≤ 32 := sm_le (f := S') 32 (fun i hi => by have := St_S u3 i hi; omega)
    have hmul : ((L - 1 : Nat) : Int) * sm S' 32 ≤ ((L - 1 : Nat) : Int) * 32 := Int.mul_le_mul_of_nonneg_left hle (by omega)
    rw [hz0, Int.mul_zero] at u11
    have hm32 : m' ≤ 32 := by have := u3.2.2.2.2.2.2.2.2.2; omega
    rw [u1, u2, bd_some]
    cases n' with
    | zero => omega
    | succ n' =>
      rw [f_X8_wrongDown_44, fLt (a := 0) (b := X' 95 19) (by rw [u6]; simp), bd_some, tEq (a := 0) (by omega), tEq (a := 0) (by omega)]
      obtain ⟨z, hz, v1, v2⟩ := ck_next u3 hB hm32 m' FU FU 0 (by omega) (by omega) (by omega) (by omega)
      obtain ⟨y, y1, y2⟩ := ck_stray u3 hB 32 FU FU 0 (by omega) (by rfl) (by omega) (by omega)
      unfold f_X1_wrongNext f_X8_wrongNext f_X1_strayPage f_X8_wrongFree
      rw [v1, v2, bd_some, bd_some]
      by_cases k : z = 0
      · rw [tEq (a := z) (by omega), tEq (a := z) (by omega), y1, y2, bd_some, bd_some]
        exact ⟨C', X', y, rfl, rfl, FrW_tr hW1 u4, FrV_tr hV1 u5⟩
      · rw [fEq (a := z) (by omega), fEq (a := z) (by omega)]
        exact ⟨C', X', z, rfl, rfl, FrW_tr hW1 u4, FrV_tr hV1 u5⟩
theorem Inv_chk (h : Inv C X) (h1 : ∀ x y, (x < 10 ∨ x = 25 ∨ (61 ≤ x ∧ x < 93)) → ¬ (x = 3 ∧ y = 4) → C' x y = C x y) (h2 : ∀ a b, (a = 96 ∨ (a = 95 ∧ (b < 6 ∨ b = 30)) ∨ 110 ≤ a) → X' a b = X a b) : Inv C' X' := by
  obtain ⟨t1, t2, t3, t4⟩ := h
  have img : ∀ k, k < 2 → ImgOk C X k → ImgOk C' X' k := by
    intro k hk h
    rcases h with ⟨q1, q2⟩ | ⟨q1, P, root, L, g1, g2, g3, g4, g5, g6, g7⟩
    · exact Or.inl ⟨by rw [h1 _ _ (by omega) (by omega)]; exact q1, by rw [h2 _ _ (by omega)]; exact q2⟩
    · refine Or.inr ⟨by rw [h1 _ _ (by omega) (by omega)]; exact q1, P, root, L, g1, ?_, ?_, ?_, ?_, ?_, ?_⟩
      · rw [h1 _ _ (by omega) (by omega)]; exact g2
      · rw [h1 _ _ (by omega) (by omega)]; exact g3
      · rw [h2 _ _ (by omega)]; exact g4
      · rw [h2 _ _ (by omega)]; exact g5
      · intro i hi j hj; rw [h1 _ _ (by omega) (by omega)]; exact g6 i hi j hj
      · intro i hi j hj; rw [h2 _ _ (by omega)]; exact g7 i hi j hj
  refine ⟨Tree_kp t1 (fun x y q => h1 x y (by omega) (by omega)) (fun x y q => h2 x y (by omega)), ?_, img 0 (by omega) t3, img 1 (by omega) t4⟩
  obtain ⟨n, n1, n2, n3, n4⟩ := t2
  refine ⟨n, n1, ?_, ?_, ?_⟩
  · rw [h1 _ _ (by omega) (by omega)]; exact n2
  · rw [h2 _ _ (by omega)]; exact n3
  · intro j hj
    rw [h1 _ _ (by omega) (by omega), h2 _ _ (by omega)]; exact n4 j hj
theorem ag_check (h : Inv C X) (ha : R32 a) (hb : R32 b) (hc : R32 c) : Agree Inv (f_X7_check a b c C) (f_X8_check a b c X) := by
  unfold f_X7_check f_X8_check
  rw [sp_isPage ha, mx_isPage ha, bd_some, bd_some, cEq_b, cEq_b]
  by_cases k1 : 0 ≤ a ∧ a ≤ 31
  · rw [if_pos k1, if_pos k1, sp_within hb (by simp only [R32]; omega) (by simp only [R32]; omega), mx_within hb (by simp only [R32]; omega) (by simp only [R32]; omega), bd_some, bd_some, cEq_b, cEq_b]
    by_cases k2 : 0 ≤ b ∧ b ≤ 63
    · rw [if_pos k2, if_pos k2, sp_isByte hc, mx_within hc (by simp only [R32]; omega) (by simp only [R32]; omega), bd_some, bd_some, cEq_b, cEq_b]
      by_cases k3 : 0 ≤ c ∧ c ≤ 255
      · rw [if_pos k3, if_pos k3]
        obtain ⟨P, root, L, d1, d2, d3, r1, r2, V, lvl, hg⟩ := h.1
        have ho := hg.1.1
        have hai : a = ((a.toNat : Nat) : Int) := by omega
        have ha32 : a.toNat < 32 := by omega
        have hpl := pl_32 ha32
        have hbn : b.toNat < 64 := by omega
        have hpC := TC_pg ho r1.1 ha32
        rw [sp_pageOf hai ha32, bd_some, sp_at hpC (by omega) (by omega), bd_some]
        have hset : ∀ (M : Mem) (z : Int), f_X4_set a.toNat b z M = some (up M (61 + a.toNat) b.toNat z, 0) := by
          intro M z
          unfold f_X4_set
          rw [hpl, fLt (by omega), tLt (by omega), ix_t (by omega)]
        rw [hset, bd_some]
        obtain ⟨C', X', z, y1, y2, y3, y4⟩ := both_wrong (B := fun p j => if p < 32 ∧ j < 64 then (if p = a.toNat ∧ j = b.toNat then c else eP (P p) j) else 0) (C := up C (61 + a.toNat) b.toNat c) (X := up (up X 95 16 (64 * a + b)) 95 17 c) (root := root) (L := L)
          (by
            intro q hq j hj
            dsimp only
            rw [if_pos ⟨hq, hj⟩]
            unfold up
            by_cases w : q = a.toNat ∧ j = b.toNat
            · rw [if_pos (by omega), if_pos w]
            · rw [if_neg (by omega), if_neg w]
              exact r1.1 q hq j hj)
          (by
            have e1 : up (up X 95 16 (64 * a + b)) 95 17 c 95 16 = 64 * a + b := by rw [up_j (by omega), up_same]
            have e2 : up (up X 95 16 (64 * a + b)) 95 17 c 95 17 = c := by rw [up_same]
            refine ⟨by rw [e1]; simp only [R32]; omega, fun q hq j hj => ?_⟩
            dsimp only
            rw [e1, e2, if_pos ⟨hq, hj⟩, up_k (by omega), up_k (by omega)]
            by_cases w : q = a.toNat ∧ j = b.toNat
            · rw [if_pos w, if_pos (by omega)]
            · rw [if_neg w, if_neg (by omega)]
              exact (r2.1 q hq j hj).symm)
          (by
            intro q j
            dsimp only
            by_cases w1 : q < 32 ∧ j < 64
            · rw [if_pos w1]
              by_cases w : q = a.toNat ∧ j = b.toNat
              · rw [if_pos w]; omega
              · rw [if_neg w]
                obtain ⟨o1, o2, o3, o4⟩ := ho q w1.1
                exact enc_rng o1 (by omega) o4 (by omega)
            · rw [if_neg w1]; omega)
          (by rw [up_k (by omega)]; exact r1.2.1) (by rw [up_k (by omega)]; exact r1.2.2.1) (by rw [up_j (by omega), up_j (by omega)]; exact r2.2.1) (by rw [up_j (by omega), up_j (by omega)]; exact r2.2.2.1) hg.2.2.2.2.2.1 hg.2.2.2.1 hg.2.2.2.2.1
        rw [y1, bd_some, y2, hset, bd_some]
        refine ⟨_, X', z, rfl, rfl, Inv_chk h (fun x y q1 q2 => ?_) (fun x y q => ?_)⟩
        · by_cases w : x = 61 + a.toNat ∧ y = b.toNat
          · obtain ⟨w1, w2⟩ := w
            rw [w1, w2, up_same]
            exact (r1.1 _ ha32 _ hbn).symm
          · have e : ∀ (M : Mem) (g : Int), up M (61 + a.toNat) b.toNat g x y = M x y := fun M g => by unfold up; rw [if_neg w]
            rw [e, y3 x y (by omega) (by omega) (by omega) (by omega) q2, e]
        · rw [y4 x y (by omega) (by omega) (by omega)]
          unfold up
          rw [if_neg (by omega), if_neg (by omega)]
      · rw [if_neg k3, if_neg k3]
        exact ⟨C, X, -1, rfl, rfl, h⟩
    · rw [if_neg k2, if_neg k2]
      exact ⟨C, X, -1, rfl, rfl, h⟩
  · rw [if_neg k1, if_neg k1]
    exact ⟨C, X, -1, rfl, rfl, h⟩
def P0 : Nat → Pg := fun i => if i = 0 then (1, 0, []) else (0, 0, [])
theorem eP0 {i j : Nat} : eP (P0 i) j = if i = 0 ∧ j = 0 then 1 else 0 := by
  unfold eP P0
  by_cases k : i = 0
  · rw [if_pos k]
    by_cases k2 : j = 0
    · rw [if_pos ⟨k, k2⟩, k2]; rfl
    · rw [if_neg (fun q => k2 q.2)]
      unfold enc
      rw [if_neg k2]
      split
      · rfl
      · split
        · rfl
        · exact gd_out (by simp [flat])
  · rw [if_neg k, if_neg (fun q => k q.1)]
    unfold enc
    split
    · rfl
    · split
      · rfl
      · split
        · rfl
        · exact gd_out (by simp [flat])
theorem good0 : Good P0 0 1 (fun _ => [([], 0)]) (fun _ => 0) := by
  have hP0 : P0 0 = (1, 0, []) := rfl
  refine ⟨⟨?_, ?_, ?_, ?_, ?_, ?_⟩, rfl, fun n hn => by omega, by omega, by omega, by omega, fun q => by omega⟩
  · intro i hi
    unfold P0
    by_cases k : i = 0
    · rw [if_pos k]
      exact ⟨fun _ q => absurd q List.not_mem_nil, by simp [szs], by simp, by simp⟩
    · rw [if_neg k]
      exact ⟨fun _ q => absurd q List.not_mem_nil, by simp [szs], by simp, by simp⟩
  · intro n hn e he
    rw [List.mem_singleton.mp he]
    refine ⟨0, rfl, by omega, (by show 0 = n; omega), ?_⟩
    rw [if_pos (by omega), hP0]
  · intro n hn; simp
  · intro i hi hne
    have : i ≠ 0 := fun q => hne 0 (by omega) ([], 0) (by simp) (by rw [q]; rfl)
    unfold P0
    rw [if_neg this]
  · exact ⟨rfl, trivial⟩
  · show (lfs P0 [([], 0)]).Pairwise lt2
    unfold lfs
    simp [P0]
theorem inv0 : Inv C0 X0 := by
  refine ⟨⟨P0, 0, 1, 0, 0, 0, ⟨?_, ?_, ?_, ?_, ?_, ?_⟩, ⟨?_, ?_, ?_, ?_, ?_, ?_⟩, ⟨_, _, good0⟩⟩, ⟨0, by omega, ?_, ?_, fun j hj => by omega⟩, Or.inl ⟨?_, ?_⟩, Or.inl ⟨?_, ?_⟩⟩
  · intro i hi j hj
    rw [eP0]
    unfold C0
    rw [if_neg (by omega)]
    by_cases k : i = 0 ∧ j = 0
    · rw [if_pos (by omega), if_pos k]
    · rw [if_neg (by omega), if_neg k]
  all_goals first | rfl | skip
  · intro i hi j hj
    rw [eP0]
    unfold X0
    rw [if_neg (by omega)]
    by_cases k : i = 0 ∧ j = 0
    · rw [if_pos (by omega), if_pos k]
    · rw [if_neg (by omega), if_neg k]
theorem law_ok : LawOk Inv := by
  intro C X h a b c ha hb hc
  exact ⟨ag_type h ha, ag_clear h, ag_run h, ag_put h ha hb hc, ag_take h ha hb, ag_load h ha hb hc, ag_find h ha hb, ag_rank h ha hb hc, ag_path h ha hb hc, ag_letter h ha hb, ag_value h ha, ag_page h ha hb, ag_byteAt h ha hb, ag_check h ha hb hc, ag_count h ha, ag_digest h, ag_keep h ha, ag_back h ha, ag_times h ha⟩
end KA

/-! LOAD: the tree is good; whole. -/
section L4
variable {C C' X X' : Mem} {P P' : Nat → Pg} {f s c1 c2 c3 : Int} {a b m n N c k p root L : Nat} {B : Nat → Nat} {es x y : List Ent} {u v e : Ent}
theorem sg_mem : ∀ m, e ∈ sg f s a m → ∃ k, a ≤ k ∧ k < a + m ∧ e = en f s k
  | 0 => by intro h; cases h
  | m + 1 => by
    intro h
    rw [sg_snoc] at h
    rcases List.mem_append.mp h with h | h
    · obtain ⟨k, k1, k2, k3⟩ := sg_mem m h
      exact ⟨k, k1, by omega, k3⟩
    · exact ⟨a + m, by omega, by omega, List.mem_singleton.mp h⟩
theorem sg_pw (h : LdOk f s n) : ∀ m, a + m ≤ n → ((sg f s a m).map k1).Pairwise lt2
  | 0, _ => by simp [sg]
  | m + 1, hm => by
    rw [sg_snoc, List.map_append, List.pairwise_append]
    refine ⟨sg_pw h m (by omega), by simp, ?_⟩
    intro x hx y hy
    obtain ⟨x', hx1, hx2⟩ := List.mem_map.mp hx
    obtain ⟨k, q1, q2, q3⟩ := sg_mem m hx1
    have hy2 : y = k1 (en f s (a + m)) := by simpa using hy
    rw [← hx2, hy2, q3]
    exact Or.inl (ks_lt h q2 (by omega))
/-- one leaf alone -/
theorem good_one (h : LdOk f s n) (hn : n ≤ 12) : GoodS (PF f s 0 n) 0 1 := by
  refine ⟨fun _ => [([], 0)], fun _ => 0, ⟨PF_ok (by omega) hn, ?_, ?_, ?_, ?_, ?_⟩, rfl, ?_, by omega, by omega, by omega, by omega⟩
  · intro t ht e he
    have : e = ([], 0) := by simpa using he
    subst this
    exact ⟨0, rfl, by omega, by show 0 = t; omega, by rw [PF_N, if_pos (by omega)]⟩
  · intro t _
    simp
  · intro i hi hno
    have : i ≠ 0 := by
      intro h0
      subst h0
      exact hno 0 (by omega) ([], 0) (by simp) rfl
    unfold PF
    rw [if_neg (by omega), if_neg this]
  · rw [LkTo_cons]
    refine ⟨?_, trivial⟩
    show (PF f s 0 n 0).2.1 = 0
    rw [PF_N]
  · show (([], 0) :: ((PF f s 0 n 0).2.2.map k1 ++ [])).Pairwise lt2
    rw [PF_N, List.append_nil, List.pairwise_cons]
    refine ⟨?_, sg_pw h n (by omega)⟩
    intro x hx
    obtain ⟨x', hx1, hx2⟩ := List.mem_map.mp hx
    obtain ⟨k, _, _, q3⟩ := sg_mem n hx1
    rw [← hx2, q3]
    refine Or.inl ?_
    show cmp [] (ksp f s k) < 0
    have hl := ks_len (f := f) (s := s) (k := k)
    generalize ksp f s k = z at hl
    cases z with
    | nil => simp at hl
    | cons a r => show (-1 : Int) < 0; decide
  · intro t ht
    omega
theorem vq_max : ∀ m, ∀ e ∈ (([], 0) :: sq f s B m : List Ent), ∃ p : Nat, e.2 = (p : Int) ∧ p ≤ m
  | 0 => by
    intro e he
    have : e = ([], 0) := by simpa [sq] using he
    exact ⟨0, by rw [this]; rfl, by omega⟩
  | m + 1 => by
    intro e he
    have he2 : e ∈ (([], 0) :: sq f s B m : List Ent) ++ [(sep (ksp f s (B (m + 1) - 1)) (ksp f s (B (m + 1))), ((m + 1 : Nat) : Int))] := he
    rcases List.mem_append.mp he2 with he | he
    · obtain ⟨p, q1, q2⟩ := vq_max m e he
      exact ⟨p, q1, by omega⟩
    · exact ⟨m + 1, by rw [List.mem_singleton.mp he], by omega⟩
theorem vq_has : ∀ m p, p ≤ m → ∃ e ∈ (([], 0) :: sq f s B m : List Ent), e.2 = (p : Int)
  | 0, p => by
    intro h
    have : p = 0 := by omega
    subst this
    exact ⟨([], 0), by simp, rfl⟩
  | m + 1, p => by
    intro h
    by_cases hp : p = m + 1
    · subst hp
      refine ⟨(sep (ksp f s (B (m + 1) - 1)) (ksp f s (B (m + 1))), ((m + 1 : Nat) : Int)), ?_, rfl⟩
      show _ ∈ ([], 0) :: (sq f s B m ++ [_])
      simp
    · obtain ⟨e, e1, e2⟩ := vq_has m p (by omega)
      refine ⟨e, ?_, e2⟩
      show e ∈ (([], 0) :: sq f s B m : List Ent) ++ [_]
      exact List.mem_append_left _ e1
theorem vq_nd : ∀ m, ((([], 0) :: sq f s B m : List Ent).map Prod.snd).Nodup
  | 0 => by simp [sq]
  | m + 1 => by
    have hh : ((([], 0) :: sq f s B m : List Ent) ++ [(sep (ksp f s (B (m + 1) - 1)) (ksp f s (B (m + 1))), ((m + 1 : Nat) : Int))]) = (([], 0) :: sq f s B (m + 1) : List Ent) := rfl
    rw [← hh]
    refine nd_ins (A := (([], 0) :: sq f s B m : List Ent)) (B := []) (by rw [List.append_nil]; exact vq_nd m) ?_
    intro x hx
    rw [List.append_nil] at hx
    obtain ⟨p, q1, q2⟩ := vq_max m x hx
    intro hh2
    have hh2 : x.2 = ((m + 1 : Nat) : Int) := hh2
    omega
theorem vq_lk : ∀ m, m ≤ N → LkTo (PR f s N B N) (([], 0) :: sq f s B m) (if m < N then (m : Int) + 2 else 0)
  | 0, _ => by
    show LkTo _ [([], 0)] _
    rw [LkTo_cons]
    refine ⟨?_, trivial⟩
    show (PR f s N B N 0).2.1 = if 0 < N then ((0 : Nat) : Int) + 2 else 0
    rw [PR_leaf (by omega)]
  | m + 1, hm => by
    have ih := vq_lk m (by omega)
    rw [if_pos (by omega)] at ih
    show LkTo _ ((([], 0) :: sq f s B m : List Ent) ++ [(sep (ksp f s (B (m + 1) - 1)) (ksp f s (B (m + 1))), ((m + 1 : Nat) : Int))]) _
    rw [LkTo_app]
    refine ⟨?_, ?_, trivial⟩
    · show LkTo _ _ (((m + 1 : Nat) : Int) + 1)
      rw [show ((m + 1 : Nat) : Int) + 1 = (m : Int) + 2 by omega]
      exact ih
    · show (PR f s N B N (((m + 1 : Nat) : Int)).toNat).2.1 = _
      rw [show (((m + 1 : Nat) : Int)).toNat = m + 1 by omega, PR_leaf hm]
      rfl
theorem vq_pw (h : LdOk f s n) (hB : BOk N n B) : ∀ m, m ≤ N → (lfs (PR f s N B N) (([], 0) :: sq f s B m)).Pairwise lt2 ∧ ∀ x ∈ lfs (PR f s N B N) (([], 0) :: sq f s B m), cmp x.1 (ksp f s (B (m + 1) - 1)) ≤ 0
  | 0, _ => by
    have hb := (hB.2.1 0 (by omega)).1
    have hle := B_le hB (p := 0 + 1) (by omega)
    have he : lfs (PR f s N B N) (([], 0) :: sq f s B 0) = ([], 0) :: (sg f s (B 0) (B (0 + 1) - B 0)).map k1 := by
      show ([], 0) :: ((PR f s N B N 0).2.2.map k1 ++ []) = _
      rw [PR_leaf (by omega), List.append_nil]
    rw [he]
    constructor
    · rw [List.pairwise_cons]
      refine ⟨?_, sg_pw h _ (by omega)⟩
      intro x hx
      obtain ⟨x', hx1, hx2⟩ := List.mem_map.mp hx
      obtain ⟨k, _, _, q3⟩ := sg_mem _ hx1
      rw [← hx2, q3]
      refine Or.inl ?_
      show cmp [] (ksp f s k) < 0
      have hl := ks_len (f := f) (s := s) (k := k)
      generalize ksp f s k = z at hl
      cases z with
      | nil => simp at hl
      | cons a r => show (-1 : Int) < 0; decide
    · intro x hx
      rcases List.mem_cons.mp hx with hx | hx
      · rw [hx]; exact cmp_nil_le _
      · obtain ⟨x', hx1, hx2⟩ := List.mem_map.mp hx
        obtain ⟨k, q1, q2, q3⟩ := sg_mem _ hx1
        rw [← hx2, q3]
        show cmp (ksp f s k) _ ≤ 0
        by_cases hk : k = B (0 + 1) - 1
        · rw [hk, cmp_refl]; omega
        · have := ks_lt h (a := k) (b := B (0 + 1) - 1) (by omega) (by omega)
          omega
  | m + 1, hm => by
    obtain ⟨i1, i2⟩ := vq_pw h hB m (by omega)
    have hb := (hB.2.1 (m + 1) (by omega)).1
    have hle := B_le hB (p := m + 1 + 1) (by omega)
    have hle2 := B_le hB (p := m + 1) (by omega)
    have hc := B_cmp h hB (m := m) (by omega)
    have hs1 := sep_gt _ _ hc
    have hs2 := sep_le (ksp f s (B (m + 1) - 1)) (ksp f s (B (m + 1)))
    have he : lfs (PR f s N B N) (([], 0) :: sq f s B (m + 1)) = lfs (PR f s N B N) (([], 0) :: sq f s B m) ++ (sep (ksp f s (B (m + 1) - 1)) (ksp f s (B (m + 1))), 0) :: (sg f s (B (m + 1)) (B (m + 1 + 1) - B (m + 1))).map k1 := by
      show lfs _ ((([], 0) :: sq f s B m : List Ent) ++ [(sep (ksp f s (B (m + 1) - 1)) (ksp f s (B (m + 1))), ((m + 1 : Nat) : Int))]) = _
      rw [lfs_app, lfs_cons]
      show _ ++ (_, 0) :: ((PR f s N B N (((m + 1 : Nat) : Int)).toNat).2.2.map k1 ++ []) = _
      rw [show (((m + 1 : Nat) : Int)).toNat = m + 1 by omega, PR_leaf hm, List.append_nil]
    have hkey : ∀ x ∈ (sg f s (B (m + 1)) (B (m + 1 + 1) - B (m + 1))).map k1, cmp (sep (ksp f s (B (m + 1) - 1)) (ksp f s (B (m + 1)))) x.1 ≤ 0 ∧ x.2 = 1 ∧ cmp x.1 (ksp f s (B (m + 1 + 1) - 1)) ≤ 0 := by
      intro x hx
      obtain ⟨x', hx1, hx2⟩ := List.mem_map.mp hx
      obtain ⟨k, q1, q2, q3⟩ := sg_mem _ hx1
      rw [← hx2, q3]
      refine ⟨?_, rfl, ?_⟩
      · show cmp _ (ksp f s k) ≤ 0
        by_cases hk : k = B (m + 1)
        · rw [hk]; exact hs2
        · have := ks_lt h (a := B (m + 1)) (b := k) (by omega) (by omega)
          have := cmp_le_lt hs2 this
          omega
      · show cmp (ksp f s k) _ ≤ 0
        by_cases hk : k = B (m + 1 + 1) - 1
        · rw [hk, cmp_refl]; omega
        · have := ks_lt h (a := k) (b := B (m + 1 + 1) - 1) (by omega) (by omega)
          omega
    rw [he]
    constructor
    · rw [List.pairwise_append]
      refine ⟨i1, ?_, ?_⟩
      · rw [List.pairwise_cons]
        refine ⟨?_, sg_pw h _ (by omega)⟩
        intro x hx
        obtain ⟨k1', k2', _⟩ := hkey x hx
        rcases Int.lt_or_eq_of_le k1' with hh | hh
        · exact Or.inl hh
        · exact Or.inr ⟨hh, by show (0 : Int) < x.2; omega⟩
      · intro x hx y hy
        have hx1 := i2 x hx
        have hxs := cmp_le_lt hx1 hs1
        rcases List.mem_cons.mp hy with hy | hy
        · rw [hy]; exact Or.inl hxs
        · exact Or.inl (cmp_lt_le hxs (hkey y hy).1)
    · intro x hx
      rcases List.mem_append.mp hx with hx | hx
      · have hx1 := i2 x hx
        have hxs := cmp_le_lt hx1 hs1
        have h3 := cmp_lt_le hxs hs2
        by_cases hk : B (m + 1) = B (m + 1 + 1) - 1
        · rw [← hk]; omega
        · have := ks_lt h (a := B (m + 1)) (b := B (m + 1 + 1) - 1) (by omega) (by omega)
          have := cmp_trans _ _ _ h3 this
          omega
      · rcases List.mem_cons.mp hx with hx | hx
        · rw [hx]
          show cmp (sep (ksp f s (B (m + 1) - 1)) (ksp f s (B (m + 1)))) _ ≤ 0
          by_cases hk : B (m + 1) = B (m + 1 + 1) - 1
          · rw [← hk]; exact hs2
          · have := ks_lt h (a := B (m + 1)) (b := B (m + 1 + 1) - 1) (by omega) (by omega)
            have := cmp_le_lt hs2 this
            omega
        · exact (hkey x hx).2.2
theorem good_two (h : LdOk f s n) (hB : BOk N n B) (hN : 1 ≤ N) (hN4 : N ≤ 4) : GoodS (PR f s N B N) (N + 1) 2 := by
  refine ⟨fun t => if t = 0 then [([], ((N + 1 : Nat) : Int))] else ([], 0) :: sq f s B N, fun i => if i = N + 1 then 0 else 1, ⟨PR_ok h hB hN4 (Nat.le_refl _), ?_, ?_, ?_, ?_, ?_⟩, rfl, ?_, by omega, by omega, by omega, ?_⟩
  · intro t ht e he
    by_cases h0 : t = 0
    · subst h0
      have : e = ([], ((N + 1 : Nat) : Int)) := by simpa using he
      subst this
      exact ⟨N + 1, rfl, by omega, if_pos rfl, by rw [PR_root, if_neg (by omega)]⟩
    · have he2 : e ∈ (([], 0) :: sq f s B N : List Ent) := by simpa [h0] using he
      obtain ⟨p, q1, q2⟩ := vq_max N e he2
      have ht1 : t = 1 := by omega
      subst ht1
      exact ⟨p, q1, by omega, if_neg (by omega), by rw [PR_leaf q2]; rfl⟩
  · intro t ht
    by_cases h0 : t = 0
    · subst h0; simp
    · dsimp only
      rw [if_neg h0]
      exact vq_nd N
  · intro i hi hno
    have h1 : i ≠ N + 1 := by
      intro hh
      subst hh
      exact hno 0 (by omega) ([], ((N + 1 : Nat) : Int)) (by simp) rfl
    have h2 : ¬ i ≤ N := by
      intro hh
      obtain ⟨e, e1, e2⟩ := vq_has (f := f) (s := s) (B := B) N i hh
      exact hno 1 (by omega) e (by simpa using e1) e2
    unfold PR
    rw [uP_o h1, PB_o (by omega)]
  · have := vq_lk (f := f) (s := s) (N := N) (B := B) N (Nat.le_refl _)
    rw [if_neg (by omega)] at this
    exact this
  · exact (vq_pw h hB N (Nat.le_refl _)).1
  · intro t ht
    have : t = 0 := by omega
    subst this
    show ([], 0) :: sq f s B N = exp _ [([], ((N + 1 : Nat) : Int))]
    rw [exp_cons, exp_nil]
    show _ = ([], (PR f s N B N (N + 1)).2.1) :: ((PR f s N B N (N + 1)).2.2 ++ [])
    rw [PR_root, List.append_nil]
  · intro _
    rw [PR_root]
    intro hh
    have hh : sq f s B N = [] := hh
    have := sq_len (f := f) (s := s) (B := B) N
    rw [hh] at this
    simp at this
    omega
theorem PB_lf : IsLF (PB f s N B) (N + 1) ∨ 31 ≤ N := by
  by_cases h : 31 ≤ N
  · exact Or.inr h
  · refine Or.inl ⟨by omega, by rw [PB_o (by omega)], ?_⟩
    intro i hi
    unfold PB
    rw [if_pos (by omega)]
    show (1 : Int) ≠ 0
    omega
/-- LOAD whole -/
theorem ld_all (h : LdOk f s n) (hRC : RC C P root L c1 c2 c3) (hRX : RX X P root L c1 c2 c3) : ∃ (C' X' : Mem) (P' : Nat → Pg) (root' L' : Nat), f_X0_loadRow f s (n : Int) C = some (C', 0) ∧ f_X8_loads f s (n : Int) X = some (X', (L' : Int)) ∧ 1 ≤ L' ∧ L' ≤ 2 ∧ RC C' P' root' L' c1 c2 c3 ∧ RX X' P' root' L' c1 c2 c3 ∧ GoodS P' root' L' ∧ KpC C C' ∧ KpX X X' := by
  have hfu := FU_eq
  have h60 := h.2.2.2.2.1
  have hn1 := h.2.2.2.1
  -- the class: cleared, filled
  obtain ⟨Ca, a1, a2, a3⟩ := lp_clr (u1 := f) (u2 := s) (u3 := (n : Int)) (K := (fun (v4_e3 : Int) (C_e3 : Mem) => (bd (f_X0_fillLeaves f s (n : Int) (up (up C_e3 1 4 (0)) 1 5 (1))) (fun C48 r48 => (cLt 0 (r48) (bd (f_X0_shareWithLast (r48) C48) (fun C61 _ => (bd (f_X0_coverLeaves (r48) C61) (fun C67 _ => (some (C67, 0)))))) (some (C48, 0))))))) 32 FU 0 C (by omega) (by omega) (by omega) (fun i hi => by omega)
  have hz : TC (up (up Ca 1 4 0) 1 5 1) (fun _ => (0, 0, [])) := TC_up (TC_up (TC_zero a2) (by omega)) (by omega)
  have hTb : TC (stP (up (up Ca 1 4 0) 1 5 1) 0 (enc 1 0 [])) (PF f s 0 0) := by
    have e1 : PF f s 0 0 = uP (fun _ => (0, 0, [])) 0 (1, 0, []) := by
      funext p
      by_cases hp : p = 0
      · subst hp; rw [uP_s, PF_N]; rfl
      · rw [uP_o hp]
        unfold PF
        rw [if_neg (by omega), if_neg hp]
    rw [e1]
    exact TC_st hz (by omega) ⟨rfl, rfl, rfl⟩
  obtain ⟨Cb, N, c, b1, b2, b3, b4, b5, b6, b7⟩ := lp_fillL (K := (fun (v4_e19 : Int) (v5_e19 : Int) (C_e19 : Mem) => (some (C_e19, v4_e19)))) h n FU 0 0 0 0 (stP (up (up Ca 1 4 0) 1 5 1) 0 (enc 1 0 [])) (by omega) (by omega) rfl rfl (by omega) (by omega) hTb
  have hc1 : 1 ≤ c := b4 hn1
  have hN4 : N ≤ 4 := by omega
  have hfill : f_X0_fillLeaves f s (n : Int) (up (up Ca 1 4 0) 1 5 1) = some (Cb, (N : Int)) := by
    unfold f_X0_fillLeaves
    rw [sp_pageOf (i := 0) (by rfl) (by omega), bd_some, sp_begin, bd_some, b1]
  have hCb : ∀ x y, (x < 10 ∨ 20 ≤ x) → x < 61 → x ≠ 1 → Cb x y = C x y := by
    intro x y h1 h2 h3
    rw [b7 x y h1 h2, stP_k (by omega), up_k h3, up_k h3, a3 x y h2]
  have hCb4 : Cb 1 4 = 0 := by rw [b7 _ _ (by omega) (by omega), stP_k (by omega), up_j (by omega), up_same]
  have hCb5 : Cb 1 5 = 1 := by rw [b7 _ _ (by omega) (by omega), stP_k (by omega), up_same]
  have preC : f_X0_loadRow f s (n : Int) C = (cLt 0 (N : Int) (bd (f_X0_shareWithLast (N : Int) Cb) (fun C61 _ => (bd (f_X0_coverLeaves (N : Int) C61) (fun C67 _ => (some (C67, 0)))))) (some (Cb, 0))) := by
    unfold f_X0_loadRow
    rw [a1, hfill, bd_some]
  -- the model
  have hdiv : ((n : Int) + 11) / 12 = (N : Int) + 1 := by omega
  obtain ⟨Xa, x1, x2, x3⟩ := lm_clr (u1 := f) (u2 := s) (u3 := (n : Int)) (K := (fun (v4_e3 : Int) (C_e3 : Mem) => (dv ((n : Int) + 11) (f_X8_loads_34 f s (n : Int) (((n : Int) + 11) / 12) (fun (v5_e34 : Int) (C_e34 : Mem) => (jn ((fun (C_194 : Mem) => (cLt (1) (((n : Int) + 11) / 12) (bd (f_X8_loadsInner (((n : Int) + 11) / 12) (up (up C_194 95 1 (0)) 95 2 (1))) (fun C213 _ => (some (C213, C213 95 2)))) (some ((up (up C_194 95 1 (0)) 95 2 (1)), (up (up C_194 95 1 (0)) 95 2 (1)) 95 2)))) : Mem → Option (Mem × Int)) (fun j194 => (cLt (1) (((n : Int) + 11) / 12) (bd (f_X8_usedOf ((((n : Int) + 11) / 12) - 1) C_e34) (fun C150 r150 => (cLt (r150) (32) (bd (f_X8_comeOut ((((n : Int) + 11) / 12) - 2) (up C150 95 6 (0))) (fun C168 _ => (bd (f_X8_comeOut ((((n : Int) + 11) / 12) - 1) C168) (fun C176 _ => (bd (f_X8_share ((((n : Int) + 11) / 12) - 2) ((((n : Int) + 11) / 12) - 1) (1) (0) (0) C176) (fun C191 _ => (j194 C191))))))) (j194 C150)))) (j194 C_e34))))) FU (0) C_e3)))) 32 FU 0 X (by omega) (by omega) (by omega) (fun i hi => by omega)
  rw [hdiv] at x1
  obtain ⟨Xb, v', y1, y2, y3⟩ := lm_fill34 (K := (fun (v5_e34 : Int) (C_e34 : Mem) => (jn ((fun (C_194 : Mem) => (cLt (1) ((N : Int) + 1) (bd (f_X8_loadsInner ((N : Int) + 1) (up (up C_194 95 1 (0)) 95 2 (1))) (fun C213 _ => (some (C213, C213 95 2)))) (some ((up (up C_194 95 1 (0)) 95 2 (1)), (up (up C_194 95 1 (0)) 95 2 (1)) 95 2)))) : Mem → Option (Mem × Int)) (fun j194 => (cLt (1) ((N : Int) + 1) (bd (f_X8_usedOf (((N : Int) + 1) - 1) C_e34) (fun C150 r150 => (cLt (r150) (32) (bd (f_X8_comeOut (((N : Int) + 1) - 2) (up C150 95 6 (0))) (fun C168 _ => (bd (f_X8_comeOut (((N : Int) + 1) - 1) C168) (fun C176 _ => (bd (f_X8_share (((N : Int) + 1) - 2) (((N : Int) + 1) - 1) (1) (0) (0) C176) (fun C191 _ => (j194 C191))))))) (j194 C150)))) (j194 C_e34)))))) h b2 ⟨hc1, b3⟩ (N + 1) FU 0 0 Xa (by omega) rfl (by omega) (by
    intro i hi j hj
    rw [x2 i hi j hj]
    dsimp only
    rw [if_neg (by omega)]
    exact (enc_00 j).symm)
  have hXb : ∀ a b, a ≠ 96 → a ≠ 97 → a ≠ 98 → a ≠ 99 → a ≠ 101 → ¬ (a = 95 ∧ (b = 6 ∨ b = 12)) → Xb a b = X a b := fun a b q1 q2 q3 q4 q5 q6 => by rw [y3 a b q1 q2 q3 q4 q5 q6, x3 a b q1]
  have preX : f_X8_loads f s (n : Int) X = (jn ((fun (C_194 : Mem) => (cLt (1) ((N : Int) + 1) (bd (f_X8_loadsInner ((N : Int) + 1) (up (up C_194 95 1 (0)) 95 2 (1))) (fun C213 _ => (some (C213, C213 95 2)))) (some ((up (up C_194 95 1 (0)) 95 2 (1)), (up (up C_194 95 1 (0)) 95 2 (1)) 95 2)))) : Mem → Option (Mem × Int)) (fun j194 => (cLt (1) ((N : Int) + 1) (bd (f_X8_usedOf (((N : Int) + 1) - 1) Xb) (fun C150 r150 => (cLt (r150) (32) (bd (f_X8_comeOut (((N : Int) + 1) - 2) (up C150 95 6 (0))) (fun C168 _ => (bd (f_X8_comeOut (((N : Int) + 1) - 1) C168) (fun C176 _ => (bd (f_X8_share (((N : Int) + 1) - 2) (((N : Int) + 1) - 1) (1) (0) (0) C176) (fun C191 _ => (j194 C191))))))) (j194 C150)))) (j194 Xb)))) := by
    unfold f_X8_loads
    rw [hdiv, x1, dv_t (by omega), y1]
  by_cases hN0 : N = 0
  · subst hN0
    have : c = n := by omega
    subst this
    refine ⟨Cb, up (up Xb 95 1 0) 95 2 1, PF f s 0 c, 0, 1, ?_, ?_, by omega, by omega, ⟨b6, hCb4, hCb5, ?_, ?_, ?_⟩, ⟨TX_fr y2 (fun y => by rw [up_k (by omega), up_k (by omega)]), ?_, ?_, ?_, ?_, ?_⟩, good_one h b3, ?_, ?_⟩
    · rw [preC, fLt (by omega)]
    · rw [preX, jn_eq, fLt (by omega)]
      dsimp only
      rw [fLt (by omega), up_same]
      rfl
    · rw [hCb _ _ (by omega) (by omega) (by omega)]; exact hRC.2.2.2.1
    · rw [hCb _ _ (by omega) (by omega) (by omega)]; exact hRC.2.2.2.2.1
    · rw [hCb _ _ (by omega) (by omega) (by omega)]; exact hRC.2.2.2.2.2
    · rw [up_j (by omega), up_same]; rfl
    · rw [up_same]; rfl
    · rw [up_j (by omega), up_j (by omega), hXb _ _ (by omega) (by omega) (by omega) (by omega) (by omega) (by omega)]; exact hRX.2.2.2.1
    · rw [up_j (by omega), up_j (by omega), hXb _ _ (by omega) (by omega) (by omega) (by omega) (by omega) (by omega)]; exact hRX.2.2.2.2.1
    · rw [up_j (by omega), up_j (by omega), hXb _ _ (by omega) (by omega) (by omega) (by omega) (by omega) (by omega)]; exact hRX.2.2.2.2.2
    · intro x y h1 h2 h3; exact hCb x y (by omega) (by omega) h1
    · intro a b hab
      rw [up_ap, if_neg (by omega), up_ap, if_neg (by omega)]
      exact hXb a b (by omega) (by omega) (by omega) (by omega) (by omega) (by omega)
  · obtain ⟨Cc, Xc, B, s0, s1, s2, s3, s4, s5, s6, s7, s8, s9⟩ := ld_share h b2 ⟨hc1, b3⟩ (by omega) b6 y2 (K := (fun (C_194 : Mem) => (cLt (1) ((N : Int) + 1) (bd (f_X8_loadsInner ((N : Int) + 1) (up (up C_194 95 1 (0)) 95 2 (1))) (fun C213 _ => (some (C213, C213 95 2)))) (some ((up (up C_194 95 1 (0)) 95 2 (1)), (up (up C_194 95 1 (0)) 95 2 (1)) 95 2)))))
    have hokB := PB_ok (f := f) (s := s) s0 h60 hN4
    have hlf : IsLF (PB f s N B) (N + 1) := by
      rcases PB_lf (f := f) (s := s) (N := N) (B := B) with hh | hh
      · exact hh
      · omega
    -- the class covers
    have hTd : TC (stP (up (up Cc 1 4 (((N + 1 : Nat) : Nat) : Int)) 1 5 2) (N + 1) (enc 2 0 [])) (PR f s N B 0) := TC_st (TC_up (TC_up s2 (by omega)) (by omega)) (by omega) ⟨rfl, rfl, rfl⟩
    obtain ⟨Cd, d1, d2, d3⟩ := lp_cov (K := (fun (v3_e45 : Int) (C_e45 : Mem) => (some (C_e45, 0)))) h s0 hN4 N FU 0 1 _ (by omega) (by omega) (by omega) hTd
    have hcov : f_X0_coverLeaves (N : Int) Cc = some (Cd, 0) := by
      unfold f_X0_coverLeaves
      rw [sp_lf hokB s2 hlf, bd_some, up_j (by omega), up_same, sp_pageOf rfl (by omega), bd_some, sp_begin, bd_some, d1]
    have hCd : ∀ x y, (x < 10 ∨ 20 ≤ x) → x < 61 → x ≠ 1 → Cd x y = C x y := by
      intro x y h1 h2 h3
      rw [d3 x y h1 h2, stP_k (by omega), up_k h3, up_k h3, s3 x y h1 h2, hCb x y h1 h2 h3]
    -- the model covers
    have hrow0 : Rows (up (up (up (up Xc 95 1 0) 95 2 1) 95 1 ((N : Int) + 1)) 95 2 2) 0 ([] ++ [] ++ []) := trivial
    have mk := mx_back (X := up (up (up (up Xc 95 1 0) 95 2 1) 95 1 ((N : Int) + 1)) 95 2 2) (i := N + 1) (p := (N : Int) + 1) (s := 2) (l := 0) (x := []) (y := []) (z := []) (q4 := 0) (q5 := 0) (by omega) (by omega) hrow0 (by intro e he; cases he) (by simp) (by simp [szs]) (by rfl) (by rfl)
    have hTe : TX (stX (up (up (up (up Xc 95 1 0) 95 2 1) 95 1 ((N : Int) + 1)) 95 2 2) (N + 1) (enc 2 0 [])) (PR f s N B 0) := TX_st (TX_fr s5 (fun y => by rw [up_k (by omega), up_k (by omega), up_k (by omega), up_k (by omega)])) ⟨rfl, rfl, rfl⟩
    obtain ⟨Xe, e1, e2, e3, e4, e5, e6⟩ := lm_cov (K := (fun (v2_e24 : Int) (C_e24 : Mem) => (some (C_e24, 0)))) h s0 hN4 N FU 0 1 _ (by omega) (by omega) (by omega) hTe (by rw [stX_k (by omega), up_j (by omega), up_same])
    have hinner : f_X8_loadsInner ((N : Int) + 1) (up (up Xc 95 1 0) 95 2 1) = some (Xe, 0) := by
      unfold f_X8_loadsInner
      rw [up_j (by omega), up_same, mk, bd_some, e1]
    have hXe2 : Xe 95 2 = 2 := by rw [e3 _ _ (by omega) (by omega) (by omega) (by omega) (by omega) (by omega), stX_k (by omega), up_same]
    have hXe1 : Xe 95 1 = (N : Int) + 1 := by rw [e3 _ _ (by omega) (by omega) (by omega) (by omega) (by omega) (by omega), stX_k (by omega), up_j (by omega), up_same]
    refine ⟨Cd, Xe, PR f s N B N, N + 1, 2, ?_, ?_, by omega, by omega, ⟨d2, ?_, ?_, ?_, ?_, ?_⟩, ⟨e2, by rw [hXe1]; rfl, by rw [hXe2]; rfl, ?_, ?_, ?_⟩, good_two h s0 (by omega) hN4, ?_, ?_⟩
    · rw [preC, tLt (by omega), s1, bd_some, hcov, bd_some]
    · rw [preX, jn_eq, tLt (by omega), s4]
      rw [tLt (by omega), hinner, bd_some, hXe2]
      rfl
    · rw [d3 _ _ (by omega) (by omega), stP_k (by omega), up_j (by omega), up_same]
    · rw [d3 _ _ (by omega) (by omega), stP_k (by omega), up_same]; rfl
    · rw [hCd _ _ (by omega) (by omega) (by omega)]; exact hRC.2.2.2.1
    · rw [hCd _ _ (by omega) (by omega) (by omega)]; exact hRC.2.2.2.2.1
    · rw [hCd _ _ (by omega) (by omega) (by omega)]; exact hRC.2.2.2.2.2
    · rw [e4, stX_k (by omega), up_j (by omega), up_j (by omega), up_j (by omega), up_j (by omega), s7, hXb _ _ (by omega) (by omega) (by omega) (by omega) (by omega) (by omega)]; exact hRX.2.2.2.1
    · rw [e5, stX_k (by omega), up_j (by omega), up_j (by omega), up_j (by omega), up_j (by omega), s8, hXb _ _ (by omega) (by omega) (by omega) (by omega) (by omega) (by omega)]; exact hRX.2.2.2.2.1
    · rw [e6, stX_k (by omega), up_j (by omega), up_j (by omega), up_j (by omega), up_j (by omega), s9, hXb _ _ (by omega) (by omega) (by omega) (by omega) (by omega) (by omega)]; exact hRX.2.2.2.2.2
    · intro x y h1 h2 h3; exact hCd x y (by omega) (by omega) h1
    · intro a b hab
      rw [e3 a b (by omega) (by omega) (by omega) (by omega) (by omega) (by omega), stX_k (by omega), up_ap, if_neg (by omega), up_ap, if_neg (by omega), up_ap, if_neg (by omega), up_ap, if_neg (by omega), s6 a b (by omega) (by omega) (by omega) (by omega) (by omega) (by omega)]
      exact hXb a b (by omega) (by omega) (by omega) (by omega) (by omega) (by omega)
end L4

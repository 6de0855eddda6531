/-! LOAD: the rows, the class. -/
def ksp (f s : Int) (k : Nat) : List Int := spl 3 (f + s * (k : Int))
def en (f s : Int) (k : Nat) : Ent := (ksp f s k, (k : Int))
def sg (f s : Int) (a : Nat) : Nat → List Ent
  | 0 => []
  | m + 1 => sg f s a m ++ [en f s (a + m)]
/-- leaves as they are filled -/
def PF (f s : Int) (N c : Nat) : Nat → Pg := fun p => if p < N then (1, (p : Int) + 2, sg f s (12 * p) 12) else if p = N then (1, 0, sg f s (12 * N) c) else (0, 0, [])
section LO
variable {C C' X X' : Mem} {P P' : Nat → Pg} {f s : Int} {a b m n N c k p : Nat}
theorem sg_app (a m : Nat) : ∀ k, sg f s a (m + k) = sg f s a m ++ sg f s (a + m) k
  | 0 => by simp [sg]
  | k + 1 => by
    rw [show m + (k + 1) = (m + k) + 1 by omega]
    show sg f s a (m + k) ++ [en f s (a + (m + k))] = sg f s a m ++ (sg f s (a + m) k ++ [en f s (a + m + k)])
    rw [sg_app a m k, List.append_assoc, show a + (m + k) = a + m + k by omega]
theorem sg_cons : sg f s a (m + 1) = en f s a :: sg f s (a + 1) m := by
  rw [show m + 1 = 1 + m by omega, sg_app a 1 m]
  rfl
theorem sg_snoc : sg f s a (m + 1) = sg f s a m ++ [en f s (a + m)] := rfl
theorem sg_len : ∀ m, (sg f s a m).length = m
  | 0 => rfl
  | m + 1 => by rw [sg_snoc]; simp [sg_len m]
theorem ks_len : (ksp f s k).length = 3 := spl_len 3 _
theorem sg_szs : ∀ m, szs (sg f s a m) = 5 * m
  | 0 => rfl
  | m + 1 => by
    rw [sg_snoc, szs_app, sg_szs m, szs_cons, szs_nil]
    show 5 * m + ((ksp f s (a + m)).length + 2 + 0) = _
    rw [ks_len]
    omega
theorem ks_LOk : LOk (ksp f s k) := spl_LOk (by omega) _
theorem en_ok (h : k ≤ 255) : EOk (en f s k) := ⟨by show 1 ≤ (ksp f s k).length; rw [ks_len]; omega, ks_LOk.1, ks_LOk.2, by show (0 : Int) ≤ (k : Int) ∧ (k : Int) ≤ 255; omega⟩
theorem sg_ok : ∀ m, a + m ≤ 256 → EsOk (sg f s a m)
  | 0, _ => by intro e he; cases he
  | m + 1, h => by
    rw [sg_snoc]
    exact EsOk_app.mpr ⟨sg_ok m (by omega), EsOk_cons.mpr ⟨en_ok (by omega), by intro e he; cases he⟩⟩
theorem spl3_lt {x y : Int} (h0 : 0 ≤ x) (h1 : x < y) (h2 : y < 17576) : cmp (spl 3 x) (spl 3 y) < 0 := by
  have e1 : ∀ z : Int, spl 3 z = [97 + z / 26 / 26 % 26, 97 + z / 26 % 26, 97 + z % 26] := fun z => rfl
  rw [e1, e1]
  unfold cmp
  by_cases c1 : 97 + x / 26 / 26 % 26 = 97 + y / 26 / 26 % 26
  · rw [if_pos c1]
    unfold cmp
    by_cases c2 : 97 + x / 26 % 26 = 97 + y / 26 % 26
    · rw [if_pos c2]
      unfold cmp
      rw [if_neg (by omega), if_pos (by omega)]
      decide
    · rw [if_neg c2, if_pos (by omega)]
      decide
  · rw [if_neg c1, if_pos (by omega)]
    decide
/-- what a LOAD may be -/
def LdOk (f s : Int) (n : Nat) : Prop := 0 ≤ f ∧ 1 ≤ s ∧ s ≤ 99 ∧ 1 ≤ n ∧ n ≤ 60 ∧ f + s * ((n : Int) - 1) ≤ 17575
theorem ks_rng (h : LdOk f s n) (hk : k < n) : 0 ≤ f + s * (k : Int) ∧ f + s * (k : Int) ≤ 17575 := by
  obtain ⟨h1, h2, h3, h4, h5, h6⟩ := h
  have q1 : s * (k : Int) ≤ s * ((n : Int) - 1) := Int.mul_le_mul_of_nonneg_left (by omega) (by omega)
  have q2 : 0 ≤ s * (k : Int) := Int.mul_nonneg (by omega) (by omega)
  omega
theorem ks_lt (h : LdOk f s n) (hab : a < b) (hb : b < n) : cmp (ksp f s a) (ksp f s b) < 0 := by
  have ra := ks_rng h (k := a) (by omega)
  have rb := ks_rng h hb
  obtain ⟨h1, h2, _⟩ := h
  have q : s * (a : Int) < s * (b : Int) := Int.mul_lt_mul_of_pos_left (by omega) (by omega)
  exact spl3_lt ra.1 (by omega) (by omega)
/-- clearing all pages: the class -/
theorem lp_clr {K : Int → Mem → Option (Mem × Int)} {u1 u2 u3 : Int} : ∀ (m n : Nat) (z : Int) (M : Mem), m ≤ 32 → z = ((32 - m : Nat) : Int) → m < n → (∀ i, i < 32 - m → ∀ j, j < 64 → M (61 + i) j = 0) → ∃ M', f_X0_loadRow_3 u1 u2 u3 K n z M = K 32 M' ∧ (∀ i, i < 32 → ∀ j, j < 64 → M' (61 + i) j = 0) ∧ (∀ x y, x < 61 → M' x y = M x y)
  | _, 0 => by intros; omega
  | 0, n + 1 => by
    intro z M _ hz _ h
    refine ⟨M, ?_, h, fun _ _ _ => rfl⟩
    unfold f_X0_loadRow_3
    rw [fLt (by omega), hz]
    rfl
  | m + 1, n + 1 => by
    intro z M hm hz hn h
    obtain ⟨M', i1, i2, i3⟩ := lp_clr (K := K) (u1 := u1) (u2 := u2) (u3 := u3) m n (z + 1) (stP M (32 - (m + 1)) (enc 0 0 [])) (by omega) (by omega) (by omega) (by
      intro i hi j hj
      by_cases hi2 : i = 32 - (m + 1)
      · rw [hi2, stP_in (by rw [pl_32 (by omega)]; exact hj), enc_00]
      · rw [stP_k (by omega)]; exact h i (by omega) j hj)
    refine ⟨M', ?_, i2, fun x y hx => by rw [i3 x y hx, stP_k (by omega)]⟩
    unfold f_X0_loadRow_3
    rw [tLt (by omega), sp_pageOf hz (by omega), bd_some, sp_release, bd_some]
    exact i1
theorem TC_zero (h : ∀ i, i < 32 → ∀ j, j < 64 → C (61 + i) j = 0) : TC C (fun _ => (0, 0, [])) := fun i hi j hj => by rw [h i hi j hj]; exact (enc_00 j).symm
theorem lm_clr {K : Int → Mem → Option (Mem × Int)} {u1 u2 u3 : Int} : ∀ (m n : Nat) (z : Int) (M : Mem), m ≤ 32 → z = ((32 - m : Nat) : Int) → m < n → (∀ i, i < 32 - m → ∀ j, j < 64 → M 96 (64 * i + j) = 0) → ∃ M', f_X8_loads_3 u1 u2 u3 K n z M = K 32 M' ∧ (∀ i, i < 32 → ∀ j, j < 64 → M' 96 (64 * i + j) = 0) ∧ (∀ x y, x ≠ 96 → M' x y = M x y)
  | _, 0 => by intros; omega
  | 0, n + 1 => by
    intro z M _ hz _ h
    refine ⟨M, ?_, h, fun _ _ _ => rfl⟩
    unfold f_X8_loads_3
    rw [fLt (by omega), hz]
    rfl
  | m + 1, n + 1 => by
    intro z M hm hz hn h
    obtain ⟨M', i1, i2, i3⟩ := lm_clr (K := K) (u1 := u1) (u2 := u2) (u3 := u3) m n (z + 1) (stX M (32 - (m + 1)) (enc 0 0 [])) (by omega) (by omega) (by omega) (by
      intro i hi j hj
      by_cases hi2 : i = 32 - (m + 1)
      · rw [hi2, stX_in hj, enc_00]
      · rw [stX_o (by omega)]; exact h i (by omega) j hj)
    refine ⟨M', ?_, i2, fun x y hx => by rw [i3 x y hx, stX_k hx]⟩
    unfold f_X8_loads_3
    rw [tLt (by omega), mx_clear (by omega) hz, bd_some]
    exact i1
theorem TX_zero (h : ∀ i, i < 32 → ∀ j, j < 64 → X 96 (64 * i + j) = 0) : TX X (fun _ => (0, 0, [])) := fun i hi j hj => by rw [h i hi j hj]; exact (enc_00 j).symm
theorem PF_ok (hN : N ≤ 4) (hc : c ≤ 12) : TOk (PF f s N c) := by
  intro p hp
  unfold PF
  by_cases h1 : p < N
  · rw [if_pos h1]
    exact ⟨sg_ok _ (by omega), by show szs (sg f s (12 * p) 12) ≤ 61; rw [sg_szs]; omega, by show (0 : Int) ≤ 1 ∧ (1 : Int) ≤ 2; omega, by show (0 : Int) ≤ (p : Int) + 2 ∧ (p : Int) + 2 ≤ 255; omega⟩
  · rw [if_neg h1]
    by_cases h2 : p = N
    · rw [if_pos h2]
      exact ⟨sg_ok _ (by omega), by show szs (sg f s (12 * N) c) ≤ 61; rw [sg_szs]; omega, by show (0 : Int) ≤ 1 ∧ (1 : Int) ≤ 2; omega, by show (0 : Int) ≤ 0 ∧ (0 : Int) ≤ 255; omega⟩
    · rw [if_neg h2]
      exact ⟨(by intro e he; cases he), by show szs [] ≤ 61; rw [szs_nil]; omega, by show (0 : Int) ≤ 0 ∧ (0 : Int) ≤ 2; omega, by show (0 : Int) ≤ 0 ∧ (0 : Int) ≤ 255; omega⟩
theorem PF_N : PF f s N c N = (1, 0, sg f s (12 * N) c) := by unfold PF; rw [if_neg (by omega), if_pos rfl]
theorem PF_in : uP (PF f s N c) N (1, 0, sg f s (12 * N) (c + 1)) = PF f s N (c + 1) := by
  funext p
  by_cases h : p = N
  · subst h; rw [uP_s, PF_N]
  · rw [uP_o h]
    unfold PF
    by_cases h1 : p < N
    · rw [if_pos h1, if_pos h1]
    · rw [if_neg h1, if_neg h1, if_neg h, if_neg h]
theorem PF_next : uP (uP (PF f s N 12) N (1, (N : Int) + 2, sg f s (12 * N) 12)) (N + 1) (1, 0, sg f s (12 * (N + 1)) 1) = PF f s (N + 1) 1 := by
  funext p
  by_cases h : p = N + 1
  · subst h; rw [uP_s, PF_N]
  · rw [uP_o h]
    by_cases h2 : p = N
    · subst h2
      rw [uP_s]
      unfold PF
      rw [if_pos (by omega)]
    · rw [uP_o h2]
      unfold PF
      by_cases h1 : p < N
      · rw [if_pos h1, if_pos (by omega)]
      · rw [if_neg h1, if_neg h2, if_neg (by omega), if_neg h]
/-- leaves are filled: the class -/
theorem lp_fillL {K : Int → Int → Mem → Option (Mem × Int)} (h : LdOk f s n) : ∀ (m k N c : Nat) (v4 v5 : Int) (M : Mem), 12 * N + c + m = n → c ≤ 12 → v4 = (N : Int) → v5 = ((12 * N + c : Nat) : Int) → m < k → (1 ≤ N → 1 ≤ c) → TC M (PF f s N c) → ∃ (M' : Mem) (N' c' : Nat), f_X0_fillLeaves_19 f s (n : Int) K k v4 v5 M = K (N' : Int) (n : Int) M' ∧ 12 * N' + c' = n ∧ c' ≤ 12 ∧ (1 ≤ m → 1 ≤ c') ∧ (1 ≤ N' → 1 ≤ c') ∧ TC M' (PF f s N' c') ∧ (∀ x y, (x < 10 ∨ 20 ≤ x) → x < 61 → M' x y = M x y)
  | _, 0 => by intros; omega
  | 0, k + 1 => by
    intro N c v4 v5 M h1 h2 h3 h4 _ h6 h5
    have h60 := h.2.2.2.2.1
    refine ⟨M, N, c, ?_, by omega, h2, by omega, h6, h5, fun _ _ _ _ => rfl⟩
    unfold f_X0_fillLeaves_19
    rw [fLt (by omega), h3, show v5 = (n : Int) by omega]
  | m + 1, k + 1 => by
    intro N c v4 v5 M h1 h2 h3 h4 hk h6 hT
    have h60 := h.2.2.2.2.1
    have hN4 : N ≤ 4 := by omega
    have hr := ks_rng h (k := 12 * N + c) (by omega)
    have hsp := sp_spell (C := M) (k := 1) (n := 3) (q := f + s * v5) (z := 3) rfl (by omega) (by rw [h4]; exact hr.1) (by rw [h4]; have := hr.2; omega)
    have hks : spl 3 (f + s * v5) = ksp f s (12 * N + c) := by unfold ksp; rw [h4]
    rw [hks] at hsp
    have hfk : Fk M (stK M 1 (ksp f s (12 * N + c))) := Fk_stK (by omega)
    have hT1 := Fk_TC hT hfk
    have hkk : KyC (stK M 1 (ksp f s (12 * N + c))) 1 (ksp f s (12 * N + c)) := stK_KC ks_LOk
    have hok := PF_ok (f := f) (s := s) hN4 h2
    have hpN := TC_pg hok hT1 (show N < 32 by omega)
    rw [PF_N] at hpN
    have hpN : PgC (stK M 1 (ksp f s (12 * N + c))) N 1 0 (sg f s (12 * N) c) := hpN
    have hkl : stK M 1 (ksp f s (12 * N + c)) (10 + 2 * 1) 1 = 3 := by rw [stK_l, ks_len]; rfl
    unfold f_X0_fillLeaves_19
    rw [tLt (by omega), hsp, bd_some, sp_pageOf h3 (by omega), bd_some, sp_used hpN (by omega), bd_some, sg_szs, jn_eq, hkl]
    by_cases hc : c < 12
    · rw [fLt (by omega)]
      dsimp only
      have hpN' : PgC (stK M 1 (ksp f s (12 * N + c))) N 1 0 (sg f s (12 * N) c ++ []) := by rw [List.append_nil]; exact hpN
      have hp32 : pl N = 64 := pl_32 (by omega)
      have hins := sp_insert (t := v5) hpN' hkk (by omega) (z := ((sg f s (12 * N) c).length : Int)) rfl (by
        rw [hp32, szs_app, sg_szs, szs_cons, szs_nil]
        show 3 + (5 * c + ((ksp f s (12 * N + c)).length + 2 + 0)) ≤ 64
        rw [ks_len]; omega)
      have hsn : sg f s (12 * N) c ++ [(ksp f s (12 * N + c), v5)] = sg f s (12 * N) (c + 1) := by rw [sg_snoc, h4]; rfl
      rw [hsn] at hins
      have hT2 : TC (stP (stK M 1 (ksp f s (12 * N + c))) N (enc 1 0 (sg f s (12 * N) (c + 1)))) (PF f s N (c + 1)) := by
        rw [← PF_in]
        exact TC_st hT1 (by omega) ⟨rfl, rfl, rfl⟩
      obtain ⟨M', N', c', i1, i2, i3, i4, i5, i6, i7⟩ := lp_fillL (K := K) h m k N (c + 1) v4 (v5 + 1) _ (by omega) (by omega) h3 (by omega) (by omega) (by omega) hT2
      refine ⟨M', N', c', ?_, i2, i3, fun _ => ?_, i5, i6, ?_⟩
      · rw [sp_pageOf h3 (by omega), bd_some, sp_entries hpN, bd_some, hins, bd_some]
        exact i1
      · by_cases hN' : 1 ≤ N'
        · exact i5 hN'
        · omega
      · intro x y hx hy
        rw [i7 x y hx hy, stP_k (by omega), hfk x y hx]
    · have hc12 : c = 12 := by omega
      subst hc12
      rw [tLt (by omega), sp_pageOf h3 (by omega), bd_some, sp_setLink, bd_some, sp_pageOf (i := N + 1) (by omega) (by omega), bd_some, sp_begin, bd_some]
      dsimp only
      have hkk2 : KyC (stP (up (stK M 1 (ksp f s (12 * N + 12))) (61 + N) 2 (v4 + 2)) (N + 1) (enc 1 0 [])) 1 (ksp f s (12 * N + 12)) := KC_st ⟨by rw [up_k (by omega)]; exact hkk.1, fun j hj => by rw [up_k (by omega)]; exact hkk.2.1 j hj, hkk.2.2⟩ (by omega)
      have hp32 : pl (N + 1) = 64 := pl_32 (by omega)
      have hpn : PgC (stP (up (stK M 1 (ksp f s (12 * N + 12))) (61 + N) 2 (v4 + 2)) (N + 1) (enc 1 0 [])) (N + 1) 1 0 ([] ++ []) := PgC_st (by intro e he; cases he) (by simp [szs]; omega) (by omega) (by omega)
      have hins := sp_insert (t := v5) hpn hkk2 (by omega) (z := 0) (by rfl) (by
        rw [hp32, List.nil_append, szs_cons, szs_nil]
        show 3 + ((ksp f s (12 * N + 12)).length + 2 + 0) ≤ 64
        rw [ks_len]; omega)
      have hsn : [] ++ [(ksp f s (12 * N + 12), v5)] = sg f s (12 * (N + 1)) 1 := by rw [h4]; show _ = [en f s (12 * (N + 1) + 0)]; rw [show 12 * (N + 1) + 0 = 12 * N + 12 by omega]; rfl
      rw [hsn, stP_stP] at hins
      have hT2 : TC (stP (up (stK M 1 (ksp f s (12 * N + 12))) (61 + N) 2 (v4 + 2)) (N + 1) (enc 1 0 (sg f s (12 * (N + 1)) 1))) (PF f s (N + 1) 1) := by
        rw [← PF_next]
        refine TC_st (P := uP (PF f s N 12) N (1, (N : Int) + 2, sg f s (12 * N) 12)) ?_ (by omega) ⟨rfl, rfl, rfl⟩
        intro i hi j hj
        by_cases hiN : i = N
        · subst hiN
          rw [uP_s]
          by_cases hj2 : j = 2
          · subst hj2; rw [up_same, h3]; rfl
          · rw [up_j hj2, hpN.1 j (by rw [pl_32 hi]; exact hj)]
            show enc 1 0 _ j = enc 1 ((i : Int) + 2) _ j
            unfold enc
            by_cases j0 : j = 0
            · rw [if_pos j0, if_pos j0]
            · rw [if_neg j0, if_neg j0]
              by_cases j1 : j = 1
              · rw [if_pos j1, if_pos j1]
              · rw [if_neg j1, if_neg j1, if_neg hj2, if_neg hj2]
        · rw [uP_o hiN, up_k (by omega)]
          exact hT1 i hi j hj
      obtain ⟨M', N', c', i1, i2, i3, i4, i5, i6, i7⟩ := lp_fillL (K := K) h m k (N + 1) 1 (v4 + 1) (v5 + 1) _ (by omega) (by omega) (by omega) (by omega) (by omega) (by omega) hT2
      refine ⟨M', N', c', ?_, i2, i3, fun _ => ?_, i5, i6, ?_⟩
      · rw [sp_pageOf (i := N + 1) (by omega) (by omega), bd_some, sp_entries hpn, bd_some]
        show bd (f_X4_insert (N + 1) 0 1 v5 _) _ = _
        rw [hins, bd_some]
        exact i1
      · by_cases hN' : 1 ≤ N'
        · exact i5 hN'
        · omega
      · intro x y hx hy
        rw [i7 x y hx hy, stP_k (by omega), up_k (by omega), hfk x y hx]
end LO

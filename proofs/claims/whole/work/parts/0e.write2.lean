/-! CLASS: what writes a page, second; keys. -/
section W2
variable {C : Mem} {i k m n : Nat} {g g' : Nat → Int} {s l : Int} {es a b c x y z : List Ent} {e : Ent} {w u v : List Int}
theorem gd_c {q : List Int} {j j' : Nat} (h : j = j') : q.getD j 0 = q.getD j' 0 := by rw [h]
theorem some_c {M M' : Mem} {t t' : Int} (h : M = M') (h2 : t = t') : some (M, t) = some (M', t') := by rw [h, h2]
theorem stP_ext {M : Mem} (h1 : ∀ p q, p ≠ 61 + i → M p q = C p q) (h2 : ∀ q, pl i ≤ q → M (61 + i) q = C (61 + i) q) (h3 : ∀ q, q < pl i → M (61 + i) q = g q) : M = stP C i g := by
  funext p q
  by_cases hp : p = 61 + i
  · subst hp
    by_cases hq : q < pl i
    · rw [h3 q hq, stP_in hq]
    · rw [h2 q (by omega)]
      unfold stP
      rw [stI_out (by omega)]
  · rw [h1 p q hp, stP_k hp]
theorem stP_stP : stP (stP C i g) i g' = stP C i g' := by
  refine stP_ext ?_ ?_ ?_
  · intro p q hp
    rw [stP_k hp, stP_k hp]
  · intro q hq
    unfold stP
    rw [stI_out (by omega), stI_out (by omega)]
  · intro q hq
    rw [stP_in hq]
theorem rw_link : f_X4_link i C = some (C, C (61 + i) 2) := by
  have h2 := pl_ge i
  unfold f_X4_link
  rw [ix_t (by omega)]
theorem sp_setTail (h : PgC C i s l (a ++ e :: b)) {q t : Int} (hq : q = (a.length : Int)) : f_X4_setTail i q t C = some (stP C i (enc s l (a ++ (e.1, t) :: b)), 0) := by
  have h6 := PgC_len h
  have hf := h.2.2.1
  rw [szs_app, szs_cons] at h6 hf
  have h' : PgC C i s l ((a ++ [e]) ++ b) := by rw [List.append_assoc]; exact h
  unfold f_X4_setTail
  rw [sp_offset h' (by simp; omega), bd_some, szs_app, szs_cons, szs_nil, sp_set (by omega), bd_some]
  refine some_c ?_ rfl
  refine stP_ext ?_ ?_ ?_
  · intro p q hp
    rw [up_k hp]
  · intro q hq
    rw [up_j (by omega)]
  · intro j hj
    by_cases h1 : j = 3 + szs a + 1 + e.1.length
    · rw [show (((3 + (szs a + (e.1.length + 2 + 0)) : Nat) : Int) - 1).toNat = j by omega, up_same]
      exact (enc_tail (e := (e.1, t)) h1).symm
    · rw [up_j (by omega), h.1 j hj]
      by_cases hlo : j < 3 + szs a ∧ j ≠ 1
      · rw [enc_lo hlo.1 hlo.2, enc_lo hlo.1 hlo.2]
      · by_cases hj1 : j = 1
        · subst hj1
          rw [enc_1, enc_1]; simp
        · rw [enc_hi (by omega), enc_hi (by omega), flat_cons, flat_cons]
          by_cases h3 : j - 3 - szs a < e.1.length + 2
          · rw [gd_l (by rw [e1_len]; omega), gd_l (by rw [e1_len]; exact h3)]
            by_cases h4 : j - 3 - szs a = 0
            · rw [h4]; rfl
            · rw [show j - 3 - szs a = 1 + (j - 3 - szs a - 1) by omega, e1_l _ (by omega), e1_l _ (by show _ < e.1.length; omega)]
          · rw [gd_r (by rw [e1_len]; omega), gd_r (by rw [e1_len]; show e.1.length + 2 ≤ _; omega), e1_len, e1_len]
/-- an entry goes -/
theorem lp_rem {K : Int → Mem → Option (Mem × Int)} {le st : Nat} (hle : 0 < le) (hle2 : le < 1000) : ∀ (m n : Nat) (z : Int), z = ((pl i - m : Nat) : Int) → m + st ≤ pl i → m < n → f_X4_remove_19 i (le : Int) K n z (stI C (61 + i) st (pl i - m) (fun j => if j + le < pl i then C (61 + i) (j + le) else 0)) = K ((pl i : Nat) : Int) (stI C (61 + i) st (pl i) (fun j => if j + le < pl i then C (61 + i) (j + le) else 0))
  | _, 0 => by intros; omega
  | 0, n + 1 => by
    intro z hz _ _
    have h2 := pl_ge i
    unfold f_X4_remove_19
    rw [fLt (by omega), hz]
    rfl
  | m + 1, n + 1 => by
    intro z hz hm hn
    have h2 := pl_ge i
    have q := lp_rem (K := K) (st := st) hle hle2 m n (z + 1) (by omega) (by omega) (by omega)
    unfold f_X4_remove_19
    rw [tLt (by omega)]
    by_cases hb : pl i - (m + 1) + le < pl i
    · rw [rw_at (by omega), bd_some, ix_t (by omega), nat2 hz, show (z + (le : Int)).toNat = pl i - (m + 1) + le by omega, stI_out (by omega), stI_up (by omega) (by rw [if_pos hb]), show pl i - (m + 1) + 1 = pl i - m by omega]
      exact q
    · rw [rw_at_out (by omega), bd_some, ix_t (by omega), nat2 hz, stI_up (by omega) (by rw [if_neg hb]), show pl i - (m + 1) + 1 = pl i - m by omega]
      exact q
theorem sp_remove (h : PgC C i s l (a ++ e :: b)) {q : Int} (hq : q = (a.length : Int)) : f_X4_remove i q C = some (stP C i (enc s l (a ++ b)), 0) := by
  have h2 := pl_ge i
  have hfu := FU_eq
  have h6 := PgC_len h
  have hf := h.2.2.1
  rw [szs_app, szs_cons] at h6 hf
  have hsz : szs (a ++ b) = szs a + szs b := szs_app a b
  have h' : PgC C i s l ((a ++ [e]) ++ b) := by rw [List.append_assoc]; exact h
  unfold f_X4_remove
  rw [sp_offset h hq, bd_some, sp_offset h' (by simp; omega), bd_some, szs_app a [e], szs_cons, szs_nil]
  have q1 := lp_rem (C := C) (i := i) (le := e.1.length + 2) (st := 3 + szs a) (K := (fun (v4_e19 : Int) (C_e19 : Mem) => (ix (1) (pl i) (ix (1) (pl i) (some ((up C_e19 (61 + i) 1 ((C_e19 (61 + i) 1) - 1)), 0)))))) (by omega) (by omega) (pl i - (3 + szs a)) FU ((3 + szs a : Nat) : Int) (by omega) (by omega) (by omega)
  rw [show pl i - (pl i - (3 + szs a)) = 3 + szs a by omega, stI_nil] at q1
  rw [show ((3 + (szs a + (e.1.length + 2 + 0)) : Nat) : Int) - ((3 + szs a : Nat) : Int) = ((e.1.length + 2 : Nat) : Int) by omega, q1]
  show ix 1 (pl i) _ = _
  rw [ix_t (by omega), ix_t (by omega)]
  refine some_c ?_ rfl
  refine stP_ext ?_ ?_ ?_
  · intro p q hp
    rw [up_k hp, stI_k hp]
  · intro q hq
    rw [up_j (by omega), stI_out (by omega)]
  · intro j hj
    by_cases hj1 : j = 1
    · subst hj1
      rw [up_same, stI_out (by omega), h.1 1 (by omega), enc_1, enc_1]
      simp
      omega
    · rw [up_j hj1]
      by_cases hlo : j < 3 + szs a
      · rw [stI_out (by omega), h.1 j hj, enc_lo hlo hj1, enc_lo hlo hj1]
      · rw [stI_in (by omega), enc_hi (by omega)]
        by_cases hh : j + (e.1.length + 2) < pl i
        · rw [if_pos hh, h.1 _ hh, enc_hi (by omega), flat_cons, gd_r (by rw [e1_len]; omega), e1_len]
          exact gd_c (by omega)
        · rw [if_neg hh, gd_out (by rw [flat_len]; omega)]
/-- entries of another page come behind -/
theorem lp_app {K : Int → Mem → Option (Mem × Int)} {j : Nat} {u2 u3 : Int} {s' l' : Int} (hij : i ≠ j) (h : PgC C j s' l' (x ++ y ++ z)) {en : Nat} (hf : en + szs y ≤ pl i) : ∀ (m n : Nat) (q : Int), q = ((szs y - m : Nat) : Int) → m ≤ szs y → m < n → f_X4_append_30 i j u2 u3 (en : Int) ((3 + szs x : Nat) : Int) ((szs y : Nat) : Int) K n q (stI C (61 + i) en (en + (szs y - m)) (fun p => enc s' l' (x ++ y ++ z) (3 + szs x + (p - en)))) = K ((szs y : Nat) : Int) (stI C (61 + i) en (en + szs y) (fun p => enc s' l' (x ++ y ++ z) (3 + szs x + (p - en))))
  | _, 0 => by intros; omega
  | 0, n + 1 => by
    intro q hq _ _
    have h2 := pl_ge i
    unfold f_X4_append_30
    rw [fLt (by omega), hq]
    rfl
  | m + 1, n + 1 => by
    intro q hq hm hn
    have h2 := pl_ge i
    have h3 := PgC_len h
    rw [szs_app, szs_app] at h3
    have hc : PgC (stI C (61 + i) en (en + (szs y - (m + 1))) (fun p => enc s' l' (x ++ y ++ z) (3 + szs x + (p - en)))) j s' l' (x ++ y ++ z) := ⟨fun t ht => by rw [stI_k (by omega)]; exact h.1 t ht, h.2⟩
    have ih := lp_app (K := K) (u2 := u2) (u3 := u3) hij h hf m n (q + 1) (by omega) (by omega) (by omega)
    unfold f_X4_append_30
    rw [tLt (by omega), sp_at hc (by omega) (by omega), bd_some, sp_set (by omega), bd_some, show ((en : Int) + q).toNat = en + (szs y - (m + 1)) by omega, stI_up (by omega) (by congr 1; omega), show en + (szs y - (m + 1)) + 1 = en + (szs y - m) by omega]
    exact ih
theorem sp_append {j : Nat} {s' l' : Int} (hij : i ≠ j) (h : PgC C i s l es) (h' : PgC C j s' l' (x ++ y ++ z)) {q1 q2 : Int} (hq1 : q1 = (x.length : Int)) (hq2 : q2 = ((x ++ y).length : Int)) (hf : 3 + szs (es ++ y) ≤ pl i) : f_X4_append i j q1 q2 C = some (stP C i (enc s l (es ++ y)), 0) := by
  have h2 := pl_ge i
  have hfu := FU_eq
  have h6 := PgC_len h
  have h7 := PgC_len h'
  have h7' := h'.2.2.1
  have h8 := pl_ge j
  rw [szs_app, szs_app] at h7 h7'
  have hsz : szs (es ++ y) = szs es + szs y := szs_app es y
  have h'' : PgC C j s' l' (x ++ (y ++ z)) := by rw [← List.append_assoc]; exact h'
  unfold f_X4_append
  rw [sp_entries h, bd_some, sp_offset_all h rfl, bd_some, sp_offset h'' hq1, bd_some, sp_offset h' hq2, bd_some, szs_app x y]
  have q := lp_app (C := C) (i := i) (u2 := q1) (u3 := q2) (en := 3 + szs es) (K := (fun (v7_e30 : Int) (C_e30 : Mem) => (ix (1) (pl i) (ix (1) (pl i) (some ((up C_e30 (61 + i) 1 ((C_e30 (61 + i) 1) + (q2 - q1))), 0)))))) hij h' (by omega) (szs y) FU 0 (by omega) (by omega) (by omega)
  rw [show 3 + szs es + (szs y - szs y) = 3 + szs es by omega, stI_nil] at q
  rw [show ((3 + (szs x + szs y) : Nat) : Int) - ((3 + szs x : Nat) : Int) = ((szs y : Nat) : Int) by omega, q]
  show ix 1 (pl i) _ = _
  rw [ix_t (by omega), ix_t (by omega)]
  refine some_c ?_ rfl
  refine stP_ext ?_ ?_ ?_
  · intro p q hp
    rw [up_k hp, stI_k hp]
  · intro q hq
    rw [up_j (by omega), stI_out (by omega)]
  · intro t ht
    by_cases hj1 : t = 1
    · subst hj1
      rw [up_same, stI_out (by omega), h.1 1 (by omega), enc_1, enc_1, hq1, hq2]
      simp
      omega
    · rw [up_j hj1]
      by_cases hlo : t < 3 + szs es
      · rw [stI_out (by omega), h.1 t ht, enc_lo hlo hj1]
      · rw [enc_hi (by omega)]
        by_cases hh : t < 3 + szs es + szs y
        · rw [stI_in (by omega), List.append_assoc, enc_hi (by omega), flat_app, gd_l (by rw [flat_len]; omega)]
          exact gd_c (by omega)
        · rw [stI_out (by omega), h.1 t ht, enc_out (by omega), gd_out (by rw [flat_len]; omega)]
/-! keys -/
def stK (C : Mem) (k : Nat) (w : List Int) : Mem := fun x y => if x = 10 + 2 * k ∧ y = 1 then (w.length : Int) else if x = 11 + 2 * k ∧ y < w.length then w.getD y 0 else C x y
theorem stK_ap {p q : Nat} : stK C k w p q = if p = 10 + 2 * k ∧ q = 1 then (w.length : Int) else if p = 11 + 2 * k ∧ q < w.length then w.getD q 0 else C p q := rfl
theorem stK_o {p q : Nat} (h1 : p ≠ 10 + 2 * k) (h2 : p ≠ 11 + 2 * k) : stK C k w p q = C p q := by
  rw [stK_ap, if_neg (by omega), if_neg (by omega)]
theorem stK_l : stK C k w (10 + 2 * k) 1 = (w.length : Int) := by rw [stK_ap, if_pos ⟨rfl, rfl⟩]
theorem stK_KC (h : LOk w) : KyC (stK C k w) k w := ⟨stK_l, fun j hj => by rw [stK_ap, if_neg (by omega), if_pos (by omega)], h⟩
theorem stK_nil : up C (10 + 2 * k) 1 0 = stK C k [] := by
  funext p q
  rw [up_ap, stK_ap]
  by_cases h : p = 10 + 2 * k ∧ q = 1
  · rw [if_pos h, if_pos h]; rfl
  · rw [if_neg h, if_neg h, if_neg (by simp)]
theorem sp_empty : f_X3_empty k C = some (stK C k [], 0) := by
  unfold f_X3_empty
  rw [stK_nil]
theorem sp_add {t : Int} (h : w.length < 8) : f_X3_add k t (stK C k w) = some (stK C k (w ++ [t]), 0) := by
  unfold f_X3_add
  rw [stK_l, fLt (by omega), tLt (by omega), ix_t (by omega)]
  refine some_c ?_ rfl
  funext p q
  rw [nat2 rfl, up_ap, stK_ap (w := w ++ [t])]
  by_cases h1 : p = 10 + 2 * k ∧ q = 1
  · rw [if_pos h1, if_pos h1, up_k (by omega), stK_l]
    simp
  · rw [if_neg h1, if_neg h1, up_ap]
    by_cases h2 : p = 11 + 2 * k ∧ q = w.length
    · rw [if_pos h2, if_pos (by simp; omega), h2.2]
      simp
    · rw [if_neg h2, stK_ap, if_neg h1]
      by_cases h3 : p = 11 + 2 * k ∧ q < w.length
      · rw [if_pos h3, if_pos (by simp; omega), gd_l h3.2]
      · rw [if_neg h3, if_neg (by simp; omega)]
theorem lp_readKey {K : Int → Mem → Option (Mem × Int)} (hk : k < 5) (h : PgC C i s l (a ++ e :: b)) : ∀ (r q : List Int) (n : Nat) (z : Int), e.1 = q ++ r → z = (q.length : Int) + 1 → r.length < n → f_X4_readKey_25 i k ((3 + szs a : Nat) : Int) (e.1.length : Int) K n z (stK C k q) = K ((e.1.length : Int) + 1) (stK C k e.1)
  | _, _, 0 => by intros; omega
  | [], q, n + 1 => by
    intro z h1 hz _
    have h3 := (EsOk_mid h.2.1).2.1
    rw [List.append_nil] at h1
    have h4 := congrArg List.length h1
    unfold f_X4_readKey_25
    rw [tLt (by omega), hz, h1]
  | t :: r, q, n + 1 => by
    intro z h1 hz hn
    have h3 := (EsOk_mid h.2.1).2.1
    have h6 := PgC_len h
    rw [szs_app, szs_cons] at h6
    have hl : e.1.length = q.length + (r.length + 1) := by rw [h1]; simp
    have hc : PgC (stK C k q) i s l (a ++ e :: b) := ⟨fun p hp => by rw [stK_o (by omega) (by omega)]; exact h.1 p hp, h.2⟩
    have ih := lp_readKey (K := K) hk h r (q ++ [t]) n (z + 1) (by rw [h1]; simp) (by simp; omega) (by simp at hn; omega)
    unfold f_X4_readKey_25
    rw [fLt (by omega), sp_at hc (by omega) (by omega), bd_some, enc_let (j := q.length) (by omega) (by omega), h1, gd_r (by omega), Nat.sub_self]
    rw [h1] at ih
    show bd (f_X3_add k t (stK C k q)) _ = _
    rw [sp_add (by omega), bd_some]
    exact ih
theorem sp_readKey (hk : k < 5) (h : PgC C i s l (a ++ e :: b)) {z : Int} (hz : z = (a.length : Int)) : f_X4_readKey i z k C = some (stK C k e.1, 0) := by
  have hfu := FU_eq
  have h3 := (EsOk_mid h.2.1).2.1
  have h6 := PgC_len h
  rw [szs_app, szs_cons] at h6
  unfold f_X4_readKey
  rw [sp_offset h hz, bd_some, sp_at h (by omega) (by omega), bd_some, nat2 rfl, enc_len rfl, rg_t (by simp only [R32]; omega), sp_empty, bd_some, show min (e.1.length : Int) 8 = (e.1.length : Int) by omega, lp_readKey hk h e.1 [] FU 1 rfl rfl (by omega)]
theorem lp_kcopy {K : Int → Mem → Option (Mem × Int)} {j : Nat} (hk : k ≠ j) (h : KyC C j w) : ∀ (r q : List Int) (n : Nat) (z : Int), w = q ++ r → z = (q.length : Int) → r.length < n → f_X3_copyFrom_6 k j K n z (stK C k q) = K (w.length : Int) (stK C k w)
  | _, _, 0 => by intros; omega
  | [], q, n + 1 => by
    intro z h1 hz _
    have h3 := h.2.2.1
    rw [List.append_nil] at h1
    unfold f_X3_copyFrom_6
    rw [stK_o (by omega) (by omega), h.1, fLt (by rw [h1] at h3 ⊢; omega), hz, h1]
  | t :: r, q, n + 1 => by
    intro z h1 hz hn
    have h3 := h.2.2.1
    have hl : w.length = q.length + (r.length + 1) := by rw [h1]; simp
    have hc : KyC (stK C k q) j w := ⟨by rw [stK_o (by omega) (by omega)]; exact h.1, fun p hp => by rw [stK_o (by omega) (by omega)]; exact h.2.1 p hp, h.2.2⟩
    have ih := lp_kcopy (K := K) hk h r (q ++ [t]) n (z + 1) (by rw [h1]; simp) (by simp; omega) (by simp at hn; omega)
    unfold f_X3_copyFrom_6
    rw [stK_o (by omega) (by omega), h.1, tLt (by omega), sp_kat hc (by omega) (by omega), bd_some, nat2 hz]
    have ht : w.getD q.length 0 = t := by rw [h1, gd_r (by omega), Nat.sub_self]; rfl
    rw [ht, sp_add (by omega), bd_some]
    exact ih
theorem sp_kcopy {j : Nat} (hk : k ≠ j) (h : KyC C j w) : f_X3_copyFrom k j C = some (stK C k w, 0) := by
  have hfu := FU_eq
  have h3 := h.2.2.1
  unfold f_X3_copyFrom
  rw [sp_empty, bd_some, lp_kcopy hk h w [] FU 0 rfl rfl (by omega)]
/-- figures to the base 26 -/
def spl : Nat → Int → List Int
  | 0, _ => []
  | n + 1, q => spl n (q / 26) ++ [97 + q % 26]
theorem spl_len : ∀ (n : Nat) (q : Int), (spl n q).length = n
  | 0, _ => rfl
  | n + 1, q => by unfold spl; simp [spl_len n]
theorem spl_rng : ∀ (n : Nat) (q : Int), ∀ t ∈ spl n q, 97 ≤ t ∧ t ≤ 122
  | 0, _ => by simp [spl]
  | n + 1, q => by
    intro t ht
    unfold spl at ht
    rcases List.mem_append.mp ht with h | h
    · exact spl_rng n _ t h
    · have := List.mem_singleton.mp h
      omega
theorem spl_LOk {n : Nat} (h : n ≤ 8) (q : Int) : LOk (spl n q) := ⟨by rw [spl_len]; exact h, spl_rng n q⟩
theorem stI_spl {q : Int} : stI (up C k m (97 + q % 26)) k 0 m (fun j => (spl m (q / 26)).getD j 0) = stI C k 0 (m + 1) (fun j => (spl (m + 1) q).getD j 0) := by
  funext p t
  rw [stI_ap, stI_ap, up_ap]
  by_cases h1 : p = k
  · by_cases h2 : t < m
    · rw [if_pos (by omega), if_pos (by omega)]
      show _ = (spl m (q / 26) ++ [97 + q % 26]).getD t 0
      rw [gd_l (by rw [spl_len]; exact h2)]
    · by_cases h3 : t = m
      · rw [if_neg (by omega), if_pos (by omega), if_pos (by omega)]
        show _ = (spl m (q / 26) ++ [97 + q % 26]).getD t 0
        rw [gd_r (by rw [spl_len]; omega), spl_len, h3, Nat.sub_self]
        rfl
      · rw [if_neg (by omega), if_neg (by omega), if_neg (by omega)]
  · rw [if_neg (by omega), if_neg (by omega), if_neg (by omega)]
theorem lp_spell {K : Int → Int → Mem → Option (Mem × Int)} : ∀ (m n : Nat) (q z : Int) (M : Mem), z = (m : Int) - 1 → m ≤ 8 → m < n → 0 ≤ q → q < 2147483648 → ∃ q', f_X3_spell_27 k K n q z M = K q' (-1) (stI M (11 + 2 * k) 0 m (fun j => (spl m q).getD j 0))
  | _, 0 => by intros; omega
  | 0, n + 1 => by
    intro q z M hz _ _ _ _
    unfold f_X3_spell_27
    rw [tLt (by omega), stI_nil, hz]
    exact ⟨q, rfl⟩
  | m + 1, n + 1 => by
    intro q z M hz hm hn h0 h1
    obtain ⟨q', ih⟩ := lp_spell (K := K) m n (q / 26) (z + -1) (up M (11 + 2 * k) m (97 + q % 26)) (by omega) (by omega) (by omega) (by omega) (by omega)
    unfold f_X3_spell_27
    rw [fLt (by omega), dv_t (by omega), ix_t (by omega), dv_t (by omega), show z.toNat = m by omega, ih, stI_spl]
    exact ⟨q', rfl⟩
theorem sp_spell {q z : Int} (hz : z = (n : Int)) (hn : n ≤ 8) (h0 : 0 ≤ q) (h1 : q < 2147483648) : f_X3_spell k q z C = some (stK C k (spl n q), 0) := by
  have hfu := FU_eq
  unfold f_X3_spell
  rw [rg_t (by simp only [R32]; omega), rg_t (by simp only [R32]; omega), show max 0 (min z ((8 : Nat) : Int)) = (n : Int) by omega, up_same]
  obtain ⟨q', ih⟩ := lp_spell (k := k) (K := (fun (v3_e27 : Int) (v4_e27 : Int) (C_e27 : Mem) => (some (C_e27, 0)))) n FU q ((n : Int) - 1) (up C (10 + 2 * k) 1 (n : Int)) rfl hn (by omega) h0 h1
  rw [ih]
  refine some_c ?_ rfl
  funext p t
  rw [stI_ap, up_ap, stK_ap, spl_len]
  by_cases h : p = 10 + 2 * k ∧ t = 1
  · rw [if_neg (by omega), if_pos h, if_pos h]
  · rw [if_neg h, if_neg h]
    by_cases h2 : p = 11 + 2 * k ∧ t < n
    · rw [if_pos (by omega), if_pos h2]
    · rw [if_neg (by omega), if_neg h2]
theorem cp_drop (hv : ∀ x ∈ v, 0 < x) (j : Nat) : cp (u.drop j) (v.drop j) = if j < v.length ∧ v.getD j 0 = u.getD j 0 then cp (u.drop (j + 1)) (v.drop (j + 1)) + 1 else 0 := by
  by_cases h2 : j < v.length
  · have e2 : v.getD j 0 = v[j] := by rw [List.getD_eq_getElem?_getD, List.getElem?_eq_getElem h2]; rfl
    have p2 := hv _ (List.getElem_mem h2)
    rw [List.drop_eq_getElem_cons h2, e2]
    by_cases h1 : j < u.length
    · have e1 : u.getD j 0 = u[j] := by rw [List.getD_eq_getElem?_getD, List.getElem?_eq_getElem h1]; rfl
      rw [List.drop_eq_getElem_cons h1, e1]
      show (if u[j] = v[j] then cp (List.drop (j + 1) u) (List.drop (j + 1) v) + 1 else 0) = _
      by_cases h3 : u[j] = v[j]
      · rw [if_pos h3, if_pos ⟨h2, h3.symm⟩]
      · rw [if_neg h3, if_neg (fun q => h3 q.2.symm)]
    · rw [List.drop_eq_nil_of_le (show u.length ≤ j by omega), gd_out (show u.length ≤ j by omega), if_neg (by omega)]
      rfl
  · rw [if_neg (by omega), List.drop_eq_nil_of_le (show v.length ≤ j by omega)]
    cases List.drop j u <;> rfl
theorem lp_cut {K : Int → Mem → Option (Mem × Int)} {j : Nat} (hv : KyC C k v) (hu : KyC C j u) : ∀ (m n : Nat) (z : Int), m ≤ 8 → z = ((8 - m : Nat) : Int) → m < n → f_X3_cutAbove_2 k j K n z C = K ((8 - m + cp (u.drop (8 - m)) (v.drop (8 - m)) : Nat) : Int) C
  | _, 0 => by intros; omega
  | 0, n + 1 => by
    intro z h1 hz _
    have h3 := hv.2.2.1
    unfold f_X3_cutAbove_2
    rw [hv.1, fLt (by omega), cp_drop (LOk_pos hv.2.2), if_neg (by omega), hz]
  | m + 1, n + 1 => by
    intro z h1 hz hn
    have h3 := hv.2.2.1
    have g1 := LOk_gd hv.2.2 (8 - (m + 1))
    have g2 := LOk_gd hu.2.2 (8 - (m + 1))
    have ih := lp_cut (K := K) hv hu m n (z + 1) (by omega) (by omega) (by omega)
    unfold f_X3_cutAbove_2
    rw [hv.1, cp_drop (LOk_pos hv.2.2)]
    by_cases h2 : 8 - (m + 1) < v.length
    · rw [tLt (by omega), sp_kat hv (by omega) (by omega), bd_some, sp_kat hu (by omega) (by omega), bd_some, nat2 hz]
      by_cases h4 : v.getD (8 - (m + 1)) 0 = u.getD (8 - (m + 1)) 0
      · rw [tEq (by omega), if_pos ⟨h2, h4⟩, ih, show 8 - (m + 1) + 1 = 8 - m by omega]
        congr 1
        omega
      · rw [fEq (by omega), if_neg (fun q => h4 q.2), hz]
        rfl
    · rw [fLt (by omega), if_neg (by omega), hz]
      rfl
theorem sp_cut {j : Nat} (hv : KyC C k v) (hu : KyC C j u) (h : cmp u v < 0) : f_X3_cutAbove k j C = some (up C (10 + 2 * k) 1 ((sep u v).length : Int), 0) := by
  have hfu := FU_eq
  have h1 := cp_lt u v h
  have h2 := hv.2.2.1
  unfold f_X3_cutAbove
  rw [lp_cut hv hu 8 FU 0 (by omega) rfl (by omega)]
  show rg _ _ _ = _
  rw [hv.1, rg_t (by simp only [R32, Nat.sub_self, List.drop_zero]; omega), sep_len h, Nat.sub_self, List.drop_zero, List.drop_zero]
  refine some_c ?_ rfl
  congr 1
  omega
theorem gd_take {j q : Nat} (h : j < q) : (v.take q).getD j 0 = v.getD j 0 := by
  rw [List.getD_eq_getElem?_getD, List.getElem?_take, if_pos h, List.getD_eq_getElem?_getD]
theorem sep_LOk (h : LOk v) : LOk (sep u v) := by
  unfold sep
  refine ⟨?_, fun x hx => h.2 x (List.mem_of_mem_take hx)⟩
  have := h.1
  simp
  omega
theorem sep_pos (h : cmp u v < 0) : 1 ≤ (sep u v).length := by rw [sep_len h]; omega
theorem KC_cut (hv : KyC C k v) (h : cmp u v < 0) : KyC (up C (10 + 2 * k) 1 ((sep u v).length : Int)) k (sep u v) := by
  refine ⟨up_same, ?_, sep_LOk hv.2.2⟩
  intro j hj
  have h1 := sep_len h
  have h2 := cp_lt u v h
  rw [up_k (by omega), hv.2.1 j (by omega)]
  unfold sep
  rw [gd_take (by omega)]
/-- where two halves part -/
def hfA (all : Nat) : Nat → List Ent → Nat
  | _, [] => 0
  | acc, e :: r => if 2 * acc < all then hfA all (acc + (e.1.length + 2)) r + 1 else 0
def hf (es : List Ent) : Nat := hfA (szs es) 0 es
theorem lp_half {K : Int → Mem → Option (Mem × Int)} (h : PgC C i s l es) {all : Nat} (hall : all ≤ 253) : ∀ (b a : List Ent) (n : Nat) (z : Int), es = a ++ b → z = (a.length : Int) → b.length < n → f_X4_half_13 i (all : Int) K n z C = K ((a.length + hfA all (szs a) b : Nat) : Int) C
  | _, _, 0 => by intros; omega
  | [], a, n + 1 => by
    intro z h1 hz _
    have h6 := PgC_len h
    rw [List.append_nil] at h1
    unfold f_X4_half_13
    rw [sp_entries h, bd_some, fLt (by rw [h1] at h6 ⊢; omega), hz]
    rfl
  | e :: b, a, n + 1 => by
    intro z h1 hz hn
    have h6 := PgC_len h
    have h9 : es.length = a.length + (b.length + 1) := by rw [h1]; simp
    have h8 : szs es = szs a + (e.1.length + 2 + szs b) := by rw [h1, szs_app, szs_cons]
    have ih := lp_half (K := K) h hall b (a ++ [e]) n (z + 1) (by rw [h1]; simp) (by simp; omega) (by simp at hn; omega)
    rw [szs_app, szs_cons, szs_nil] at ih
    unfold f_X4_half_13 hfA
    rw [sp_entries h, bd_some, tLt (by omega), sp_offset (by rw [← h1]; exact h) hz, bd_some]
    by_cases hd : 2 * szs a < all
    · rw [tLt (by omega), if_pos hd, ih]
      congr 1
      simp
      omega
    · rw [fLt (by omega), if_neg hd, hz]
      rfl
theorem sp_half (h : PgC C i s l es) : f_X4_half i C = some (C, ((hf es : Nat) : Int)) := by
  have hfu := FU_eq
  have h6 := PgC_len h
  unfold f_X4_half
  rw [sp_entries h, bd_some, sp_offset_all h rfl, bd_some, show ((3 + szs es : Nat) : Int) - 3 = ((szs es : Nat) : Int) by omega, lp_half h (by omega) es [] FU 0 rfl rfl (by omega)]
  unfold hf
  simp [szs]
end W2

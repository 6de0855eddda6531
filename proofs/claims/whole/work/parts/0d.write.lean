/-! CLASS: what writes a page. -/
def stI (C : Mem) (k m n : Nat) (g : Nat → Int) : Mem := fun a b => if a = k ∧ m ≤ b ∧ b < n then g b else C a b
def stP (C : Mem) (i : Nat) (g : Nat → Int) : Mem := stI C (61 + i) 0 (pl i) g
section WR
variable {C : Mem} {i k m n : Nat} {g : Nat → Int} {s l : Int} {es a b c : List Ent} {e : Ent} {w : List Int}
theorem stI_ap {x y : Nat} : stI C k m n g x y = if x = k ∧ m ≤ y ∧ y < n then g y else C x y := rfl
theorem up_ap {x y : Nat} {z : Int} : up C k m z x y = if x = k ∧ y = m then z else C x y := rfl
theorem stI_nil : stI C k m m g = C := by
  funext x y
  unfold stI
  rw [if_neg (by omega)]
theorem stI_up (h : m ≤ n) {z : Int} (hz : z = g n) : up (stI C k m n g) k n z = stI C k m (n + 1) g := by
  funext x y
  rw [up_ap, stI_ap, stI_ap]
  by_cases h1 : x = k ∧ y = n
  · rw [if_pos h1, if_pos (by omega), hz, h1.2]
  · rw [if_neg h1]
    by_cases h2 : x = k ∧ m ≤ y ∧ y < n
    · rw [if_pos h2, if_pos (by omega)]
    · rw [if_neg h2, if_neg (by omega)]
theorem stI_dn (h : m < n) {z : Int} (hz : z = g m) : up (stI C k (m + 1) n g) k m z = stI C k m n g := by
  funext x y
  rw [up_ap, stI_ap, stI_ap]
  by_cases h1 : x = k ∧ y = m
  · rw [if_pos h1, if_pos (by omega), hz, h1.2]
  · rw [if_neg h1]
    by_cases h2 : x = k ∧ m + 1 ≤ y ∧ y < n
    · rw [if_pos h2, if_pos (by omega)]
    · rw [if_neg h2, if_neg (by omega)]
theorem stI_k {x y : Nat} (h : x ≠ k) : stI C k m n g x y = C x y := by
  unfold stI
  rw [if_neg (by omega)]
theorem stI_out {x y : Nat} (h : y < m ∨ n ≤ y) : stI C k m n g x y = C x y := by
  unfold stI
  rw [if_neg (by omega)]
theorem stI_in {y : Nat} (h : m ≤ y ∧ y < n) : stI C k m n g k y = g y := by
  unfold stI
  rw [if_pos ⟨rfl, h⟩]
theorem stP_k {x y : Nat} (h : x ≠ 61 + i) : stP C i g x y = C x y := stI_k h
theorem stP_in {y : Nat} (h : y < pl i) : stP C i g (61 + i) y = g y := stI_in ⟨Nat.zero_le _, h⟩
theorem rw_at {z : Int} (h : 0 ≤ z ∧ z < (pl i : Nat)) : f_X4_at i z C = some (C, C (61 + i) z.toNat) := by
  have h2 := pl_ge i
  unfold f_X4_at
  rw [fLt (by omega), tLt (by omega), ix_t (by omega)]
theorem rw_at_out {z : Int} (h : (pl i : Nat) ≤ z ∧ z < 2147483648) : f_X4_at i z C = some (C, 0) := by
  have h2 := pl_ge i
  unfold f_X4_at
  rw [fLt (by omega), fLt (by omega)]
theorem sp_set {z v : Int} (h : 0 ≤ z ∧ z < (pl i : Nat)) : f_X4_set i z v C = some (up C (61 + i) z.toNat v, 0) := by
  have h2 := pl_ge i
  unfold f_X4_set
  rw [fLt (by omega), tLt (by omega), ix_t (by omega)]
theorem sp_setLink {v : Int} : f_X4_setLink i v C = some (up C (61 + i) 2 v, 0) := by
  have h2 := pl_ge i
  unfold f_X4_setLink
  rw [ix_t (by omega)]
theorem lp_fill {v : Int} {K : Int → Mem → Option (Mem × Int)} : ∀ (m n : Nat) (z : Int), z = ((pl i - m : Nat) : Int) → m ≤ pl i → m < n → f_J7_fill_53178_5 i v ((pl i : Nat) : Int) K n z (stI C (61 + i) 0 (pl i - m) (fun _ => v)) = K ((pl i : Nat) : Int) (stP C i (fun _ => v))
  | _, 0 => by intros; omega
  | 0, n + 1 => by
    intro z hz _ _
    have h2 := pl_ge i
    unfold f_J7_fill_53178_5
    rw [fLt (by omega), hz]
    rfl
  | m + 1, n + 1 => by
    intro z hz hm hn
    have h2 := pl_ge i
    have q := lp_fill (v := v) (K := K) m n (z + 1) (by omega) (by omega) (by omega)
    unfold f_J7_fill_53178_5
    rw [tLt (by omega), ix_t (by omega), nat2 hz, stI_up (by omega) rfl, show pl i - (m + 1) + 1 = pl i - m by omega]
    exact q
theorem sp_fill {v : Int} : f_J7_fill_53178 i v C = some (stP C i (fun _ => v), 0) := by
  have h2 := pl_ge i
  have hf := FU_eq
  unfold f_J7_fill_53178
  have q := lp_fill (C := C) (i := i) (v := v) (K := fun (v2_e5 : Int) (C_e5 : Mem) => (some (C_e5, 0))) (pl i) FU 0 (by omega) (by omega) (by omega)
  rw [show pl i - pl i = 0 by omega, stI_nil] at q
  exact q
theorem sp_release : f_X4_release i C = some (stP C i (enc 0 0 []), 0) := by
  unfold f_X4_release
  rw [sp_fill, bd_some]
  congr 2
  congr 1
  funext j
  unfold enc
  simp [flat]
theorem sp_begin : f_X4_begin i s l C = some (stP C i (enc s l []), 0) := by
  have h2 := pl_ge i
  unfold f_X4_begin
  rw [sp_fill, bd_some, ix_t (by omega), ix_t (by omega)]
  congr 2
  funext x y
  unfold stP
  rw [up_ap, up_ap, stI_ap, stI_ap]
  unfold enc
  by_cases h1 : x = 61 + i
  · by_cases hy2 : y = 2
    · rw [if_pos ⟨h1, hy2⟩, if_pos (by omega), if_neg (by omega), if_neg (by omega), if_pos hy2]
    · rw [if_neg (by omega)]
      by_cases hy0 : y = 0
      · rw [if_pos ⟨h1, hy0⟩, if_pos (by omega), if_pos hy0]
      · rw [if_neg (by omega)]
        by_cases hy : y < pl i
        · rw [if_pos (by omega), if_pos (by omega), if_neg hy0, if_neg hy2]
          simp [flat]
        · rw [if_neg (by omega), if_neg (by omega)]
  · rw [if_neg (by omega), if_neg (by omega), if_neg (by omega), if_neg (by omega)]
/-- copying a page -/
theorem lp_copy {K : Int → Mem → Option (Mem × Int)} {j : Nat} (hij : i ≠ j) (h : PgC C j s l es) : ∀ (m n : Nat) (z : Int), z = ((pl i - m : Nat) : Int) → m ≤ pl i → m < n → f_X4_copyFrom_2 i j K n z (stI C (61 + i) 0 (pl i - m) (enc s l es)) = K ((pl i : Nat) : Int) (stP C i (enc s l es))
  | _, 0 => by intros; omega
  | 0, n + 1 => by
    intro z hz _ _
    have h2 := pl_ge i
    unfold f_X4_copyFrom_2
    rw [fLt (by omega), hz]
    rfl
  | m + 1, n + 1 => by
    intro z hz hm hn
    have h2 := pl_ge i
    have h3 : PgC (stI C (61 + i) 0 (pl i - (m + 1)) (enc s l es)) j s l es := ⟨fun y hy => by rw [stI_k (by omega)]; exact h.1 y hy, h.2⟩
    have q := lp_copy (K := K) hij h m n (z + 1) (by omega) (by omega) (by omega)
    unfold f_X4_copyFrom_2
    rw [tLt (by omega), sp_at h3 (by omega) (by omega), bd_some, ix_t (by omega), nat2 hz, stI_up (by omega) rfl, show pl i - (m + 1) + 1 = pl i - m by omega]
    exact q
theorem sp_copy {j : Nat} (hij : i ≠ j) (h : PgC C j s l es) : f_X4_copyFrom i j C = some (stP C i (enc s l es), 0) := by
  have h2 := pl_ge i
  have hf := FU_eq
  unfold f_X4_copyFrom
  have q := lp_copy (K := fun (v2_e2 : Int) (C_e2 : Mem) => (some (C_e2, 0))) hij h (pl i) FU 0 (by omega) (by omega) (by omega)
  rw [show pl i - pl i = 0 by omega, stI_nil] at q
  exact q
theorem PgC_st (h1 : EsOk es) (h2 : 3 + szs es ≤ pl i) (h3 : 0 ≤ s ∧ s ≤ 255) (h4 : 0 ≤ l ∧ l ≤ 255) : PgC (stP C i (enc s l es)) i s l es := ⟨fun y hy => stP_in hy, h1, h2, h3, h4⟩
theorem PgC_k {j : Nat} (hij : j ≠ i) (h : PgC C j s l es) : PgC (stP C i g) j s l es := ⟨fun y hy => by rw [stP_k (by omega)]; exact h.1 y hy, h.2⟩
theorem PgC_up {j x y : Nat} {z : Int} (hij : x ≠ 61 + j) (h : PgC C j s l es) : PgC (up C x y z) j s l es := ⟨fun v hv => by rw [up_k (by omega)]; exact h.1 v hv, h.2⟩
theorem KC_st (h : KyC C k w) (hk : k < 5) : KyC (stP C i g) k w := ⟨by rw [stP_k (by omega)]; exact h.1, fun j hj => by rw [stP_k (by omega)]; exact h.2.1 j hj, h.2.2⟩
/-- bytes of a changed page -/
theorem enc_lo {j : Nat} (h : j < 3 + szs a) (h1 : j ≠ 1) : enc s l (a ++ b) j = enc s l a j := by
  unfold enc
  by_cases h0 : j = 0
  · rw [if_pos h0, if_pos h0]
  · rw [if_neg h0, if_neg h0, if_neg h1, if_neg h1]
    by_cases h2 : j = 2
    · rw [if_pos h2, if_pos h2]
    · rw [if_neg h2, if_neg h2, flat_app, gd_l (by rw [flat_len]; omega)]
theorem enc_hi {j : Nat} (h : 3 + szs a ≤ j) : enc s l (a ++ b) j = (flat b).getD (j - 3 - szs a) 0 := by
  rw [enc_g (by omega), flat_app, gd_r (by rw [flat_len]; omega), flat_len]
/-- an entry comes in -/
theorem lp_ins1 {K : Int → Mem → Option (Mem × Int)} {v3 : Int} {st mo : Nat} : ∀ (m n : Nat) (z : Int), z = ((st + m : Nat) : Int) - 1 → m < n → ∀ en : Nat, st + m ≤ en → en + mo ≤ pl i → f_X4_insert_27 i k v3 (st : Int) (mo : Int) K n z (stI C (61 + i) (st + m + mo) (en + mo) (fun j => C (61 + i) (j - mo))) = K ((st : Int) - 1) (stI C (61 + i) (st + mo) (en + mo) (fun j => C (61 + i) (j - mo)))
  | _, 0 => by intros; omega
  | 0, n + 1 => by
    intro z hz _ en h1 h3
    have h2 := pl_ge i
    unfold f_X4_insert_27
    rw [tLt (by omega), hz]
    rfl
  | m + 1, n + 1 => by
    intro z hz hn en h1 h3
    have h2 := pl_ge i
    have q := lp_ins1 (K := K) (v3 := v3) (st := st) (mo := mo) m n (z + -1) (by omega) (by omega) en (by omega) h3
    have hz2 : z = ((st + m : Nat) : Int) := by omega
    unfold f_X4_insert_27
    by_cases hmo : mo = 0
    · subst hmo
      rw [fLt (by omega), rw_at (by omega), bd_some, sp_set (by omega), bd_some]
      have e1 : ∀ p : Nat, stI C (61 + i) p (en + 0) (fun j => C (61 + i) (j - 0)) = C := by
        intro p
        funext x y
        unfold stI
        split
        · rename_i hh; rw [hh.1]; rfl
        · rfl
      rw [e1] at q ⊢
      have e2 : up C (61 + i) (z + ((0 : Nat) : Int)).toNat (C (61 + i) z.toNat) = C := by
        funext x y
        unfold up
        split
        · rename_i hh; rw [hh.1, hh.2, show z + ((0 : Nat) : Int) = z by omega]
        · rfl
      rw [e2, q, e1]
    · rw [fLt (by omega), rw_at (by omega), bd_some, sp_set (by omega), bd_some, nat2 hz2, stI_out (by omega), show (z + (mo : Int)).toNat = st + m + mo by omega, show st + (m + 1) + mo = (st + m + mo) + 1 by omega, stI_dn (by omega) (by rw [show st + m + mo - mo = st + m by omega])]
      exact q
theorem lp_ins2 {K : Int → Mem → Option (Mem × Int)} {v3 v5 : Int} {st : Nat} (hk : KyC C k w) (hk5 : k < 5) (hf : st + 1 + w.length ≤ pl i) : ∀ (m n : Nat) (z : Int), z = ((w.length - m : Nat) : Int) → m ≤ w.length → m < n → f_X4_insert_68 i k v3 (st : Int) v5 K n z (stI C (61 + i) (st + 1) (st + 1 + (w.length - m)) (fun j => w.getD (j - (st + 1)) 0)) = K (w.length : Int) (stI C (61 + i) (st + 1) (st + 1 + w.length) (fun j => w.getD (j - (st + 1)) 0))
  | _, 0 => by intros; omega
  | 0, n + 1 => by
    intro z hz _ _
    have h2 := pl_ge i
    unfold f_X4_insert_68
    rw [stI_k (by omega), hk.1, fLt (by omega), hz]
    rfl
  | m + 1, n + 1 => by
    intro z hz hm hn
    have h2 := pl_ge i
    have hl := hk.2.2.1
    have q := lp_ins2 (K := K) (v3 := v3) (v5 := v5) (st := st) hk hk5 hf m n (z + 1) (by omega) (by omega) (by omega)
    have hk2 : KyC (stI C (61 + i) (st + 1) (st + 1 + (w.length - (m + 1))) (fun j => w.getD (j - (st + 1)) 0)) k w := ⟨by rw [stI_k (by omega)]; exact hk.1, fun j hj => by rw [stI_k (by omega)]; exact hk.2.1 j hj, hk.2.2⟩
    unfold f_X4_insert_68
    rw [hk2.1, tLt (by omega), sp_kat hk2 (by omega) (by omega), bd_some, sp_set (by omega), bd_some, show ((st : Int) + 1 + z).toNat = st + 1 + (w.length - (m + 1)) by omega, stI_up (by omega) (by rw [nat2 hz, show st + 1 + (w.length - (m + 1)) - (st + 1) = w.length - (m + 1) by omega]), show st + 1 + (w.length - (m + 1)) + 1 = st + 1 + (w.length - m) by omega]
    exact q
theorem sp_insert (h : PgC C i s l (a ++ b)) (hk : KyC C k w) (hk5 : k < 5) {z t : Int} (hz : z = (a.length : Int)) (hf : 3 + szs (a ++ (w, t) :: b) ≤ pl i) : f_X4_insert i z k t C = some (stP C i (enc s l (a ++ (w, t) :: b)), 0) := by
  have h2 := pl_ge i
  have hfu := FU_eq
  have h6 := PgC_len h
  have hl := hk.2.2.1
  have hfit := hf
  rw [szs_app, szs_cons] at hf
  have hf' : 3 + (szs a + (w.length + 2 + szs b)) ≤ pl i := hf
  have hsz : szs (a ++ b) = szs a + szs b := szs_app a b
  unfold f_X4_insert
  rw [sp_offset h hz, bd_some, sp_entries h, bd_some, sp_offset_all h rfl, bd_some, hk.1]
  have q1 := lp_ins1 (C := C) (i := i) (k := k) (v3 := t) (st := 3 + szs a) (mo := w.length + 2) (K := (fun (v6_e27 : Int) (C_e27 : Mem) => (bd (f_X4_set i ((3 + szs a : Nat) : Int) (C_e27 (10 + 2 * k) 1) C_e27) (fun C62 _ => (f_X4_insert_68 i k (t) ((3 + szs a : Nat) : Int) (((w.length : Nat) : Int) + 2) (fun (v6_e68 : Int) (C_e68 : Mem) => (bd (f_X4_set i ((((3 + szs a : Nat) : Int) + (((w.length : Nat) : Int) + 2)) - 1) (t) C_e68) (fun C109 _ => (ix (1) (pl i) (ix (1) (pl i) (some ((up C109 (61 + i) 1 ((C109 (61 + i) 1) + 1)), 0))))))) FU (0) C62))))) (szs b) FU ((3 + szs (a ++ b) : Nat) - 1) (by omega) (by omega) (3 + szs (a ++ b)) (by omega) (by omega)
  rw [show 3 + szs a + szs b + (w.length + 2) = 3 + szs (a ++ b) + (w.length + 2) by omega, stI_nil] at q1
  rw [show (((w.length + 2 : Nat)) : Int) = ((w.length : Nat) : Int) + 2 by omega] at q1
  rw [q1]
  show bd (f_X4_set i _ _ _) _ = _
  rw [stI_k (by omega), hk.1, sp_set (by omega), bd_some, nat2 rfl]
  have hk2 : KyC (up (stI C (61 + i) (3 + szs a + (w.length + 2)) (3 + szs (a ++ b) + (w.length + 2)) (fun j => C (61 + i) (j - (w.length + 2)))) (61 + i) (3 + szs a) (w.length : Int)) k w := ⟨by rw [up_k (by omega), stI_k (by omega)]; exact hk.1, fun j hj => by rw [up_k (by omega), stI_k (by omega)]; exact hk.2.1 j hj, hk.2.2⟩
  have q2 := lp_ins2 (i := i) (v3 := t) (v5 := (((w.length : Nat) : Int) + 2)) (st := 3 + szs a) (K := fun (v6_e68 : Int) (C_e68 : Mem) => (bd (f_X4_set i ((((3 + szs a : Nat) : Int) + (((w.length : Nat) : Int) + 2)) - 1) (t) C_e68) (fun C109 _ => (ix (1) (pl i) (ix (1) (pl i) (some ((up C109 (61 + i) 1 ((C109 (61 + i) 1) + 1)), 0))))))) hk2 hk5 (by omega) w.length FU 0 (by omega) (by omega) (by omega)
  rw [show 3 + szs a + 1 + (w.length - w.length) = 3 + szs a + 1 by omega, stI_nil] at q2
  rw [q2]
  show bd (f_X4_set i _ _ _) _ = _
  rw [sp_set (by omega), bd_some, ix_t (by omega), ix_t (by omega)]
  congr 2
  funext x y
  by_cases hx : x = 61 + i
  · subst hx
    by_cases hy : y < pl i
    · rw [stP_in hy]
      by_cases hy1 : y = 1
      · subst hy1
        rw [up_same, up_j (by omega), stI_out (by omega), up_j (by omega), stI_out (by omega), h.1 1 (by omega), enc_1, enc_1]
        simp
        omega
      · rw [up_j hy1]
        by_cases hlo : y < 3 + szs a
        · rw [up_j (by omega), stI_out (by omega), up_j (by omega), stI_out (by omega), h.1 y hy, enc_lo hlo hy1, enc_lo hlo hy1]
        · rw [enc_hi (by omega), flat_cons]
          by_cases hy2 : y = 3 + szs a
          · rw [up_j (by omega), stI_out (by omega), hy2, up_same, show 3 + szs a - 3 - szs a = 0 by omega]
            rfl
          · by_cases hy3 : y < 3 + szs a + 1 + w.length
            · rw [up_j (by omega), stI_in (by omega), gd_l (by rw [e1_len]; show _ < w.length + 2; omega), show y - 3 - szs a = 1 + (y - (3 + szs a + 1)) by omega, e1_l _ (by show _ < w.length; omega)]
            · by_cases hy4 : y = 3 + szs a + 1 + w.length
              · rw [show (((3 + szs a : Nat) : Int) + (((w.length : Nat) : Int) + 2) - 1).toNat = y by omega, up_same, gd_l (by rw [e1_len]; show _ < w.length + 2; omega), show y - 3 - szs a = 1 + (w, t).1.length by show _ = 1 + w.length; omega, e1_t]
              · rw [up_j (by omega), stI_out (by omega), up_j (by omega), gd_r (by rw [e1_len]; show w.length + 2 ≤ _; omega), e1_len]
                show _ = (flat b).getD (y - 3 - szs a - (w.length + 2)) 0
                by_cases hy5 : y < 3 + szs (a ++ b) + (w.length + 2)
                · rw [stI_in (by omega), h.1 _ (by omega), enc_hi (by omega)]
                  congr 1
                  omega
                · rw [stI_out (by omega), h.1 _ (by omega), enc_out (by omega), gd_out (by rw [flat_len]; omega)]
    · rw [up_j (by omega), up_j (by omega), stI_out (by omega), up_j (by omega), stI_out (by omega)]
      unfold stP
      rw [stI_out (by omega)]
  · rw [up_k hx, up_k hx, stI_k hx, up_k hx, stI_k hx, stP_k hx]
end WR

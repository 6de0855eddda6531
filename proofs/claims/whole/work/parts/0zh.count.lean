/-! CALLS: count, keep, back, letter, value. -/
section CT
variable {C C' X X' : Mem} {P P' : Nat → Pg} {c1 c2 c3 a b c z : Int} {n k root L : Nat} {w : List Int} {V : Nat → List Ent} {lvl : Nat → Nat} {g f f' : Nat → Int} {es : List Ent}
def us (P : Nat → Pg) (i : Nat) : Int := if (P i).1 = 0 then 0 else ((3 + szs (P i).2.2 : Nat) : Int)
theorem both_us (ho : TOk P) (hC : TC C P) (hX : TX X P) {i : Nat} (hi : i < 32) {p : Int} (hp : p = (i : Int)) : f_X4_used i C = some (C, us P i) ∧ f_X8_usedOf p X = some (X, us P i) := by
  have hpC := TC_pg ho hC hi
  have hpX := TX_pg ho hX hi
  unfold us
  by_cases h0 : (P i).1 = 0
  · rw [if_pos h0]
    rw [h0] at hpC hpX
    exact ⟨sp_used0 hpC, mx_used0 hpX hp⟩
  · rw [if_neg h0]
    exact ⟨sp_used hpC h0, mx_used hpX hp h0⟩
theorem both_all {K K' : Int → Int → Mem → Option (Mem × Int)} (ho : TOk P) (hC : TC C P) (hX : TX X P) : ∀ (m n n' : Nat) (v1 v2 : Int), m ≤ 32 → v1 = sm (us P) (32 - m) → v2 = ((32 - m : Nat) : Int) → m < n → m < n' → f_X6_usedOfAll_4 K n v1 v2 C = K (sm (us P) 32) 32 C ∧ f_X8_usedAll_4 K' n' v1 v2 X = K' (sm (us P) 32) 32 X
  | _, 0, _ => by intros; omega
  | _, _, 0 => by intros; omega
  | 0, n + 1, n' + 1 => by
    intro v1 v2 _ h1 h2 _ _
    unfold f_X6_usedOfAll_4 f_X8_usedAll_4
    rw [fLt (by omega), fLt (by omega), h1, h2]
    exact ⟨rfl, rfl⟩
  | m + 1, n + 1, n' + 1 => by
    intro v1 v2 hm h1 h2 hn hn'
    obtain ⟨u1, u2⟩ := both_us ho hC hX (show 32 - (m + 1) < 32 by omega) h2
    have ih := both_all (K := K) (K' := K') ho hC hX m n n' (v1 + us P (32 - (m + 1))) (v2 + 1) (by omega) (by rw [show 32 - m = (32 - (m + 1)) + 1 by omega, h1]; rfl) (by omega) (by omega) (by omega)
    unfold f_X6_usedOfAll_4 f_X8_usedAll_4
    rw [tLt (by omega), tLt (by omega), sp_pageOf h2 (by omega), bd_some, u1, bd_some, u2, bd_some]
    exact ih
def lt (P : Nat → Pg) (i : Nat) : Int := if (P i).1 = 2 then us P i - 3 - 2 * ((P i).2.2.length : Int) else 0
theorem both_sep {K K' : Int → Int → Mem → Option (Mem × Int)} (ho : TOk P) (hC : TC C P) (hX : TX X P) : ∀ (m n n' : Nat) (v1 v2 : Int), m ≤ 32 → v1 = sm (lt P) (32 - m) → v2 = ((32 - m : Nat) : Int) → m < n → m < n' → f_X6_separatorLetters_4 K n v1 v2 C = K (sm (lt P) 32) 32 C ∧ f_X8_separators_4 K' n' v1 v2 X = K' (sm (lt P) 32) 32 X
  | _, 0, _ => by intros; omega
  | _, _, 0 => by intros; omega
  | 0, n + 1, n' + 1 => by
    intro v1 v2 _ h1 h2 _ _
    unfold f_X6_separatorLetters_4 f_X8_separators_4
    rw [fLt (by omega), fLt (by omega), h1, h2]
    exact ⟨rfl, rfl⟩
  | m + 1, n + 1, n' + 1 => by
    intro v1 v2 hm h1 h2 hn hn'
    obtain ⟨u1, u2⟩ := both_us ho hC hX (show 32 - (m + 1) < 32 by omega) h2
    have hpC := TC_pg ho hC (show 32 - (m + 1) < 32 by omega)
    have hpX := TX_pg ho hX (show 32 - (m + 1) < 32 by omega)
    have hsr := (ho (32 - (m + 1)) (by omega)).2.2.1
    have ih := fun (v : Int) (hv : v = v1 + lt P (32 - (m + 1))) => both_sep (K := K) (K' := K') ho hC hX m n n' v (v2 + 1) (by omega) (by rw [show 32 - m = (32 - (m + 1)) + 1 by omega, hv, h1]; rfl) (by omega) (by omega) (by omega)
    unfold f_X6_separatorLetters_4 f_X8_separators_4
    rw [tLt (by omega), tLt (by omega), sp_pageOf h2 (by omega), bd_some, sp_sort hpC, bd_some, mx_0 hpX h2, bd_some]
    unfold lt at ih
    by_cases h : (P (32 - (m + 1))).1 = 2
    · rw [tEq (by omega), tEq (by omega), u1, bd_some, sp_entries hpC, bd_some, u2, bd_some, mx_1 hpX h2, bd_some]
      exact ih _ (by rw [if_pos h])
    · rw [fEq (by omega), fEq (by omega)]
      have h3 := ih v1 (by rw [if_neg h]; omega)
      have h4 := ih (v1 + 0) (by rw [if_neg h])
      exact ⟨h3.1, h4.2⟩
theorem lm_sorted {K : Int → Int → Mem → Option (Mem × Int)} (ho : TOk P) (hT : TX X P) : ∀ (m n : Nat) (v2 v3 : Int), m ≤ 32 → v2 = ((nS P 1 (32 - m) : Nat) : Int) → v3 = ((32 - m : Nat) : Int) → m < n → f_X8_sorted_4 1 K n v2 v3 X = K ((nS P 1 32 : Nat) : Int) 32 X
  | _, 0 => by intros; omega
  | 0, n + 1 => by
    intro v2 v3 _ h2 h3 _
    unfold f_X8_sorted_4
    rw [fLt (by omega), h2, h3]
    rfl
  | m + 1, n + 1 => by
    intro v2 v3 hm h2 h3 hn
    have hp := mx_0 (p := v3) (TX_pg ho hT (show 32 - (m + 1) < 32 by omega)) h3
    have hsr := (ho (32 - (m + 1)) (by omega)).2.2.1
    have hst : nS P 1 (32 - m) = nS P 1 (32 - (m + 1)) + (if (P (32 - (m + 1))).1 = 1 then 1 else 0) := by
      rw [show 32 - m = (32 - (m + 1)) + 1 by omega]; rfl
    unfold f_X8_sorted_4
    rw [tLt (by omega), hp, bd_some]
    by_cases h : (P (32 - (m + 1))).1 = 1
    · rw [if_pos h] at hst
      rw [tEq (by omega)]
      exact lm_sorted ho hT m n _ _ (by omega) (by omega) (by omega) (by omega)
    · rw [if_neg h] at hst
      rw [fEq (by omega)]
      exact lm_sorted ho hT m n _ _ (by omega) (by omega) (by omega) (by omega)
theorem ag_count (h : Inv C X) (ha : R32 a) : Agree Inv (f_X7_count a C) (f_X8_count a X) := by
  have hfu := FU_eq
  have ha' := ha
  simp only [R32] at ha'
  obtain ⟨P, root, L, d1, d2, d3, r1, r2, V, lvl, hg⟩ := h.1
  have ho := hg.1.1
  unfold f_X7_count f_X8_count
  rw [mx_within ha (by simp only [R32]; omega) (by simp only [R32]; omega), bd_some, cEq_b]
  by_cases hin : 0 ≤ a ∧ a ≤ 7
  · rw [if_pos hin]
    by_cases h0 : a = 0
    · subst h0
      rw [tEq (by omega), tEq (by omega), sp_keys hg r1.1, mx_keys hg r1 r2, bd_some, bd_some]
      exact ⟨C, X, _, rfl, rfl, h⟩
    rw [fEq (a := a) (b := 0) (by omega), fEq (a := a) (b := 0) (by omega)]
    by_cases h1 : a = 1
    · subst h1
      rw [tEq (by omega), tEq (by omega), r1.2.2.1, r2.2.2.1]
      exact ⟨C, X, _, rfl, rfl, h⟩
    rw [fEq (a := a) (b := 1) (by omega), fEq (a := a) (b := 1) (by omega)]
    by_cases h2 : a = 2
    · subst h2
      rw [tEq (by omega), tEq (by omega), r1.2.1, r2.2.1]
      exact ⟨C, X, _, rfl, rfl, h⟩
    rw [fEq (a := a) (b := 2) (by omega), fEq (a := a) (b := 2) (by omega)]
    by_cases h3 : a = 3
    · subst h3
      rw [tEq (by omega), tEq (by omega), sp_pos ho r1.1 (by omega), mx_free ho r2.1, bd_some, bd_some]
      exact ⟨C, X, _, rfl, rfl, h⟩
    rw [fEq (a := a) (b := 3) (by omega), fEq (a := a) (b := 3) (by omega)]
    by_cases h4 : a = 4
    · subst h4
      have q := both_all (K := (fun (v1_e4 : Int) (v2_e4 : Int) (C_e4 : Mem) => (some (C_e4, v1_e4)))) (K' := (fun (v1_e4 : Int) (v2_e4 : Int) (C_e4 : Mem) => (some (C_e4, v1_e4)))) ho r1.1 r2.1 32 FU FU 0 0 (by omega) rfl rfl (by omega) (by omega)
      unfold f_X6_usedOfAll f_X8_usedAll
      rw [tEq (by omega), tEq (by omega), q.1, q.2, bd_some, bd_some]
      exact ⟨C, X, _, rfl, rfl, h⟩
    rw [fEq (a := a) (b := 4) (by omega), fEq (a := a) (b := 4) (by omega)]
    by_cases h5 : a = 5
    · subst h5
      unfold f_X8_sorted
      rw [tEq (by omega), tEq (by omega), sp_pos ho r1.1 (by omega), bd_some, lm_sorted ho r2.1 32 FU 0 0 (by omega) rfl rfl (by omega), bd_some]
      exact ⟨C, X, _, rfl, rfl, h⟩
    rw [fEq (a := a) (b := 5) (by omega), fEq (a := a) (b := 5) (by omega)]
    by_cases h6 : a = 6
    · subst h6
      obtain ⟨q, q1, q2, q3, q4⟩ := both_first hg r1 r2
      rw [tEq (by omega), tEq (by omega), q3, q4, bd_some, bd_some]
      exact ⟨C, X, _, rfl, rfl, h⟩
    rw [fEq (a := a) (b := 6) (by omega), fEq (a := a) (b := 6) (by omega)]
    have h7 : a = 7 := by omega
    subst h7
    have q := both_sep (K := (fun (v1_e4 : Int) (v2_e4 : Int) (C_e4 : Mem) => (some (C_e4, v1_e4)))) (K' := (fun (v1_e4 : Int) (v2_e4 : Int) (C_e4 : Mem) => (some (C_e4, v1_e4)))) ho r1.1 r2.1 32 FU FU 0 0 (by omega) rfl rfl (by omega) (by omega)
    unfold f_X6_separatorLetters f_X8_separators
    rw [tEq (by omega), q.1, q.2, bd_some, bd_some]
    exact ⟨C, X, _, rfl, rfl, h⟩
  · rw [if_neg hin, fEq (by omega), fEq (by omega), fEq (by omega), fEq (by omega), fEq (by omega), fEq (by omega), fEq (by omega), fEq (by omega)]
    exact ⟨C, X, -1, rfl, rfl, h⟩
/-! images -/
theorem lp_keep {K : Int → Mem → Option (Mem × Int)} (hk : k < 2) (ho : TOk P) (hT : TC C P) : ∀ (m n : Nat) (v2 : Int), m ≤ 2048 → v2 = ((2048 - m : Nat) : Int) → m < n → f_X2_copyFrom_2 k K n v2 (stI C (8 + k) 0 (2048 - m) (fb P)) = K 2048 (stI C (8 + k) 0 2048 (fb P))
  | _, 0 => by intros; omega
  | 0, n + 1 => by
    intro v2 _ h2 _
    unfold f_X2_copyFrom_2
    rw [fLt (by omega), h2]
    rfl
  | m + 1, n + 1 => by
    intro v2 hm h2 hn
    have hT2 : TC (stI C (8 + k) 0 (2048 - (m + 1)) (fb P)) P := TC_fr hT (fun x y hx => stI_k (by omega))
    have hp := TC_pg ho hT2 (show (2048 - (m + 1)) / 64 < 32 by omega)
    have ih := lp_keep (K := K) hk ho hT m n (v2 + 1) (by omega) (by omega) (by omega)
    unfold f_X2_copyFrom_2
    rw [tLt (by omega), dv_t (by omega), sp_pageOf (i := (2048 - (m + 1)) / 64) (by omega) (by omega), bd_some, dv_t (by omega), sp_at hp (by omega) (by omega), bd_some, ix_t (by omega), nat2 h2, stI_up (by omega) (by unfold fb eP; rw [show (v2 % 64).toNat = (2048 - (m + 1)) % 64 by omega]), show 2048 - (m + 1) + 1 = 2048 - m by omega]
    exact ih
theorem lm_keep {K : Int → Mem → Option (Mem × Int)} (hk : k < 2) {u : Int} (hu : u = (k : Int)) (hT : TX X P) : ∀ (m n : Nat) (v2 : Int), m ≤ 2048 → v2 = ((2048 - m : Nat) : Int) → m < n → f_X8_keep_13 u K n v2 (stI X 110 (2048 * k) (2048 * k + (2048 - m)) (fun j => fb P (j - 2048 * k))) = K 2048 (stI X 110 (2048 * k) (2048 * k + 2048) (fun j => fb P (j - 2048 * k)))
  | _, 0 => by intros; omega
  | 0, n + 1 => by
    intro v2 _ h2 _
    unfold f_X8_keep_13
    rw [fLt (by omega), h2]
    rfl
  | m + 1, n + 1 => by
    intro v2 hm h2 hn
    have hb : X 96 (2048 - (m + 1)) = fb P (2048 - (m + 1)) := by
      have := hT ((2048 - (m + 1)) / 64) (by omega) ((2048 - (m + 1)) % 64) (by omega)
      rw [show 64 * ((2048 - (m + 1)) / 64) + (2048 - (m + 1)) % 64 = 2048 - (m + 1) by omega] at this
      exact this
    have ih := lm_keep (K := K) hk hu hT m n (v2 + 1) (by omega) (by omega) (by omega)
    unfold f_X8_keep_13
    rw [tLt (by omega), ix_t (by omega), ix_t (by omega), nat2 h2, stI_k (by omega), hb, show (2048 * u + v2).toNat = 2048 * k + (2048 - (m + 1)) by omega, stI_up (by omega) (by rw [show 2048 * k + (2048 - (m + 1)) - 2048 * k = 2048 - (m + 1) by omega]), show 2048 * k + (2048 - (m + 1)) + 1 = 2048 * k + (2048 - m) by omega]
    exact ih
theorem fb_at {i j : Nat} (hj : j < 64) : fb P (64 * i + j) = eP (P i) j := by
  unfold fb
  rw [show (64 * i + j) / 64 = i by omega, show (64 * i + j) % 64 = j by omega]
theorem ag_keep (h : Inv C X) (ha : R32 a) : Agree Inv (f_X7_keep a C) (f_X8_keep a X) := by
  have hfu := FU_eq
  have ha' := ha
  simp only [R32] at ha'
  obtain ⟨P, root, L, d1, d2, d3, r1, r2, V, lvl, hg⟩ := h.1
  have ho := hg.1.1
  unfold f_X7_keep f_X8_keep
  rw [mx_within ha (by simp only [R32]; omega) (by simp only [R32]; omega), bd_some, cEq_b]
  by_cases hin : 0 ≤ a ∧ a ≤ 1
  · obtain ⟨k, hk2, hk⟩ : ∃ k : Nat, k < 2 ∧ a = (k : Int) := ⟨a.toNat, by omega, by omega⟩
    rw [if_pos hin, fLt (by omega), tLt (by omega), ix_t (by omega), nat2 hk]
    have q1 := lp_keep (K := (fun (v2_e2 : Int) (C_e2 : Mem) => (some ((up (up (up C_e2 (6 + k) 1 (C_e2 1 4)) (6 + k) 2 ((up C_e2 (6 + k) 1 (C_e2 1 4)) 1 5)) (6 + k) 3 (1)), 0)))) hk2 ho r1.1 2048 FU 0 (by omega) rfl (by omega)
    rw [Nat.sub_self, stI_nil] at q1
    have q2 := lm_keep (K := (fun (v2_e13 : Int) (C_e13 : Mem) => (ix (a) 2 (ix (a) 2 (bd (f_X8_keys (up (up C_e13 (111) k (C_e13 95 1)) (112) k ((up C_e13 (111) k (C_e13 95 1)) 95 2))) (fun C65 r65 => (some (C65, r65)))))))) hk2 hk r2.1 2048 FU 0 (by omega) rfl (by omega)
    rw [Nat.sub_self, Nat.add_zero, stI_nil] at q2
    unfold f_X2_copyFrom
    rw [q1, q2, bd_some, ix_t (by omega), ix_t (by omega)]
    have eC : ∀ x y, x ≠ 6 + k → x ≠ 8 + k → (up (up (up (stI C (8 + k) 0 2048 (fb P)) (6 + k) 1 ((stI C (8 + k) 0 2048 (fb P)) 1 4)) (6 + k) 2 ((up (stI C (8 + k) 0 2048 (fb P)) (6 + k) 1 ((stI C (8 + k) 0 2048 (fb P)) 1 4)) 1 5)) (6 + k) 3 1) x y = C x y := fun x y h1 h2 => by rw [up_k h1, up_k h1, up_k h1, stI_k h2]
    have eX : ∀ x y, x ≠ 110 → x ≠ 111 → x ≠ 112 → (up (up (stI X 110 (2048 * k) (2048 * k + 2048) (fun j => fb P (j - 2048 * k))) 111 k ((stI X 110 (2048 * k) (2048 * k + 2048) (fun j => fb P (j - 2048 * k))) 95 1)) 112 k ((up (stI X 110 (2048 * k) (2048 * k + 2048) (fun j => fb P (j - 2048 * k))) 111 k ((stI X 110 (2048 * k) (2048 * k + 2048) (fun j => fb P (j - 2048 * k))) 95 1)) 95 2)) x y = X x y := fun x y h1 h2 h3 => by rw [up_k h3, up_k h2, stI_k h1]
    have t1 : RC (up (up (up (stI C (8 + k) 0 2048 (fb P)) (6 + k) 1 ((stI C (8 + k) 0 2048 (fb P)) 1 4)) (6 + k) 2 ((up (stI C (8 + k) 0 2048 (fb P)) (6 + k) 1 ((stI C (8 + k) 0 2048 (fb P)) 1 4)) 1 5)) (6 + k) 3 1) P root L d1 d2 d3 := ⟨TC_fr r1.1 (fun x y hx => eC x y (by omega) (by omega)), by rw [eC _ _ (by omega) (by omega)]; exact r1.2.1, by rw [eC _ _ (by omega) (by omega)]; exact r1.2.2.1, by rw [eC _ _ (by omega) (by omega)]; exact r1.2.2.2.1, by rw [eC _ _ (by omega) (by omega)]; exact r1.2.2.2.2.1, by rw [eC _ _ (by omega) (by omega)]; exact r1.2.2.2.2.2⟩
    have t2 : RX (up (up (stI X 110 (2048 * k) (2048 * k + 2048) (fun j => fb P (j - 2048 * k))) 111 k ((stI X 110 (2048 * k) (2048 * k + 2048) (fun j => fb P (j - 2048 * k))) 95 1)) 112 k ((up (stI X 110 (2048 * k) (2048 * k + 2048) (fun j => fb P (j - 2048 * k))) 111 k ((stI X 110 (2048 * k) (2048 * k + 2048) (fun j => fb P (j - 2048 * k))) 95 1)) 95 2)) P root L d1 d2 d3 := ⟨TX_fr r2.1 (fun y => eX _ y (by omega) (by omega) (by omega)), by rw [eX _ _ (by omega) (by omega) (by omega)]; exact r2.2.1, by rw [eX _ _ (by omega) (by omega) (by omega)]; exact r2.2.2.1, by rw [eX _ _ (by omega) (by omega) (by omega)]; exact r2.2.2.2.1, by rw [eX _ _ (by omega) (by omega) (by omega)]; exact r2.2.2.2.2.1, by rw [eX _ _ (by omega) (by omega) (by omega)]; exact r2.2.2.2.2.2⟩
    rw [sp_keys hg t1.1, mx_keys hg t1 t2, bd_some, bd_some]
    have other : ∀ k' : Nat, k' < 2 → k' ≠ k → ImgOk C X k' → ImgOk (up (up (up (stI C (8 + k) 0 2048 (fb P)) (6 + k) 1 ((stI C (8 + k) 0 2048 (fb P)) 1 4)) (6 + k) 2 ((up (stI C (8 + k) 0 2048 (fb P)) (6 + k) 1 ((stI C (8 + k) 0 2048 (fb P)) 1 4)) 1 5)) (6 + k) 3 1) (up (up (stI X 110 (2048 * k) (2048 * k + 2048) (fun j => fb P (j - 2048 * k))) 111 k ((stI X 110 (2048 * k) (2048 * k + 2048) (fun j => fb P (j - 2048 * k))) 95 1)) 112 k ((up (stI X 110 (2048 * k) (2048 * k + 2048) (fun j => fb P (j - 2048 * k))) 111 k ((stI X 110 (2048 * k) (2048 * k + 2048) (fun j => fb P (j - 2048 * k))) 95 1)) 95 2)) k' := by
      intro k' h1 h2 hi
      have x112 : (up (up (stI X 110 (2048 * k) (2048 * k + 2048) (fun j => fb P (j - 2048 * k))) 111 k ((stI X 110 (2048 * k) (2048 * k + 2048) (fun j => fb P (j - 2048 * k))) 95 1)) 112 k ((up (stI X 110 (2048 * k) (2048 * k + 2048) (fun j => fb P (j - 2048 * k))) 111 k ((stI X 110 (2048 * k) (2048 * k + 2048) (fun j => fb P (j - 2048 * k))) 95 1)) 95 2)) 112 k' = X 112 k' := by rw [up_j h2, up_k (by omega), stI_k (by omega)]
      have x111 : (up (up (stI X 110 (2048 * k) (2048 * k + 2048) (fun j => fb P (j - 2048 * k))) 111 k ((stI X 110 (2048 * k) (2048 * k + 2048) (fun j => fb P (j - 2048 * k))) 95 1)) 112 k ((up (stI X 110 (2048 * k) (2048 * k + 2048) (fun j => fb P (j - 2048 * k))) 111 k ((stI X 110 (2048 * k) (2048 * k + 2048) (fun j => fb P (j - 2048 * k))) 95 1)) 95 2)) 111 k' = X 111 k' := by rw [up_k (by omega), up_j h2, stI_k (by omega)]
      rcases hi with ⟨q1, q2⟩ | ⟨q1, P', root', L', g1, g2, g3, g4, g5, g6, g7⟩
      · exact Or.inl ⟨by rw [eC _ _ (by omega) (by omega)]; exact q1, by rw [x112]; exact q2⟩
      · refine Or.inr ⟨by rw [eC _ _ (by omega) (by omega)]; exact q1, P', root', L', g1, by rw [eC _ _ (by omega) (by omega)]; exact g2, by rw [eC _ _ (by omega) (by omega)]; exact g3, by rw [x111]; exact g4, by rw [x112]; exact g5, fun i hi j hj => by rw [eC _ _ (by omega) (by omega)]; exact g6 i hi j hj, fun i hi j hj => ?_⟩
        rw [up_k (by omega), up_k (by omega), stI_out (by omega)]
        exact g7 i hi j hj
    have self : ImgOk (up (up (up (stI C (8 + k) 0 2048 (fb P)) (6 + k) 1 ((stI C (8 + k) 0 2048 (fb P)) 1 4)) (6 + k) 2 ((up (stI C (8 + k) 0 2048 (fb P)) (6 + k) 1 ((stI C (8 + k) 0 2048 (fb P)) 1 4)) 1 5)) (6 + k) 3 1) (up (up (stI X 110 (2048 * k) (2048 * k + 2048) (fun j => fb P (j - 2048 * k))) 111 k ((stI X 110 (2048 * k) (2048 * k + 2048) (fun j => fb P (j - 2048 * k))) 95 1)) 112 k ((up (stI X 110 (2048 * k) (2048 * k + 2048) (fun j => fb P (j - 2048 * k))) 111 k ((stI X 110 (2048 * k) (2048 * k + 2048) (fun j => fb P (j - 2048 * k))) 95 1)) 95 2)) k := by
      refine Or.inr ⟨up_same, P, root, L, ⟨V, lvl, hg⟩, ?_, ?_, ?_, ?_, ?_, ?_⟩
      · rw [up_j (by omega), up_j (by omega), up_same, stI_k (by omega)]; exact r1.2.1
      · rw [up_j (by omega), up_same, up_k (by omega), stI_k (by omega)]; exact r1.2.2.1
      · rw [up_k (by omega), up_same, stI_k (by omega)]; exact r2.2.1
      · rw [up_same, up_k (by omega), stI_k (by omega)]; exact r2.2.2.1
      · intro i hi j hj
        rw [up_k (by omega), up_k (by omega), up_k (by omega), stI_in (by omega), fb_at hj]
      · intro i hi j hj
        rw [up_k (by omega), up_k (by omega), stI_in (by omega), show 2048 * k + (64 * i + j) - 2048 * k = 64 * i + j by omega, fb_at hj]
    refine ⟨_, _, _, rfl, rfl, ⟨P, root, L, d1, d2, d3, t1, t2, V, lvl, hg⟩, ?_, ?_, ?_⟩
    · obtain ⟨n, n1, n2, n3, n4⟩ := h.2.1
      exact ⟨n, n1, by rw [eC _ _ (by omega) (by omega)]; exact n2, by rw [eX _ _ (by omega) (by omega) (by omega)]; exact n3, fun j hj => by rw [eC _ _ (by omega) (by omega), eX _ _ (by omega) (by omega) (by omega)]; exact n4 j hj⟩
    · by_cases h0 : k = 0
      · subst h0; exact self
      · exact other 0 (by omega) (fun q => h0 q.symm) h.2.2.1
    · by_cases h0 : k = 1
      · subst h0; exact self
      · exact other 1 (by omega) (fun q => h0 q.symm) h.2.2.2
  · rw [if_neg hin]
    by_cases h0 : a < 0
    · rw [tLt (by omega)]
      exact ⟨C, X, -1, rfl, rfl, h⟩
    · rw [fLt (by omega), fLt (by omega)]
      exact ⟨C, X, -1, rfl, rfl, h⟩
/-- a tree comes back -/
theorem lp_back {K : Int → Mem → Option (Mem × Int)} (hk : k < 2) (hI : ∀ i, i < 32 → ∀ j, j < 64 → C (8 + k) (64 * i + j) = eP (P i) j) : ∀ (m n : Nat) (v2 : Int) (M : Mem), m ≤ 2048 → v2 = ((2048 - m : Nat) : Int) → m < n → (∀ x y, x < 61 → M x y = C x y) → (∀ q, q < 2048 - m → M (61 + q / 64) (q % 64) = fb P q) → ∃ M', f_X2_copyTo_2 k K n v2 M = K 2048 M' ∧ (∀ x y, x < 61 → M' x y = C x y) ∧ TC M' P
  | _, 0 => by intros; omega
  | 0, n + 1 => by
    intro v2 M _ h2 _ h3 h4
    refine ⟨M, ?_, h3, ?_⟩
    · unfold f_X2_copyTo_2
      rw [fLt (by omega), h2]
      rfl
    · intro i hi j hj
      have := h4 (64 * i + j) (by omega)
      rw [fb_at hj, show (64 * i + j) / 64 = i by omega, show (64 * i + j) % 64 = j by omega] at this
      exact this
  | m + 1, n + 1 => by
    intro v2 M hm h2 hn h3 h4
    have hb : M (8 + k) (2048 - (m + 1)) = fb P (2048 - (m + 1)) := by
      rw [h3 _ _ (by omega)]
      have := hI ((2048 - (m + 1)) / 64) (by omega) ((2048 - (m + 1)) % 64) (by omega)
      rw [show 64 * ((2048 - (m + 1)) / 64) + (2048 - (m + 1)) % 64 = 2048 - (m + 1) by omega] at this
      exact this
    obtain ⟨M', i1, i2, i3⟩ := lp_back (K := K) hk hI m n (v2 + 1) (up M (61 + (2048 - (m + 1)) / 64) ((2048 - (m + 1)) % 64) (fb P (2048 - (m + 1)))) (by omega) (by omega) (by omega) (fun x y hx => by rw [up_k (by omega)]; exact h3 x y hx) (by
      intro q hq
      by_cases hqq : q = 2048 - (m + 1)
      · rw [hqq, up_same]
      · rw [up_ap, if_neg (by omega)]
        exact h4 q (by omega))
    refine ⟨M', ?_, i2, i3⟩
    unfold f_X2_copyTo_2
    rw [tLt (by omega), dv_t (by omega), sp_pageOf (i := (2048 - (m + 1)) / 64) (by omega) (by omega), bd_some, dv_t (by omega), ix_t (by omega), nat2 h2, hb, sp_set (by rw [pl_32 (by omega)]; omega), bd_some, show (v2 % 64).toNat = (2048 - (m + 1)) % 64 by omega]
    exact i1
theorem lm_back {K : Int → Mem → Option (Mem × Int)} (hk : k < 2) {u : Int} (hu : u = (k : Int)) (hI : ∀ i, i < 32 → ∀ j, j < 64 → X 110 (2048 * k + (64 * i + j)) = eP (P i) j) : ∀ (m n : Nat) (v2 : Int), m ≤ 2048 → v2 = ((2048 - m : Nat) : Int) → m < n → f_X8_back_25 u K n v2 (stI X 96 0 (2048 - m) (fb P)) = K 2048 (stI X 96 0 2048 (fb P))
  | _, 0 => by intros; omega
  | 0, n + 1 => by
    intro v2 _ h2 _
    unfold f_X8_back_25
    rw [fLt (by omega), h2]
    rfl
  | m + 1, n + 1 => by
    intro v2 hm h2 hn
    have hb : X 110 (2048 * k + (2048 - (m + 1))) = fb P (2048 - (m + 1)) := by
      have := hI ((2048 - (m + 1)) / 64) (by omega) ((2048 - (m + 1)) % 64) (by omega)
      rw [show 64 * ((2048 - (m + 1)) / 64) + (2048 - (m + 1)) % 64 = 2048 - (m + 1) by omega] at this
      exact this
    have ih := lm_back (K := K) hk hu hI m n (v2 + 1) (by omega) (by omega) (by omega)
    unfold f_X8_back_25
    rw [tLt (by omega), ix_t (by omega), ix_t (by omega), nat2 h2, show (2048 * u + v2).toNat = 2048 * k + (2048 - (m + 1)) by omega, stI_k (by omega), hb, stI_up (by omega) rfl, show 2048 - (m + 1) + 1 = 2048 - m by omega]
    exact ih
theorem ag_back (h : Inv C X) (ha : R32 a) : Agree Inv (f_X7_back a C) (f_X8_back a X) := by
  have hfu := FU_eq
  have ha' := ha
  simp only [R32] at ha'
  unfold f_X7_back f_X8_back
  rw [mx_within ha (by simp only [R32]; omega) (by simp only [R32]; omega), bd_some, cEq_b]
  by_cases hin : 0 ≤ a ∧ a ≤ 1
  · obtain ⟨k, hk2, hk⟩ : ∃ k : Nat, k < 2 ∧ a = (k : Int) := ⟨a.toNat, by omega, by omega⟩
    rw [if_pos hin, fLt (by omega), tLt (by omega), ix_t (by omega), ix_t (by omega), nat2 hk]
    have hI : ImgOk C X k := by
      have : k = 0 ∨ k = 1 := by omega
      rcases this with h1 | h1
      · rw [h1]; exact h.2.2.1
      · rw [h1]; exact h.2.2.2
    rcases hI with ⟨q1, q2⟩ | ⟨q1, P, root, L, ⟨V, lvl, hg⟩, g2, g3, g4, g5, g6, g7⟩
    · rw [q1, q2, tEq (by omega), tEq (by omega), ix_t (by omega)]
      exact ⟨C, X, -2, rfl, rfl, h⟩
    · have hL1 := hg.2.2.2.1
      have hL32 := hg.2.2.2.2.1
      obtain ⟨P0, root0, L0, d1, d2, d3, r1, r2, _⟩ := h.1
      rw [q1, g5, fEq (by omega), fEq (by omega), ix_t (by omega)]
      obtain ⟨M', i1, i2, i3⟩ := lp_back (K := (fun (v2_e2 : Int) (C_e2 : Mem) => (some ((up (up C_e2 1 4 (C_e2 (6 + k) 1)) 1 5 ((up C_e2 1 4 (C_e2 (6 + k) 1)) (6 + k) 2)), 0)))) hk2 g6 2048 FU 0 C (by omega) rfl (by omega) (fun _ _ _ => rfl) (fun q hq => by omega)
      have q2 := lm_back (K := (fun (v2_e25 : Int) (C_e25 : Mem) => (ix (a) 2 (ix (a) 2 (bd (f_X8_keys (up (up C_e25 95 1 (C_e25 (111) k)) 95 2 ((up C_e25 95 1 (C_e25 (111) k)) (112) k))) (fun C77 r77 => (some (C77, r77)))))))) hk2 hk g7 2048 FU 0 (by omega) rfl (by omega)
      rw [Nat.sub_self, stI_nil] at q2
      unfold f_X2_copyTo
      rw [i1, q2, bd_some, ix_t (by omega), ix_t (by omega)]
      have eM : M' (6 + k) 1 = (root : Int) := by rw [i2 _ _ (by omega)]; exact g2
      have eM2 : (up M' 1 4 (M' (6 + k) 1)) (6 + k) 2 = (L : Int) := by rw [up_k (by omega), i2 _ _ (by omega)]; exact g3
      have eX1 : (stI X 96 0 2048 (fb P)) 111 k = (root : Int) := by rw [stI_k (by omega)]; exact g4
      have eX2 : (up (stI X 96 0 2048 (fb P)) 95 1 ((stI X 96 0 2048 (fb P)) 111 k)) 112 k = (L : Int) := by rw [up_k (by omega), stI_k (by omega)]; exact g5
      rw [eM2, eX2, eM, eX1]
      have t1 : RC (up (up M' 1 4 (root : Int)) 1 5 (L : Int)) P root L d1 d2 d3 := ⟨TC_up (TC_up i3 (by omega)) (by omega), by rw [up_j (by omega), up_same], up_same, by rw [up_k (by omega), up_k (by omega), i2 _ _ (by omega)]; exact r1.2.2.2.1, by rw [up_k (by omega), up_k (by omega), i2 _ _ (by omega)]; exact r1.2.2.2.2.1, by rw [up_k (by omega), up_k (by omega), i2 _ _ (by omega)]; exact r1.2.2.2.2.2⟩
      have t2 : RX (up (up (stI X 96 0 2048 (fb P)) 95 1 (root : Int)) 95 2 (L : Int)) P root L d1 d2 d3 := by
        refine ⟨?_, by rw [up_j (by omega), up_same], up_same, ?_, ?_, ?_⟩
        · intro i hi j hj
          rw [up_k (by omega), up_k (by omega), stI_in (by omega), fb_at hj]
        · rw [up_j (by omega), up_j (by omega), stI_k (by omega)]; exact r2.2.2.2.1
        · rw [up_j (by omega), up_j (by omega), stI_k (by omega)]; exact r2.2.2.2.2.1
        · rw [up_j (by omega), up_j (by omega), stI_k (by omega)]; exact r2.2.2.2.2.2
      rw [sp_keys hg t1.1, mx_keys hg t1 t2, bd_some, bd_some]
      refine ⟨_, _, _, rfl, rfl, Inv_kp h ⟨P, root, L, d1, d2, d3, t1, t2, V, lvl, hg⟩ ?_ ?_⟩
      · intro x y h1 h2 h3
        rw [up_k h1, up_k h1, i2 x y (by omega)]
      · intro x y hx
        rw [up_ap, if_neg (by omega), up_ap, if_neg (by omega), stI_k (by omega)]
  · rw [if_neg hin]
    by_cases h0 : a < 0
    · rw [tLt (by omega)]
      exact ⟨C, X, -1, rfl, rfl, h⟩
    · rw [fLt (by omega), fLt (by omega)]
      exact ⟨C, X, -1, rfl, rfl, h⟩
end CT

/-! CALLS: load, type, clear, times, page, byteAt, digest. -/
section SI
variable {C C' X X' : Mem} {P P' : Nat → Pg} {c1 c2 c3 a b c z : Int} {n k root L : Nat} {w : List Int}
theorem ag_load (h : Inv C X) (ha : R32 a) (hb : R32 b) (hc : R32 c) : Agree Inv (f_X7_load a b c C) (f_X8_load a b c X) := by
  unfold f_X7_load f_X8_load f_X8_isLoad
  rw [sp_within ha (by simp only [R32]; omega) (by simp only [R32]; omega), mx_within ha (by simp only [R32]; omega) (by simp only [R32]; omega), bd_some, bd_some, cEq_b, cEq_b]
  by_cases h1 : 0 ≤ a ∧ a ≤ 17575
  · rw [if_pos h1, if_pos h1, sp_within hb (by simp only [R32]; omega) (by simp only [R32]; omega), mx_within hb (by simp only [R32]; omega) (by simp only [R32]; omega), bd_some, bd_some, cEq_b, cEq_b]
    by_cases h2 : 1 ≤ b ∧ b ≤ 99
    · rw [if_pos h2, if_pos h2, sp_within hc (by simp only [R32]; omega) (by simp only [R32]; omega), mx_within hc (by simp only [R32]; omega) (by simp only [R32]; omega), bd_some, bd_some, cEq_b, cEq_b]
      by_cases h3 : 1 ≤ c ∧ c ≤ 60
      · rw [if_pos h3, if_pos h3]
        have hm1 : 0 ≤ b * (c - 1) := Int.mul_nonneg (by omega) (by omega)
        have hm2 : b * (c - 1) ≤ 99 * (c - 1) := Int.mul_le_mul_of_nonneg_right h2.2 (by omega)
        unfold f_X7_endsInTime
        by_cases h4 : 17575 < a + b * (c - 1)
        · rw [tLt (by omega), tLt (by omega), bd_some, bd_some, tEq (by omega), tEq (by omega)]
          exact ⟨C, X, -1, rfl, rfl, h⟩
        · rw [fLt (by omega), fLt (by omega), bd_some, bd_some, fEq (by omega), fEq (by omega)]
          obtain ⟨P, root, L, d1, d2, d3, r1, r2, r3⟩ := h.1
          have hc2 : c = ((c.toNat : Nat) : Int) := by omega
          have hok : LdOk a b c.toNat := ⟨h1.1, h2.1, h2.2, by omega, by omega, by rw [← hc2]; omega⟩
          obtain ⟨C', X', P', root', L', q1, q2, q3, q4, q5, q6, q7, q8, q9⟩ := ld_all hok r1 r2
          rw [← hc2] at q1 q2
          rw [q1, q2, bd_some, bd_some, q5.2.2.1]
          exact ⟨C', X', _, rfl, rfl, Inv_kp h ⟨P', root', L', d1, d2, d3, q5, q6, q7⟩ q8 q9⟩
      · rw [if_neg h3, if_neg h3, bd_some, tEq (by omega)]
        exact ⟨C, X, -1, rfl, rfl, h⟩
    · rw [if_neg h2, if_neg h2, bd_some, tEq (by omega)]
      exact ⟨C, X, -1, rfl, rfl, h⟩
  · rw [if_neg h1, if_neg h1, bd_some, tEq (by omega)]
    exact ⟨C, X, -1, rfl, rfl, h⟩
theorem ag_type (h : Inv C X) (ha : R32 a) : Agree Inv (f_X7_type a C) (f_X8_type a X) := by
  unfold f_X7_type f_X8_type f_X5_add
  rw [sp_isByte ha, mx_within ha (by simp only [R32]; omega) (by simp only [R32]; omega), bd_some, bd_some, cEq_b, cEq_b]
  by_cases h1 : 0 ≤ a ∧ a ≤ 255
  · rw [if_pos h1, if_pos h1]
    obtain ⟨n, n1, n2, n3, n4⟩ := h.2.1
    rw [n2, n3, fLt (by omega)]
    by_cases h2 : n = 120
    · subst h2
      rw [fLt (by omega), bd_some, tEq (by omega), tEq (by omega)]
      exact ⟨C, X, -3, rfl, rfl, h⟩
    · rw [tLt (by omega), ix_t (by omega), bd_some, fEq (by omega), fEq (by omega), ix_t (by omega), nat2 rfl, up_same, up_k (by omega), n2, up_k (by omega), n3, up_same]
      refine ⟨_, _, (n : Int) + 1, rfl, rfl, ?_, ?_, ?_, ?_⟩
      · exact Tree_kp h.1 (fun x y hx => by rw [up_k (by omega), up_k (by omega)]) (fun x y hx => by rw [up_ap, if_neg (by omega), up_k (by omega)])
      · refine ⟨n + 1, by omega, by rw [up_same]; omega, by rw [up_same]; omega, ?_⟩
        intro j hj
        rw [up_k (k := 4) (by omega), up_k (k := 95) (by omega)]
        by_cases hjn : j = n
        · subst hjn; rw [up_same, up_same]; exact ⟨rfl, h1⟩
        · rw [up_j hjn, up_j hjn]; exact n4 j (by omega)
      · exact Img_kp (by omega) h.2.2.1 (C := C) (X := X) (C' := up (up C 25 n a) 4 1 ((n : Int) + 1)) (X' := up (up X 113 n a) 95 30 ((n : Int) + 1)) |> fun hh => by
          rcases h.2.2.1 with ⟨q1, q2⟩ | ⟨q1, P, root, L, g1, g2, g3, g4, g5, g6, g7⟩
          · exact Or.inl ⟨by rw [up_k (by omega), up_k (by omega)]; exact q1, by rw [up_k (by omega), up_k (by omega)]; exact q2⟩
          · exact Or.inr ⟨by rw [up_k (by omega), up_k (by omega)]; exact q1, P, root, L, g1, by rw [up_k (by omega), up_k (by omega)]; exact g2, by rw [up_k (by omega), up_k (by omega)]; exact g3, by rw [up_k (by omega), up_k (by omega)]; exact g4, by rw [up_k (by omega), up_k (by omega)]; exact g5, fun i hi j hj => by rw [up_k (by omega), up_k (by omega)]; exact g6 i hi j hj, fun i hi j hj => by rw [up_k (by omega), up_k (by omega)]; exact g7 i hi j hj⟩
      · rcases h.2.2.2 with ⟨q1, q2⟩ | ⟨q1, P, root, L, g1, g2, g3, g4, g5, g6, g7⟩
        · exact Or.inl ⟨by rw [up_k (by omega), up_k (by omega)]; exact q1, by rw [up_k (by omega), up_k (by omega)]; exact q2⟩
        · exact Or.inr ⟨by rw [up_k (by omega), up_k (by omega)]; exact q1, P, root, L, g1, by rw [up_k (by omega), up_k (by omega)]; exact g2, by rw [up_k (by omega), up_k (by omega)]; exact g3, by rw [up_k (by omega), up_k (by omega)]; exact g4, by rw [up_k (by omega), up_k (by omega)]; exact g5, fun i hi j hj => by rw [up_k (by omega), up_k (by omega)]; exact g6 i hi j hj, fun i hi j hj => by rw [up_k (by omega), up_k (by omega)]; exact g7 i hi j hj⟩
  · rw [if_neg h1, if_neg h1]
    exact ⟨C, X, -1, rfl, rfl, h⟩
/-- the text is emptied -/
theorem Inv_clear (h : Inv C X) : Inv (up C 4 1 0) (up X 95 30 0) := by
  refine ⟨Tree_kp h.1 (fun x y hx => up_k (by omega)) (fun x y hx => by rw [up_ap, if_neg (by omega)]), ⟨0, by omega, by rw [up_same]; rfl, by rw [up_same]; rfl, fun j hj => by omega⟩, ?_, ?_⟩
  · rcases h.2.2.1 with ⟨q1, q2⟩ | ⟨q1, P, root, L, g1, g2, g3, g4, g5, g6, g7⟩
    · exact Or.inl ⟨by rw [up_k (by omega)]; exact q1, by rw [up_k (by omega)]; exact q2⟩
    · exact Or.inr ⟨by rw [up_k (by omega)]; exact q1, P, root, L, g1, by rw [up_k (by omega)]; exact g2, by rw [up_k (by omega)]; exact g3, by rw [up_k (by omega)]; exact g4, by rw [up_k (by omega)]; exact g5, fun i hi j hj => by rw [up_k (by omega)]; exact g6 i hi j hj, fun i hi j hj => by rw [up_k (by omega)]; exact g7 i hi j hj⟩
  · rcases h.2.2.2 with ⟨q1, q2⟩ | ⟨q1, P, root, L, g1, g2, g3, g4, g5, g6, g7⟩
    · exact Or.inl ⟨by rw [up_k (by omega)]; exact q1, by rw [up_k (by omega)]; exact q2⟩
    · exact Or.inr ⟨by rw [up_k (by omega)]; exact q1, P, root, L, g1, by rw [up_k (by omega)]; exact g2, by rw [up_k (by omega)]; exact g3, by rw [up_k (by omega)]; exact g4, by rw [up_k (by omega)]; exact g5, fun i hi j hj => by rw [up_k (by omega)]; exact g6 i hi j hj, fun i hi j hj => by rw [up_k (by omega)]; exact g7 i hi j hj⟩
theorem ag_clear (h : Inv C X) : Agree Inv (f_X7_clear C) (f_X8_clear X) := by
  unfold f_X7_clear f_X8_clear
  obtain ⟨n, n1, n2, n3, n4⟩ := h.2.1
  rw [n2, n3]
  exact ⟨_, _, _, rfl, rfl, Inv_clear h⟩
theorem ag_times (h : Inv C X) (ha : R32 a) : Agree Inv (f_X7_times a C) (f_X8_times a X) := by
  have ha' := ha
  simp only [R32] at ha'
  unfold f_X7_times f_X8_times
  rw [mx_within ha (by simp only [R32]; omega) (by simp only [R32]; omega), bd_some, cEq_b]
  obtain ⟨n, n1, n2, n3, n4⟩ := h.2.1
  obtain ⟨P, root, L, d1, d2, d3, r1, r2, r3⟩ := h.1
  by_cases h0 : a = 0
  · subst h0
    rw [tEq (by omega), if_pos (by omega), tEq (by omega), n2, n3]
    exact ⟨C, X, _, rfl, rfl, h⟩
  · by_cases h1 : a = 1
    · subst h1
      rw [fEq (by omega), tEq (by omega), if_pos (by omega), fEq (by omega), tEq (by omega), r1.2.2.2.1, r2.2.2.2.1]
      exact ⟨C, X, _, rfl, rfl, h⟩
    · by_cases h2 : a = 2
      · subst h2
        rw [fEq (by omega), fEq (by omega), tEq (by omega), if_pos (by omega), fEq (by omega), fEq (by omega), tEq (by omega), r1.2.2.2.2.1, r2.2.2.2.2.1]
        exact ⟨C, X, _, rfl, rfl, h⟩
      · by_cases h3 : a = 3
        · subst h3
          rw [fEq (by omega), fEq (by omega), fEq (by omega), tEq (by omega), if_pos (by omega), fEq (by omega), fEq (by omega), fEq (by omega), r1.2.2.2.2.2, r2.2.2.2.2.2]
          exact ⟨C, X, _, rfl, rfl, h⟩
        · rw [fEq (by omega), fEq (by omega), fEq (by omega), fEq (by omega), if_neg (by omega)]
          exact ⟨C, X, _, rfl, rfl, h⟩
theorem sp_isPage (ha : R32 a) : f_X7_isPage a C = some (C, if 0 ≤ a ∧ a ≤ 31 then 1 else 0) := by
  unfold f_X7_isPage
  rw [sp_within ha (by simp only [R32]; omega) (by simp only [R32]; omega), bd_some, bo_b]
theorem mx_isPage (ha : R32 a) : f_X8_isPage a X = some (X, if 0 ≤ a ∧ a ≤ 31 then 1 else 0) := by
  unfold f_X8_isPage
  rw [mx_within ha (by simp only [R32]; omega) (by simp only [R32]; omega), bd_some, bo_b]
/-- used, on both sides -/
theorem both_used (ho : TOk P) (hC : TC C P) (hX : TX X P) {i : Nat} (hi : i < 32) {p : Int} (hp : p = (i : Int)) : ∃ u : Int, 0 ≤ u ∧ u ≤ 64 ∧ f_X4_used i C = some (C, u) ∧ f_X8_usedOf p X = some (X, u) := by
  have hpC := TC_pg ho hC hi
  have hpX := TX_pg ho hX hi
  by_cases h0 : (P i).1 = 0
  · rw [h0] at hpC hpX
    exact ⟨0, by omega, by omega, sp_used0 hpC, mx_used0 hpX hp⟩
  · have := (ho i hi).2.1
    exact ⟨((3 + szs (P i).2.2 : Nat) : Int), by omega, by omega, sp_used hpC h0, mx_used hpX hp h0⟩
theorem ag_page (h : Inv C X) (ha : R32 a) (hb : R32 b) : Agree Inv (f_X7_page a b C) (f_X8_page a b X) := by
  have hb' := hb
  simp only [R32] at hb'
  unfold f_X7_page f_X8_page
  rw [sp_isPage ha, mx_isPage ha, bd_some, bd_some, cEq_b, cEq_b]
  by_cases h1 : 0 ≤ a ∧ a ≤ 31
  · rw [if_pos h1, if_pos h1, mx_within hb (by simp only [R32]; omega) (by simp only [R32]; omega), bd_some, cEq_b]
    obtain ⟨P, root, L, d1, d2, d3, r1, r2, V, lvl, hg⟩ := h.1
    have ho := hg.1.1
    have hai : a = ((a.toNat : Nat) : Int) := by omega
    have hpC := TC_pg ho r1.1 (show a.toNat < 32 by omega)
    have hpX := TX_pg ho r2.1 (show a.toNat < 32 by omega)
    obtain ⟨u, u1, u2, u3, u4⟩ := both_used ho r1.1 r2.1 (show a.toNat < 32 by omega) hai
    rw [sp_pageOf hai (by omega), bd_some]
    by_cases h0 : b = 0
    · subst h0
      rw [tEq (by omega), sp_sort hpC, bd_some, if_pos (by omega), tLt (by omega), mx_0 hpX hai, bd_some]
      exact ⟨C, X, _, rfl, rfl, h⟩
    · by_cases h1 : b = 1
      · subst h1
        rw [fEq (by omega), tEq (by omega), sp_entries hpC, bd_some, if_pos (by omega), tLt (by omega), mx_1 hpX hai, bd_some]
        exact ⟨C, X, _, rfl, rfl, h⟩
      · by_cases h2 : b = 2
        · subst h2
          rw [fEq (by omega), fEq (by omega), tEq (by omega), sp_link hpC, bd_some, if_pos (by omega), tLt (by omega), mx_2 hpX hai, bd_some]
          exact ⟨C, X, _, rfl, rfl, h⟩
        · by_cases h3 : b = 3
          · subst h3
            rw [fEq (by omega), fEq (by omega), fEq (by omega), tEq (by omega), u3, bd_some, if_pos (by omega), fLt (by omega), u4, bd_some]
            exact ⟨C, X, _, rfl, rfl, h⟩
          · rw [fEq (by omega), fEq (by omega), fEq (by omega), fEq (by omega), if_neg (by omega)]
            exact ⟨C, X, _, rfl, rfl, h⟩
  · rw [if_neg h1, if_neg h1]
    exact ⟨C, X, -1, rfl, rfl, h⟩
theorem ag_byteAt (h : Inv C X) (ha : R32 a) (hb : R32 b) : Agree Inv (f_X7_byteAt a b C) (f_X8_byteAt a b X) := by
  unfold f_X7_byteAt f_X8_byteAt
  rw [sp_isPage ha, mx_isPage ha, bd_some, bd_some, cEq_b, cEq_b]
  by_cases h1 : 0 ≤ a ∧ a ≤ 31
  · rw [if_pos h1, if_pos h1, sp_within hb (by simp only [R32]; omega) (by simp only [R32]; omega), mx_within hb (by simp only [R32]; omega) (by simp only [R32]; omega), bd_some, bd_some, cEq_b, cEq_b]
    by_cases h2 : 0 ≤ b ∧ b ≤ 63
    · obtain ⟨P, root, L, d1, d2, d3, r1, r2, V, lvl, hg⟩ := h.1
      have ho := hg.1.1
      have hai : a = ((a.toNat : Nat) : Int) := by omega
      have hpC := TC_pg ho r1.1 (show a.toNat < 32 by omega)
      have hpX := TX_pg ho r2.1 (show a.toNat < 32 by omega)
      rw [if_pos h2, if_pos h2, sp_pageOf hai (by omega), bd_some, sp_at hpC (by omega) (by omega), bd_some, mx_at hpX hai (by omega), bd_some]
      exact ⟨C, X, _, rfl, rfl, h⟩
    · rw [if_neg h2, if_neg h2]
      exact ⟨C, X, -1, rfl, rfl, h⟩
  · rw [if_neg h1, if_neg h1]
    exact ⟨C, X, -1, rfl, rfl, h⟩
/-- the digest of bytes one behind the other -/
def dg (g : Nat → Int) : Nat → Int
  | 0 => 17
  | n + 1 => 31 * dg g n + g n
def fb (P : Nat → Pg) (k : Nat) : Int := eP (P (k / 64)) (k % 64)
theorem lp_dg25 {K : Int → Int → Mem → Option (Mem × Int)} {u3 : Int} (ho : TOk P) (hC : TC C P) {i : Nat} (hi : i < 32) : ∀ (m n : Nat) (v1 v5 : Int), m ≤ 64 → v1 = dg (fb P) (64 * i + (64 - m)) → v5 = ((64 - m : Nat) : Int) → m < n → f_X7_digest_25 u3 i K n v1 v5 C = K (dg (fb P) (64 * (i + 1))) 64 C
  | _, 0 => by intros; omega
  | 0, n + 1 => by
    intro v1 v5 _ h1 h5 _
    unfold f_X7_digest_25
    rw [fLt (by omega), h1, h5, show 64 * i + (64 - 0) = 64 * (i + 1) by omega]
    rfl
  | m + 1, n + 1 => by
    intro v1 v5 hm h1 h5 hn
    have hp := TC_pg ho hC hi
    have hr := enc_rng (j := 64 - (m + 1)) hp.2.1 hp.2.2.2.1 hp.2.2.2.2 (PgC_len hp).1
    have hb : enc (P i).1 (P i).2.1 (P i).2.2 (64 - (m + 1)) = fb P (64 * i + (64 - (m + 1))) := by
      unfold fb eP
      rw [show (64 * i + (64 - (m + 1))) / 64 = i by omega, show (64 * i + (64 - (m + 1))) % 64 = 64 - (m + 1) by omega]
    have ih := lp_dg25 (K := K) (u3 := u3) ho hC hi m n (31 * v1 + enc (P i).1 (P i).2.1 (P i).2.2 (64 - (m + 1))) (v5 + 1) (by omega) (by rw [hb, h1, show 64 * i + (64 - m) = 64 * i + (64 - (m + 1)) + 1 by omega]; rfl) (by omega) (by omega)
    unfold f_X7_digest_25
    rw [tLt (by omega), sp_at hp (by omega) (by omega), bd_some, nat2 h5, rg_t (by simp only [R32]; omega)]
    exact ih
theorem lp_dg6 {K : Int → Int → Mem → Option (Mem × Int)} (ho : TOk P) (hC : TC C P) : ∀ (m n : Nat) (v1 v3 : Int), m ≤ 32 → v1 = dg (fb P) (64 * (32 - m)) → v3 = ((32 - m : Nat) : Int) → m < n → f_X7_digest_6 K n v1 v3 C = K (dg (fb P) 2048) 32 C
  | _, 0 => by intros; omega
  | 0, n + 1 => by
    intro v1 v3 _ h1 h3 _
    unfold f_X7_digest_6
    rw [fLt (by omega), h1, h3]
    rfl
  | m + 1, n + 1 => by
    intro v1 v3 hm h1 h3 hn
    have hfu := FU_eq
    have q := lp_dg25 (K := (fun (v1_e25 : Int) (v5_e25 : Int) (C_e25 : Mem) => (f_X7_digest_6 K n (v1_e25) (v3 + 1) C_e25))) (u3 := v3) ho hC (show 32 - (m + 1) < 32 by omega) 64 FU v1 0 (by omega) (by rw [h1]; rfl) rfl (by omega)
    unfold f_X7_digest_6
    rw [tLt (by omega), sp_pageOf h3 (by omega), bd_some, q]
    exact lp_dg6 ho hC m n _ _ (by omega) (by rw [show 32 - (m + 1) + 1 = 32 - m by omega]) (by omega) (by omega)
theorem lm_dg {K : Int → Int → Mem → Option (Mem × Int)} (ho : TOk P) (hX : TX X P) : ∀ (m n : Nat) (v1 v3 : Int), m ≤ 2048 → v1 = dg (fb P) (2048 - m) → v3 = ((2048 - m : Nat) : Int) → m < n → f_X8_digest_6 K n v1 v3 X = K (dg (fb P) 2048) 2048 X
  | _, 0 => by intros; omega
  | 0, n + 1 => by
    intro v1 v3 _ h1 h3 _
    unfold f_X8_digest_6
    rw [fLt (by omega), h1, h3]
    rfl
  | m + 1, n + 1 => by
    intro v1 v3 hm h1 h3 hn
    have hp := TX_pg ho hX (show (2048 - (m + 1)) / 64 < 32 by omega)
    have hr := enc_rng (j := (2048 - (m + 1)) % 64) hp.2.1 hp.2.2.2.1 hp.2.2.2.2.1 (by have := hp.2.2.1; omega)
    have hb : X 96 (2048 - (m + 1)) = fb P (2048 - (m + 1)) := by
      have := hX ((2048 - (m + 1)) / 64) (by omega) ((2048 - (m + 1)) % 64) (by omega)
      rw [show 64 * ((2048 - (m + 1)) / 64) + (2048 - (m + 1)) % 64 = 2048 - (m + 1) by omega] at this
      exact this
    have hr2 : 0 ≤ fb P (2048 - (m + 1)) ∧ fb P (2048 - (m + 1)) ≤ 255 := hr
    unfold f_X8_digest_6
    rw [tLt (by omega), ix_t (by omega), nat2 h3, hb, rg_t (by simp only [R32]; omega)]
    exact lm_dg ho hX m n _ _ (by omega) (by rw [show 2048 - m = 2048 - (m + 1) + 1 by omega, h1]; rfl) (by omega) (by omega)
theorem ag_digest (h : Inv C X) : Agree Inv (f_X7_digest C) (f_X8_digest X) := by
  have hfu := FU_eq
  obtain ⟨P, root, L, d1, d2, d3, r1, r2, V, lvl, hg⟩ := h.1
  unfold f_X7_digest f_X8_digest
  rw [lp_dg6 hg.1.1 r1.1 32 FU 17 0 (by omega) rfl rfl (by omega), lm_dg hg.1.1 r2.1 2048 FU 17 0 (by omega) rfl rfl (by omega)]
  exact ⟨C, X, _, rfl, rfl, h⟩
end SI

/-! THE TEXT: numbers, keys, ends: class and model together. -/
section T3
variable {C C' X X' : Mem} {t : Nat → Int} {n i e st k : Nat} {p : Int → Bool} {z lo hi' : Int}
theorem both_num (h1 : TxC C t n) (h2 : TxX X t n) (hC : C 4 3 = (e : Int)) (hX : X 95 31 = (e : Int)) (he : e ≤ n) (hk : k < 3) {kz : Int} (hkz : kz = (k : Int)) (hlo : 0 ≤ lo ∧ lo ≤ 100000) (hhi : 0 ≤ hi' ∧ hi' ≤ 100000) : (NumOk t n e lo hi' ∧ ∃ C' X', f_X5_readNumber kz lo hi' C = some (C', 1) ∧ f_X8_number lo hi' X = some (X', 1) ∧ TxC C' t n ∧ TxX X' t n ∧ C' 4 3 = ((nE t n e : Nat) : Int) ∧ X' 95 31 = ((nE t n e : Nat) : Int) ∧ C' 26 k = nV t n e ∧ X' 95 32 = nV t n e ∧ (∀ x y, x ≠ 4 → ¬ (x = 26 ∧ y = k) → C' x y = C x y) ∧ C' 4 6 = C 4 6 ∧ (∀ a b, ¬ (a = 95 ∧ (b = 31 ∨ b = 32)) → X' a b = X a b) ∧ C' 4 2 = ((ad isB t n e : Nat) : Int)) ∨ (¬ NumOk t n e lo hi' ∧ ∃ C' X' q, f_X5_readNumber kz lo hi' C = some (C', 0) ∧ f_X8_number lo hi' X = some (X', 0) ∧ TxC C' t n ∧ TxX X' t n ∧ C' 4 2 = ((q : Nat) : Int) ∧ X' 95 31 = ((q : Nat) : Int) ∧ q ≤ n ∧ (∀ x y, x ≠ 4 → C' x y = C x y) ∧ (∀ a b, ¬ (a = 95 ∧ b = 31) → X' a b = X a b) ∧ q = ad isB t n e) := by
  obtain ⟨C', r1, r2, r3, r4, r5, r6⟩ := tc_tok h1 hC he
  have hn := h1.2.1
  have hsle : ad isB t n e ≤ n := ad_le he
  have kind : (fo t n (ad isB t n e) ∧ C' 4 4 = 2 ∧ C' 4 5 = nV t n e ∧ C' 4 3 = ((nE t n e : Nat) : Int)) ∨ (¬ fo t n (ad isB t n e) ∧ C' 4 4 ≠ 2 ∧ 0 ≤ C' 4 4 ∧ C' 4 4 ≤ 4) := by
    rcases r6 with ⟨q1, q2, q3⟩ | ⟨q1, q | q | q⟩
    · refine Or.inr ⟨?_, by omega, by omega, by omega⟩
      intro hf
      have := hf.1
      rw [ad_n (by omega)] at this
      omega
    · refine Or.inr ⟨?_, by omega, by omega, by omega⟩
      intro hf
      have hl := lets q.1
      have := hf.1
      rw [ad_n (by intro hh; have := figs hh.2; omega)] at this
      omega
    · obtain ⟨q2, q3, q4 | q4⟩ := q
      · exact Or.inl ⟨q4.1, q4.2.1, q4.2.2, q3⟩
      · exact Or.inr ⟨q4.1, by omega, by omega, by omega⟩
    · refine Or.inr ⟨?_, ?_, ?_, ?_⟩
      · intro hf
        have := hf.1
        rw [ad_n (by intro hh; rw [q.2.1] at hh; exact absurd hh.2 (by decide))] at this
        omega
      · rw [q.2.2.2]; split <;> omega
      · rw [q.2.2.2]; split <;> omega
      · rw [q.2.2.2]; split <;> omega
  have hmod := tx_number h2 hX he hlo hhi
  rcases kind with ⟨k1, k2, k3, k4⟩ | ⟨k1, k2, k3, k4⟩
  · have hall : ∀ j, ad isB t n e ≤ j → j < ad isB t n e + (nE t n e - ad isB t n e) → 48 ≤ t j ∧ t j ≤ 57 := fun j q1 q2 => figs (ad_in (n := n) q1 (by show j < nE t n e; omega))
    have hr : 0 ≤ nV t n e ∧ nV t n e ≤ 99999 := nv_rng hall k1.2.1
    have preC : f_X5_readNumber kz lo hi' C = (cEq (if lo ≤ nV t n e ∧ nV t n e ≤ hi' then 1 else 0) 0 (some (C', 0)) (some (up C' 26 k (nV t n e), 1))) := by
      unfold f_X5_readNumber
      rw [r1, bd_some, tEq (by omega), k3, sp_within (by simp only [R32]; omega) (by simp only [R32]; omega) (by simp only [R32]; omega), bd_some, fLt (a := kz) (by omega), tLt (a := kz) (by omega), ix_t (by omega), nat2 hkz, k3]
    rw [cEq_b] at preC
    by_cases hin : lo ≤ nV t n e ∧ nV t n e ≤ hi'
    · rw [if_pos hin] at preC
      rcases hmod with ⟨m1, m2⟩ | ⟨m1, m2⟩
      · refine Or.inl ⟨m1, _, _, preC, m2, ⟨by rw [up_k (by omega)]; exact r2.1, r2.2.1, fun j hj => by rw [up_k (by omega)]; exact r2.2.2 j hj⟩, TxX_u (TxX_u (TxX_u h2 (by omega)) (by omega)) (by omega), by rw [up_k (by omega)]; exact k4, up_same, up_same, by rw [up_j (by omega), up_same], ?_, by rw [up_k (by omega)]; exact r4, ?_, by rw [up_k (by omega)]; exact r5⟩
        · intro x y hx hy
          rw [up_ap, if_neg hy]; exact r3 x y hx
        · intro a b hab
          rw [up_ap, if_neg (by omega), up_ap, if_neg (by omega), up_ap, if_neg (by omega)]
      · exact absurd ⟨k1, hin⟩ m1
    · rw [if_neg hin] at preC
      rcases hmod with ⟨m1, m2⟩ | ⟨m1, m2⟩
      · exact absurd m1.2 hin
      · refine Or.inr ⟨m1, _, _, ad isB t n e, preC, m2, r2, TxX_u h2 (by omega), r5, up_same, hsle, r3, ?_, rfl⟩
        intro a b hab
        rw [up_ap, if_neg hab]
  · have preC : f_X5_readNumber kz lo hi' C = some (C', 0) := by
      unfold f_X5_readNumber
      rw [r1, bd_some, fEq (by omega)]
    rcases hmod with ⟨m1, m2⟩ | ⟨m1, m2⟩
    · exact absurd m1.1 k1
    · refine Or.inr ⟨m1, _, _, ad isB t n e, preC, m2, r2, TxX_u h2 (by omega), r5, up_same, hsle, r3, ?_, rfl⟩
      intro a b hab
      rw [up_ap, if_neg hab]
theorem both_stop (h1 : TxC C t n) (h2 : TxX X t n) (hC : C 4 3 = (e : Int)) (hX : X 95 31 = (e : Int)) (he : e ≤ n) : (StopOk t n e ∧ ∃ C' X', f_X5_readStop C = some (C', 1) ∧ f_X8_ends X = some (X', 1) ∧ TxC C' t n ∧ TxX X' t n ∧ C' 4 3 = ((ad isB t n e + 1 : Nat) : Int) ∧ X' 95 31 = ((ad isB t n e + 1 : Nat) : Int) ∧ (∀ x y, x ≠ 4 → C' x y = C x y) ∧ C' 4 6 = C 4 6 ∧ (∀ a b, ¬ (a = 95 ∧ b = 31) → X' a b = X a b)) ∨ (¬ StopOk t n e ∧ ∃ C' X' q, f_X5_readStop C = some (C', 0) ∧ f_X8_ends X = some (X', 0) ∧ TxC C' t n ∧ TxX X' t n ∧ C' 4 2 = ((q : Nat) : Int) ∧ X' 95 31 = ((q : Nat) : Int) ∧ q ≤ n ∧ (∀ x y, x ≠ 4 → C' x y = C x y) ∧ (∀ a b, ¬ (a = 95 ∧ b = 31) → X' a b = X a b)) := by
  obtain ⟨C', r1, r2, r3, r4, r5, r6⟩ := tc_tok h1 hC he
  have hn := h1.2.1
  have hsle : ad isB t n e ≤ n := ad_le he
  have kind : (StopOk t n e ∧ C' 4 4 = 3 ∧ C' 4 3 = ((ad isB t n e + 1 : Nat) : Int)) ∨ (¬ StopOk t n e ∧ C' 4 4 ≠ 3 ∧ 0 ≤ C' 4 4 ∧ C' 4 4 ≤ 4) := by
    rcases r6 with ⟨q1, q2, q3⟩ | ⟨q1, q | q | q⟩
    · exact Or.inr ⟨fun hh => by have := hh.1; omega, by omega, by omega, by omega⟩
    · exact Or.inr ⟨fun hh => by have := hh.2; have := lets q.1; omega, by omega, by omega, by omega⟩
    · have hf := figs q.1
      obtain ⟨q2, q3, q4 | q4⟩ := q
      · exact Or.inr ⟨fun hh => by have := hh.2; omega, by omega, by omega, by omega⟩
      · exact Or.inr ⟨fun hh => by have := hh.2; omega, by omega, by omega, by omega⟩
    · by_cases h59 : t (ad isB t n e) = 59
      · exact Or.inl ⟨⟨q1, h59⟩, by rw [q.2.2.2, if_pos h59], q.2.2.1⟩
      · have := q.2.2.2
        rw [if_neg h59] at this
        exact Or.inr ⟨fun hh => h59 hh.2, by omega, by omega, by omega⟩
  have preX : f_X8_ends X = (cEq (if ad isB t n e < n then t (ad isB t n e) else -9) (59) (some ((up (up X 95 31 ((ad isB t n e : Nat) : Int)) 95 31 ((ad isB t n e : Nat) + 1 : Int)), 1)) (some (up X 95 31 ((ad isB t n e : Nat) : Int), 0))) := by
    unfold f_X8_ends
    rw [tx_skip h2 hX he, bd_some, tx_here (TxX_u h2 (by omega)) up_same hsle, bd_some, up_same]
  rcases kind with ⟨k1, k2, k3⟩ | ⟨k1, k2, k3, k4⟩
  · refine Or.inl ⟨k1, C', _, ?_, ?_, r2, TxX_u (TxX_u h2 (y := 31) (z := ((ad isB t n e : Nat) : Int)) (by omega)) (y := 31) (z := ((ad isB t n e : Nat) : Int) + 1) (by omega), k3, ?_, r3, r4, ?_⟩
    · unfold f_X5_readStop
      rw [r1, bd_some, tEq (by omega)]
    · rw [preX, if_pos k1.1, k1.2, tEq (by omega)]
    · rw [up_same]; omega
    · intro a b hab
      rw [up_ap, if_neg hab, up_ap, if_neg hab]
  · have hX2 : f_X8_ends X = some (up X 95 31 ((ad isB t n e : Nat) : Int), 0) := by
      rw [preX]
      by_cases hlt : ad isB t n e < n
      · have ht := (h1.2.2 _ hlt).2
        rw [if_pos hlt, fEq ⟨by omega, by omega, by omega, by omega, fun hh => k1 ⟨hlt, hh⟩⟩]
      · rw [if_neg hlt, fEq (by omega)]
    refine Or.inr ⟨k1, C', _, ad isB t n e, ?_, hX2, r2, TxX_u h2 (by omega), r5, up_same, hsle, r3, ?_⟩
    · unfold f_X5_readStop
      rw [r1, bd_some, fEq (by omega)]
    · intro a b hab
      rw [up_ap, if_neg hab]
/-- letters of a key: the class -/
theorem lp_tkey {K : Int → Mem → Option (Mem × Int)} {s E : Nat} (h8 : E - s ≤ 8) : ∀ (m f : Nat) (j : Nat) (v : Int) (M : Mem), TxC M t n → M 4 3 = (E : Int) → E ≤ n → v = ((s + j : Nat) : Int) → s + j + m = E → m < f → f_X5_readKey_40 K f v (stK M 4 (sub t s j)) = K (E : Int) (stK M 4 (sub t s (E - s)))
  | _, 0 => by intros; omega
  | 0, f + 1 => by
    intro j v M h h3 hE hv hj _
    have hn := h.2.1
    unfold f_X5_readKey_40
    rw [stK_o (by omega) (by omega), h3, fLt (by omega), show E - s = j by omega, hv, show s + j = E by omega]
  | m + 1, f + 1 => by
    intro j v M h h3 hE hv hj hf
    have hn := h.2.1
    have h' : TxC (stK M 4 (sub t s j)) t n := ⟨by rw [stK_o (by omega) (by omega)]; exact h.1, hn, fun q hq => by rw [stK_o (by omega) (by omega)]; exact h.2.2 q hq⟩
    unfold f_X5_readKey_40
    rw [stK_o (by omega) (by omega), h3, tLt (by omega), tc_at h' (i := s + j) (by omega) hv, bd_some, sp_add (by rw [sub_len]; omega), bd_some]
    exact lp_tkey h8 m f (j + 1) (v + 1) M h h3 hE (by omega) (by omega) (by omega)
theorem lm_tkey {K : Int → Mem → Option (Mem × Int)} {s L : Nat} (h8 : L ≤ 8) : ∀ (m f : Nat) (v : Int) (Y : Mem), TxX Y t n → Y 95 31 = (s : Int) → s + L ≤ n → m ≤ L → v = ((L - m : Nat) : Int) → m < f → f_X8_readsKey_28 (L : Int) K f v (stI Y 101 0 (L - m) (fun q => t (s + q))) = K (L : Int) (stI Y 101 0 L (fun q => t (s + q)))
  | _, 0 => by intros; omega
  | 0, f + 1 => by
    intro v Y h h3 hE hm hv _
    unfold f_X8_readsKey_28
    rw [fLt (by omega), hv]
    rfl
  | m + 1, f + 1 => by
    intro v Y h h3 hE hm hv hf
    have hn := h.2.1
    have ih := lm_tkey (K := K) h8 m f (v + 1) Y h h3 hE (by omega) (by omega) (by omega)
    unfold f_X8_readsKey_28
    rw [tLt (by omega), stI_k (by omega), h3, ix_t (by omega), ix_t (by omega), nat2 hv, stI_k (by omega), show ((s : Int) + v).toNat = s + (L - (m + 1)) by omega, (h.2.2 _ (by omega)).1, stI_up (by omega) rfl, show L - (m + 1) + 1 = L - m by omega]
    exact ih
theorem both_tkey (h1 : TxC C t n) (h2 : TxX X t n) (hC : C 4 3 = (e : Int)) (hX : X 95 31 = (e : Int)) (he : e ≤ n) : (KeyOk t n e ∧ ∃ C' X', f_X5_readKey C = some (C', 1) ∧ f_X8_readsKey X = some (X', 1) ∧ TxC C' t n ∧ TxX X' t n ∧ C' 4 3 = ((kEn t n e : Nat) : Int) ∧ X' 95 31 = ((kEn t n e : Nat) : Int) ∧ KyC C' 4 (kW t n e) ∧ KX X' (kW t n e) ∧ (∀ x y, x ≠ 4 → x ≠ 18 → x ≠ 19 → C' x y = C x y) ∧ C' 4 6 = C 4 6 ∧ (∀ a b, a ≠ 101 → ¬ (a = 95 ∧ (b = 31 ∨ b = 12)) → X' a b = X a b)) ∨ (¬ KeyOk t n e ∧ ∃ C' X' q, f_X5_readKey C = some (C', 0) ∧ f_X8_readsKey X = some (X', 0) ∧ TxC C' t n ∧ TxX X' t n ∧ C' 4 2 = ((q : Nat) : Int) ∧ X' 95 31 = ((q : Nat) : Int) ∧ q ≤ n ∧ (∀ x y, x ≠ 4 → C' x y = C x y) ∧ (∀ a b, ¬ (a = 95 ∧ b = 31) → X' a b = X a b)) := by
  have hfu := FU_eq
  obtain ⟨C', r1, r2, r3, r4, r5, r6⟩ := tc_tok h1 hC he
  have hn := h1.2.1
  have hsle : ad isB t n e ≤ n := ad_le he
  have hkle : kEn t n e ≤ n := ad_le hsle
  have hkge : ad isB t n e ≤ kEn t n e := ad_ge
  have hT1 : TxX (up X 95 31 ((ad isB t n e : Nat) : Int)) t n := TxX_u h2 (by omega)
  have kind : (1 ≤ kEn t n e - ad isB t n e ∧ C' 4 4 = 1 ∧ C' 4 3 = ((kEn t n e : Nat) : Int)) ∨ (¬ 1 ≤ kEn t n e - ad isB t n e ∧ C' 4 4 ≠ 1 ∧ 0 ≤ C' 4 4 ∧ C' 4 4 ≤ 4) := by
    rcases r6 with ⟨q1, q2, q3⟩ | ⟨q1, q | q | q⟩
    · refine Or.inr ⟨?_, by omega, by omega, by omega⟩
      unfold kEn; rw [ad_n (by omega)]; omega
    · refine Or.inl ⟨?_, q.2.1, q.2.2⟩
      unfold kEn; rw [ad_y q1 q.1]
      have : ad isB t n e + 1 ≤ ad isL t n (ad isB t n e + 1) := ad_ge
      omega
    · have hf := figs q.1
      have hno : ¬ 1 ≤ kEn t n e - ad isB t n e := by
        unfold kEn; rw [ad_n (by intro hh; have := lets hh.2; omega)]; omega
      obtain ⟨q2, q3, q4 | q4⟩ := q
      · exact Or.inr ⟨hno, by omega, by omega, by omega⟩
      · exact Or.inr ⟨hno, by omega, by omega, by omega⟩
    · refine Or.inr ⟨?_, ?_, ?_, ?_⟩
      · unfold kEn; rw [ad_n (by intro hh; rw [q.1] at hh; exact absurd hh.2 (by decide))]; omega
      · rw [q.2.2.2]; split <;> omega
      · rw [q.2.2.2]; split <;> omega
      · rw [q.2.2.2]; split <;> omega
  have preX : f_X8_readsKey X = (cEq (if (1 : Int) ≤ ((kEn t n e - ad isB t n e : Nat) : Int) ∧ ((kEn t n e - ad isB t n e : Nat) : Int) ≤ 8 then 1 else 0) 0 (some (up X 95 31 ((ad isB t n e : Nat) : Int), 0)) (f_X8_readsKey_28 ((kEn t n e - ad isB t n e : Nat) : Int) (fun (v2_e28 : Int) (C_e28 : Mem) => (some ((up C_e28 95 31 ((C_e28 95 31) + ((kEn t n e - ad isB t n e : Nat) : Int))), 1))) FU (0) (up (up X 95 31 ((ad isB t n e : Nat) : Int)) 95 12 ((kEn t n e - ad isB t n e : Nat) : Int)))) := by
    unfold f_X8_readsKey
    rw [tx_skip h2 hX he, bd_some, tx_letters hT1 up_same hsle, bd_some]
    show bd (f_X8_in ((kEn t n e - ad isB t n e : Nat) : Int) 1 8 _) _ = _
    rw [mx_within (by simp only [R32]; omega) (by simp only [R32]; omega) (by simp only [R32]; omega), bd_some]
    rfl
  rw [cEq_b] at preX
  have fail : ¬ KeyOk t n e → f_X5_readKey C = some (C', 0) → (KeyOk t n e ∧ ∃ C' X', f_X5_readKey C = some (C', 1) ∧ f_X8_readsKey X = some (X', 1) ∧ TxC C' t n ∧ TxX X' t n ∧ C' 4 3 = ((kEn t n e : Nat) : Int) ∧ X' 95 31 = ((kEn t n e : Nat) : Int) ∧ KyC C' 4 (kW t n e) ∧ KX X' (kW t n e) ∧ (∀ x y, x ≠ 4 → x ≠ 18 → x ≠ 19 → C' x y = C x y) ∧ C' 4 6 = C 4 6 ∧ (∀ a b, a ≠ 101 → ¬ (a = 95 ∧ (b = 31 ∨ b = 12)) → X' a b = X a b)) ∨ (¬ KeyOk t n e ∧ ∃ C' X' q, f_X5_readKey C = some (C', 0) ∧ f_X8_readsKey X = some (X', 0) ∧ TxC C' t n ∧ TxX X' t n ∧ C' 4 2 = ((q : Nat) : Int) ∧ X' 95 31 = ((q : Nat) : Int) ∧ q ≤ n ∧ (∀ x y, x ≠ 4 → C' x y = C x y) ∧ (∀ a b, ¬ (a = 95 ∧ b = 31) → X' a b = X a b)) := by
    intro hno hc
    refine Or.inr ⟨hno, C', up X 95 31 ((ad isB t n e : Nat) : Int), ad isB t n e, hc, ?_, r2, hT1, r5, up_same, hsle, r3, ?_⟩
    · rw [preX, if_neg (by intro hh; exact hno ⟨by omega, by omega⟩)]
    · intro a b hab
      rw [up_ap, if_neg hab]
  rcases kind with ⟨k1, k2, k3⟩ | ⟨k1, k2, k3, k4⟩
  · by_cases h8 : kEn t n e - ad isB t n e ≤ 8
    · have hok : KeyOk t n e := ⟨k1, h8⟩
      have hw := kW_ok hok
      have hlen : (kW t n e).length = kEn t n e - ad isB t n e := sub_len _
      have q := lp_tkey (t := t) (n := n) (K := (fun (v1_e40 : Int) (C_e40 : Mem) => (some (C_e40, 1)))) (s := ad isB t n e) (E := kEn t n e) h8 (kEn t n e - ad isB t n e) FU 0 ((ad isB t n e : Nat) : Int) C' r2 k3 hkle (by omega) (by omega) (by omega)
      have q2 := lm_tkey (t := t) (n := n) (K := (fun (v2_e28 : Int) (C_e28 : Mem) => (some ((up C_e28 95 31 ((C_e28 95 31) + ((kEn t n e - ad isB t n e : Nat) : Int))), 1)))) (s := ad isB t n e) (L := kEn t n e - ad isB t n e) h8 (kEn t n e - ad isB t n e) FU 0 (up (up X 95 31 ((ad isB t n e : Nat) : Int)) 95 12 ((kEn t n e - ad isB t n e : Nat) : Int)) (TxX_u hT1 (by omega)) (by rw [up_j (by omega), up_same]) (by omega) (Nat.le_refl _) (by omega) (by omega)
      rw [Nat.sub_self, stI_nil] at q2
      refine Or.inl ⟨hok, stK C' 4 (kW t n e), up (stI (up (up X 95 31 ((ad isB t n e : Nat) : Int)) 95 12 ((kEn t n e - ad isB t n e : Nat) : Int)) 101 0 (kEn t n e - ad isB t n e) (fun q => t (ad isB t n e + q))) 95 31 ((kEn t n e : Nat) : Int), ?_, ?_, ?_, ?_, ?_, ?_, stK_KC hw.1, ⟨?_, ?_, hw.1⟩, ?_, ?_, ?_⟩
      · unfold f_X5_readKey
        rw [r1, bd_some, tEq (by omega), k3, r5, fLt (by omega), sp_empty, bd_some, stK_o (by omega) (by omega), r5]
        exact q
      · rw [preX, if_pos (by omega), q2]
        rw [stI_k (by omega), up_j (by omega), up_same, show ((ad isB t n e : Nat) : Int) + ((kEn t n e - ad isB t n e : Nat) : Int) = ((kEn t n e : Nat) : Int) by omega]
      · exact ⟨by rw [stK_o (by omega) (by omega)]; exact r2.1, hn, fun j hj => by rw [stK_o (by omega) (by omega)]; exact r2.2.2 j hj⟩
      · refine ⟨?_, hn, fun j hj => ?_⟩
        · rw [up_j (by omega), stI_k (by omega), up_j (by omega), up_j (by omega)]; exact h2.1
        · rw [up_k (by omega), stI_k (by omega), up_k (by omega), up_k (by omega)]; exact h2.2.2 j hj
      · rw [stK_o (by omega) (by omega)]; exact k3
      · rw [up_same]
      · rw [up_j (by omega), stI_k (by omega), up_same, hlen]
      · intro j hj
        rw [hlen] at hj
        rw [up_k (by omega), stI_in (by omega)]
        exact (sub_gd _ j hj).symm
      · intro x y hx h18 h19
        rw [stK_o (by omega) (by omega)]; exact r3 x y hx
      · rw [stK_o (by omega) (by omega)]; exact r4
      · intro a b ha hab
        rw [up_ap, if_neg (by omega), stI_k ha, up_ap, if_neg (by omega), up_ap, if_neg (by omega)]
    · refine fail (fun hh => h8 hh.2) ?_
      unfold f_X5_readKey
      rw [r1, bd_some, tEq (by omega), k3, r5, tLt (by omega)]
  · refine fail (fun hh => k1 hh.1) ?_
    unfold f_X5_readKey
    rw [r1, bd_some, fEq (by omega)]
end T3

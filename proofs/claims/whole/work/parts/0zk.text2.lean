/-! THE TEXT: numbers, keys, ends, on both sides. -/
def nE (t : Nat → Int) (n e : Nat) : Nat := ad isF t n (ad isB t n e)
def nV (t : Nat → Int) (n e : Nat) : Int := nv t (ad isB t n e) (nE t n e - ad isB t n e)
def NumOk (t : Nat → Int) (n e : Nat) (lo hi : Int) : Prop := fo t n (ad isB t n e) ∧ lo ≤ nV t n e ∧ nV t n e ≤ hi
def kEn (t : Nat → Int) (n e : Nat) : Nat := ad isL t n (ad isB t n e)
def KeyOk (t : Nat → Int) (n e : Nat) : Prop := 1 ≤ kEn t n e - ad isB t n e ∧ kEn t n e - ad isB t n e ≤ 8
def sub (t : Nat → Int) (i : Nat) : Nat → List Int
  | 0 => []
  | k + 1 => sub t i k ++ [t (i + k)]
def kW (t : Nat → Int) (n e : Nat) : List Int := sub t (ad isB t n e) (kEn t n e - ad isB t n e)
def StopOk (t : Nat → Int) (n e : Nat) : Prop := ad isB t n e < n ∧ t (ad isB t n e) = 59
section T2
variable {C C' X X' : Mem} {t : Nat → Int} {n i e st k : Nat} {p : Int → Bool} {z lo hi' : Int}
theorem sub_len : ∀ k, (sub t i k).length = k
  | 0 => rfl
  | k + 1 => by show (sub t i k ++ [_]).length = _; simp [sub_len k]
theorem sub_gd : ∀ k j, j < k → (sub t i k).getD j 0 = t (i + j)
  | 0, j => by intro h; omega
  | k + 1, j => by
    intro h
    show (sub t i k ++ [t (i + k)]).getD j 0 = _
    by_cases hj : j < k
    · rw [gd_l (by rw [sub_len]; exact hj), sub_gd k j hj]
    · have : j = k := by omega
      subst this
      rw [gd_r (by rw [sub_len]; omega), sub_len, Nat.sub_self]
      rfl
theorem sub_mem : ∀ k (x : Int), x ∈ sub t i k → ∃ j, i ≤ j ∧ j < i + k ∧ x = t j
  | 0, x => by intro h; cases h
  | k + 1, x => by
    intro h
    rcases List.mem_append.mp h with h | h
    · obtain ⟨j, q1, q2, q3⟩ := sub_mem k x h
      exact ⟨j, q1, by omega, q3⟩
    · exact ⟨i + k, by omega, by omega, List.mem_singleton.mp h⟩
theorem lets (h : isL (t i) = true) : 97 ≤ t i ∧ t i ≤ 122 := by unfold isL at h; simpa using h
theorem kW_ok (h : KeyOk t n e) : LOk (kW t n e) ∧ 1 ≤ (kW t n e).length := by
  unfold kW
  rw [sub_len]
  refine ⟨⟨by rw [sub_len]; exact h.2, ?_⟩, h.1⟩
  intro x hx
  obtain ⟨j, q1, q2, q3⟩ := sub_mem _ x hx
  rw [q3]
  exact lets (ad_in (n := n) q1 (by show j < kEn t n e; omega))
theorem tx_here (h : TxX X t n) (hi : X 95 31 = (i : Int)) (hin' : i ≤ n) : f_X8_here X = some (X, if i < n then t i else -9) := by
  have hn := h.2.1
  unfold f_X8_here
  rw [hi, h.1]
  by_cases hin : i < n
  · rw [tLt (by omega), ix_t (by omega), nat2 rfl, (h.2.2 i hin).1, if_pos hin]
  · rw [fLt (by omega), if_neg hin]
theorem lm_skip {K : Mem → Option (Mem × Int)} : ∀ (m f : Nat) (i : Nat) (X : Mem), TxX X t n → X 95 31 = (i : Int) → n - i = m → i ≤ n → m < f → f_X8_skip_0 K f X = K (up X 95 31 ((ad isB t n i : Nat) : Int))
  | _, 0 => by intros; omega
  | 0, f + 1 => by
    intro i X h h2 hm hi _
    unfold f_X8_skip_0
    rw [tx_here h h2 hi, bd_some, if_neg (by omega), fEq (by omega), ad_n (by omega), up_id h2]
  | m + 1, f + 1 => by
    intro i X h h2 hm hi hf
    have hn := h.2.1
    have ht := (h.2.2 i (by omega)).2
    unfold f_X8_skip_0
    rw [tx_here h h2 hi, bd_some, if_pos (by omega)]
    by_cases hb : t i = 32
    · rw [tEq (by omega), ad_y (by omega) (by unfold isB; simpa using hb), h2, lm_skip m f (i + 1) (up X 95 31 ((i : Int) + 1)) (TxX_u h (by omega)) (by rw [up_same]; omega) (by omega) (by omega) (by omega), up_up]
    · rw [fEq (by omega), ad_n (by unfold isB; simp; intro _; exact hb), up_id h2]
theorem tx_skip (h : TxX X t n) (hi : X 95 31 = (i : Int)) (hin : i ≤ n) : f_X8_skip X = some (up X 95 31 ((ad isB t n i : Nat) : Int), 0) := by
  have hfu := FU_eq
  have hn := h.2.1
  unfold f_X8_skip
  rw [lm_skip (n - i) FU i X h hi rfl hin (by omega)]
theorem tx_inL (hz : 0 ≤ z ∧ z ≤ 255) : f_X8_in z 97 122 X = some (X, if isL z = true then 1 else 0) := by
  rw [mx_within (by simp only [R32]; omega) (by simp only [R32]; omega) (by simp only [R32]; omega)]
  unfold isL
  by_cases h : 97 ≤ z ∧ z ≤ 122
  · rw [if_pos h, if_pos (by simpa using h)]
  · rw [if_neg h, if_neg (by simpa using h)]
theorem tx_inF (hz : 0 ≤ z ∧ z ≤ 255) : f_X8_in z 48 57 X = some (X, if isF z = true then 1 else 0) := by
  rw [mx_within (by simp only [R32]; omega) (by simp only [R32]; omega) (by simp only [R32]; omega)]
  unfold isF
  by_cases h : 48 ≤ z ∧ z ≤ 57
  · rw [if_pos h, if_pos (by simpa using h)]
  · rw [if_neg h, if_neg (by simpa using h)]
theorem lm_lets {K : Int → Mem → Option (Mem × Int)} (h : TxX X t n) (hi : X 95 31 = (i : Int)) : ∀ (m f : Nat) (j : Nat) (v : Int), v = (j : Int) → n - (i + j) = m → i + j ≤ n → m < f → f_X8_lettersHere_2 K f v X = K (((ad isL t n (i + j) - i : Nat)) : Int) X
  | _, 0 => by intros; omega
  | 0, f + 1 => by
    intro j v hv hm hj _
    have hn := h.2.1
    unfold f_X8_lettersHere_2
    rw [hi, h.1, fLt (by omega), ad_n (by omega), show i + j - i = j by omega, hv]
  | m + 1, f + 1 => by
    intro j v hv hm hj hf
    have hn := h.2.1
    have ht := (h.2.2 (i + j) (by omega)).2
    unfold f_X8_lettersHere_2
    rw [hi, h.1, tLt (by omega), ix_t (by omega), show ((i : Int) + v).toNat = i + j by omega, (h.2.2 (i + j) (by omega)).1, tx_inL ht, bd_some, cEq_b]
    by_cases hb : isL (t (i + j)) = true
    · rw [if_pos hb, ad_y (by omega) hb, lm_lets h hi m f (j + 1) (v + 1) (by omega) (by omega) (by omega) (by omega), show i + (j + 1) = i + j + 1 by omega]
    · rw [if_neg hb, ad_n (fun q => hb q.2), show i + j - i = j by omega, hv]
theorem tx_letters (h : TxX X t n) (hi : X 95 31 = (i : Int)) (hin : i ≤ n) : f_X8_lettersHere X = some (X, ((ad isL t n i - i : Nat) : Int)) := by
  have hfu := FU_eq
  have hn := h.2.1
  unfold f_X8_lettersHere
  rw [lm_lets h hi (n - i) FU 0 0 rfl rfl (by omega) (by omega), Nat.add_zero]
theorem lm_num {K : Int → Int → Mem → Option (Mem × Int)} {u1 u2 : Int} (h : TxX X t n) (hi : X 95 31 = (i : Int)) : ∀ (m f : Nat) (j : Nat) (v3 v4 : Int), v3 = (j : Int) → v4 = nv t i (min j 5) → n - (i + j) = m → i + j ≤ n → (∀ q, i ≤ q → q < i + j → isF (t q) = true) → m < f → f_X8_number_9 u1 u2 K f v3 v4 X = K (((ad isF t n (i + j) - i : Nat)) : Int) (nv t i (min (ad isF t n (i + j) - i) 5)) X
  | _, 0 => by intros; omega
  | 0, f + 1 => by
    intro j v3 v4 h3 h4 hm hj _ _
    have hn := h.2.1
    unfold f_X8_number_9
    rw [hi, h.1, fLt (by omega), ad_n (by omega), show i + j - i = j by omega, h3, h4]
  | m + 1, f + 1 => by
    intro j v3 v4 h3 h4 hm hj hall hf
    have hn := h.2.1
    have ht := (h.2.2 (i + j) (by omega)).2
    unfold f_X8_number_9
    rw [hi, h.1, tLt (by omega), ix_t (by omega), show ((i : Int) + v3).toNat = i + j by omega, (h.2.2 (i + j) (by omega)).1, tx_inF ht, bd_some, cEq_b]
    by_cases hb : isF (t (i + j)) = true
    · have hall2 : ∀ q, i ≤ q → q < i + (j + 1) → isF (t q) = true := by
        intro q q1 q2
        by_cases hq : q = i + j
        · rw [hq]; exact hb
        · exact hall q q1 (by omega)
      rw [if_pos hb, ad_y (by omega) hb]
      by_cases h5 : j < 5
      · rw [tLt (by omega), hi, ix_t (by omega), show ((i : Int) + v3).toNat = i + j by omega, (h.2.2 (i + j) (by omega)).1]
        rw [lm_num h hi m f (j + 1) (v3 + 1) (10 * v4 + t (i + j) - 48) (by omega) (by rw [show min (j + 1) 5 = j + 1 by omega, h4, show min j 5 = j by omega]; rfl) (by omega) (by omega) hall2 (by omega), show i + (j + 1) = i + j + 1 by omega]
      · rw [fLt (by omega)]
        rw [lm_num h hi m f (j + 1) (v3 + 1) v4 (by omega) (by rw [h4, show min (j + 1) 5 = 5 by omega, show min j 5 = 5 by omega]) (by omega) (by omega) hall2 (by omega), show i + (j + 1) = i + j + 1 by omega]
    · rw [if_neg hb, ad_n (fun q => hb q.2), show i + j - i = j by omega, h3, h4]
theorem nv_rng (h : ∀ j, i ≤ j → j < i + k → 48 ≤ t j ∧ t j ≤ 57) (hk : k ≤ 5) : 0 ≤ nv t i k ∧ nv t i k ≤ 99999 := by
  by_cases h1 : 1 ≤ k
  · obtain ⟨_, c2, c3⟩ := cf_nv h k h1 (Nat.le_refl _) hk
    have := (p10_le k hk).1
    omega
  · have : k = 0 := by omega
    subst this
    show (0 : Int) ≤ 0 ∧ (0 : Int) ≤ 99999
    omega
/-- the model's number -/
theorem tx_number (h : TxX X t n) (hi : X 95 31 = (e : Int)) (hin : e ≤ n) (hlo : 0 ≤ lo ∧ lo ≤ 100000) (hhi : 0 ≤ hi' ∧ hi' ≤ 100000) : (NumOk t n e lo hi' ∧ f_X8_number lo hi' X = some (up (up (up X 95 31 ((ad isB t n e : Nat) : Int)) 95 32 (nV t n e)) 95 31 ((nE t n e : Nat) : Int), 1)) ∨ (¬ NumOk t n e lo hi' ∧ f_X8_number lo hi' X = some (up X 95 31 ((ad isB t n e : Nat) : Int), 0)) := by
  have hfu := FU_eq
  have hn := h.2.1
  have hge : e ≤ ad isB t n e := ad_ge
  have hle : ad isB t n e ≤ n := ad_le hin
  have h1 : TxX (up X 95 31 ((ad isB t n e : Nat) : Int)) t n := TxX_u h (by omega)
  unfold f_X8_number
  rw [tx_skip h hi hin, bd_some, lm_num (i := ad isB t n e) h1 up_same (n - ad isB t n e) FU 0 0 0 rfl rfl (by omega) (by omega) (fun q q1 q2 => by omega) (by omega), Nat.add_zero]
  unfold NumOk fo nV nE
  generalize hs : ad isB t n e = s at *
  have hFge : s ≤ ad isF t n s := ad_ge
  have hFle : ad isF t n s ≤ n := ad_le (by omega)
  have hall : ∀ j, s ≤ j → j < s + (ad isF t n s - s) → 48 ≤ t j ∧ t j ≤ 57 := fun j q1 q2 => figs (ad_in (n := n) q1 (by omega))
  generalize hE : ad isF t n s = E at *
  rw [mx_within (by simp only [R32]; omega) (by simp only [R32]; omega) (by simp only [R32]; omega), bd_some, cEq_b]
  by_cases hk : (1 : Int) ≤ ((E - s : Nat) : Int) ∧ ((E - s : Nat) : Int) ≤ 5
  · have hr := nv_rng hall (by omega)
    rw [if_pos hk, jn_eq, show min (E - s) 5 = E - s by omega]
    have hsn : s < n := by omega
    have hts := (h.2.2 s hsn).2
    have fin : ¬ (1 < E - s ∧ t s = 48) → ((((1 ≤ E - s ∧ E - s ≤ 5 ∧ ¬ (1 < E - s ∧ t s = 48)) ∧ lo ≤ nv t s (E - s) ∧ nv t s (E - s) ≤ hi') ∧ (bd (f_X8_in (nv t s (E - s)) lo hi' (up X 95 31 (s : Int))) (fun C108 r108 => (cEq (r108) 0 (some (C108, (0 : Int))) (some ((up (up C108 95 32 (nv t s (E - s))) 95 31 (((up C108 95 32 (nv t s (E - s))) 95 31) + ((E - s : Nat) : Int))), 1))))) = some (up (up (up X 95 31 (s : Int)) 95 32 (nv t s (E - s))) 95 31 (E : Int), 1)) ∨ (¬ ((1 ≤ E - s ∧ E - s ≤ 5 ∧ ¬ (1 < E - s ∧ t s = 48)) ∧ lo ≤ nv t s (E - s) ∧ nv t s (E - s) ≤ hi') ∧ (bd (f_X8_in (nv t s (E - s)) lo hi' (up X 95 31 (s : Int))) (fun C108 r108 => (cEq (r108) 0 (some (C108, (0 : Int))) (some ((up (up C108 95 32 (nv t s (E - s))) 95 31 (((up C108 95 32 (nv t s (E - s))) 95 31) + ((E - s : Nat) : Int))), 1))))) = some (up X 95 31 (s : Int), 0))) := by
      intro hz
      rw [mx_within (by simp only [R32]; omega) (by simp only [R32]; omega) (by simp only [R32]; omega), bd_some, cEq_b]
      by_cases hr2 : lo ≤ nv t s (E - s) ∧ nv t s (E - s) ≤ hi'
      · refine Or.inl ⟨⟨⟨by omega, by omega, hz⟩, hr2⟩, ?_⟩
        rw [if_pos hr2, up_j (by omega), up_same, show (s : Int) + ((E - s : Nat) : Int) = (E : Int) by omega]
      · refine Or.inr ⟨fun q => hr2 q.2, ?_⟩
        rw [if_neg hr2]
    by_cases h1k : (1 : Int) < ((E - s : Nat) : Int)
    · rw [tLt (by omega), tx_here h1 up_same (by omega), bd_some, if_pos hsn]
      by_cases hz : t s = 48
      · rw [tEq (by omega)]
        exact Or.inr ⟨fun q => q.1.2.2 ⟨by omega, hz⟩, rfl⟩
      · rw [fEq (by omega)]
        dsimp only
        exact fin (fun q => hz q.2)
    · rw [fLt (by omega)]
      dsimp only
      exact fin (fun q => by omega)
  · rw [if_neg hk]
    exact Or.inr ⟨fun q => hk (by omega), rfl⟩
end T2

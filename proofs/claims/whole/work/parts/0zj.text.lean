/-! THE TEXT: what stands where. -/
def adv (p : Int → Bool) (t : Nat → Int) (n : Nat) : Nat → Nat → Nat
  | 0, i => i
  | m + 1, i => if i < n ∧ p (t i) = true then adv p t n m (i + 1) else i
/-- the first place from i on that is not such -/
def ad (p : Int → Bool) (t : Nat → Int) (n i : Nat) : Nat := adv p t n (n - i) i
def isB (x : Int) : Bool := decide (x = 32)
def isL (x : Int) : Bool := decide (97 ≤ x ∧ x ≤ 122)
def isF (x : Int) : Bool := decide (48 ≤ x ∧ x ≤ 57)
/-- a number of k figures -/
def nv (t : Nat → Int) (i : Nat) : Nat → Int
  | 0 => 0
  | k + 1 => 10 * nv t i k + t (i + k) - 48
def TxC (C : Mem) (t : Nat → Int) (n : Nat) : Prop := C 4 1 = (n : Int) ∧ n ≤ 120 ∧ ∀ j, j < n → C 25 j = t j ∧ 0 ≤ t j ∧ t j ≤ 255
def TxX (X : Mem) (t : Nat → Int) (n : Nat) : Prop := X 95 30 = (n : Int) ∧ n ≤ 120 ∧ ∀ j, j < n → X 113 j = t j ∧ 0 ≤ t j ∧ t j ≤ 255
def Fp (C C' : Mem) : Prop := ∀ x y, ¬ (x = 4 ∧ y ≠ 1) → x ≠ 18 → x ≠ 19 → x ≠ 26 → C' x y = C x y
def Fq (X X' : Mem) : Prop := ∀ a b, a ≠ 101 → ¬ (a = 95 ∧ (b = 12 ∨ b = 31 ∨ b = 32 ∨ b = 33 ∨ b = 34)) → X' a b = X a b
section TX
variable {C C' X X' : Mem} {t : Nat → Int} {n i e st k : Nat} {p : Int → Bool} {z lo hi : Int}
theorem ad_y (h : i < n) (hp : p (t i) = true) : ad p t n i = ad p t n (i + 1) := by
  unfold ad
  rw [show n - i = (n - (i + 1)) + 1 by omega]
  show (if i < n ∧ p (t i) = true then adv p t n (n - (i + 1)) (i + 1) else i) = _
  rw [if_pos ⟨h, hp⟩]
theorem ad_n (h : ¬ (i < n ∧ p (t i) = true)) : ad p t n i = i := by
  unfold ad
  cases n - i with
  | zero => rfl
  | succ m => show (if i < n ∧ p (t i) = true then adv p t n m (i + 1) else i) = i; rw [if_neg h]
theorem ad_spec : ∀ (m i : Nat), n - i = m → i ≤ ad p t n i ∧ (i ≤ n → ad p t n i ≤ n) ∧ (ad p t n i < n → p (t (ad p t n i)) = false) ∧ (∀ j, i ≤ j → j < ad p t n i → p (t j) = true)
  | 0, i => by
    intro hm
    rw [ad_n (by omega)]
    exact ⟨Nat.le_refl _, fun h => h, fun h => by omega, fun j h1 h2 => by omega⟩
  | m + 1, i => by
    intro hm
    by_cases h : i < n ∧ p (t i) = true
    · rw [ad_y h.1 h.2]
      have ih := ad_spec m (i + 1) (by omega)
      refine ⟨by omega, fun _ => ih.2.1 (by omega), ih.2.2.1, fun j h1 h2 => ?_⟩
      by_cases hj : j = i
      · subst hj; exact h.2
      · exact ih.2.2.2 j (by omega) h2
    · rw [ad_n h]
      refine ⟨Nat.le_refl _, fun h => h, fun h1 => ?_, fun j h1 h2 => by omega⟩
      cases hp : p (t i) with
      | true => exact absurd ⟨h1, hp⟩ h
      | false => rfl
theorem ad_ge : i ≤ ad p t n i := (ad_spec (n - i) i rfl).1
theorem ad_le (h : i ≤ n) : ad p t n i ≤ n := (ad_spec (n - i) i rfl).2.1 h
theorem ad_end (h : ad p t n i < n) : p (t (ad p t n i)) = false := (ad_spec (n - i) i rfl).2.2.1 h
theorem ad_in {j : Nat} (h1 : i ≤ j) (h2 : j < ad p t n i) : p (t j) = true := (ad_spec (n - i) i rfl).2.2.2 j h1 h2
theorem up_up {C : Mem} {a b : Nat} {y z : Int} : up (up C a b y) a b z = up C a b z := by
  funext x w
  rw [up_ap, up_ap, up_ap]
  by_cases h : x = a ∧ w = b
  · rw [if_pos h, if_pos h]
  · rw [if_neg h, if_neg h, if_neg h]
theorem up_id {C : Mem} {a b : Nat} {z : Int} (h : C a b = z) : up C a b z = C := by
  funext x w
  rw [up_ap]
  by_cases hh : x = a ∧ w = b
  · rw [if_pos hh, hh.1, hh.2, h]
  · rw [if_neg hh]
theorem up_cm {C : Mem} {a b b' : Nat} {y z : Int} (h : b ≠ b') : up (up C a b y) a b' z = up (up C a b' z) a b y := by
  funext x w
  rw [up_ap, up_ap, up_ap, up_ap]
  by_cases h1 : x = a ∧ w = b'
  · rw [if_pos h1, if_neg (by omega), if_pos h1]
  · rw [if_neg h1, if_neg h1]
theorem TxC_u {y : Nat} (h : TxC C t n) (hy : y ≠ 1) : TxC (up C 4 y z) t n := ⟨by rw [up_j (by omega)]; exact h.1, h.2.1, fun j hj => by rw [up_k (by omega)]; exact h.2.2 j hj⟩
theorem TxX_u {y : Nat} (h : TxX X t n) (hy : y ≠ 30) : TxX (up X 95 y z) t n := ⟨by rw [up_j (by omega)]; exact h.1, h.2.1, fun j hj => by rw [up_k (by omega)]; exact h.2.2 j hj⟩
theorem tc_at (h : TxC C t n) (hi : i < n) (hz : z = (i : Int)) : f_X5_at z C = some (C, t i) := by
  have := h.2.1
  unfold f_X5_at
  rw [fLt (by omega), h.1, tLt (by omega), tLt (by omega), ix_t (by omega), nat2 hz, (h.2.2 i hi).1]
theorem sp_isLet (hz : 0 ≤ z ∧ z ≤ 255) : f_X7_isLetter z C = some (C, if isL z = true then 1 else 0) := by
  unfold f_X7_isLetter isL
  by_cases h : 97 ≤ z ∧ z ≤ 122
  · rw [fLt (by omega), fLt (by omega), if_pos (by simpa using h)]
  · rw [if_neg (by simpa using h)]
    by_cases h2 : z < 97
    · rw [tLt (by omega)]
    · rw [fLt (by omega), tLt (by omega)]
theorem sp_isFig (hz : 0 ≤ z ∧ z ≤ 255) : f_X5_isFigure z C = some (C, if isF z = true then 1 else 0) := by
  unfold f_X5_isFigure isF
  by_cases h : 48 ≤ z ∧ z ≤ 57
  · rw [fLt (by omega), fLt (by omega), if_pos (by simpa using h)]
  · rw [if_neg (by simpa using h)]
    by_cases h2 : z < 48
    · rw [tLt (by omega)]
    · rw [fLt (by omega), tLt (by omega)]
theorem lp_skip {K : Mem → Option (Mem × Int)} : ∀ (m f : Nat) (i : Nat) (C : Mem), TxC C t n → C 4 2 = (i : Int) → n - i = m → i ≤ n → m < f → f_X5_readToken_8 K f C = K (up C 4 2 ((ad isB t n i : Nat) : Int))
  | _, 0 => by intros; omega
  | 0, f + 1 => by
    intro i C h h2 hm hi _
    have := h.2.1
    unfold f_X5_readToken_8
    rw [h.1, h2, fLt (by omega), ad_n (by omega), up_id h2]
  | m + 1, f + 1 => by
    intro i C h h2 hm hi hf
    have hn := h.2.1
    have ht := (h.2.2 i (by omega)).2
    unfold f_X5_readToken_8
    rw [h.1, h2, tLt (by omega), tc_at h (i := i) (by omega) rfl, bd_some]
    by_cases hb : t i = 32
    · rw [tEq (by omega), ad_y (by omega) (by unfold isB; simpa using hb), h2, lp_skip m f (i + 1) (up C 4 2 ((i : Int) + 1)) (TxC_u h (by omega)) (by rw [up_same]; omega) (by omega) (by omega) (by omega), up_up]
    · rw [fEq (by omega), ad_n (by unfold isB; simp; intro _; exact hb), up_id h2]
theorem lp_lets {K : Mem → Option (Mem × Int)} : ∀ (m f : Nat) (i : Nat) (C : Mem), TxC C t n → C 4 3 = (i : Int) → n - i = m → i ≤ n → m < f → f_X5_readToken_99 K f C = some (up C 4 3 ((ad isL t n i : Nat) : Int), 0)
  | _, 0 => by intros; omega
  | 0, f + 1 => by
    intro i C h h2 hm hi _
    have := h.2.1
    unfold f_X5_readToken_99
    rw [h.1, h2, fLt (by omega), ad_n (by omega), up_id h2]
  | m + 1, f + 1 => by
    intro i C h h2 hm hi hf
    have hn := h.2.1
    have ht := (h.2.2 i (by omega)).2
    unfold f_X5_readToken_99
    rw [h.1, h2, tLt (by omega), tc_at h (i := i) (by omega) rfl, bd_some, sp_isLet ht, bd_some, cEq_b]
    by_cases hb : isL (t i) = true
    · rw [if_pos hb, ad_y (by omega) hb, h2, lp_lets m f (i + 1) (up C 4 3 ((i : Int) + 1)) (TxC_u h (by omega)) (by rw [up_same]; omega) (by omega) (by omega) (by omega), up_up]
    · rw [if_neg hb, ad_n (fun q => hb q.2), up_id h2]
/-- figures, as the class takes them: above 99999 it stays -/
def cf (t : Nat → Int) (i : Nat) : Nat → Int
  | 0 => 0
  | 1 => t i - 48
  | k + 2 => if 99999 < cf t i (k + 1) then cf t i (k + 1) else 10 * cf t i (k + 1) + t (i + (k + 1)) - 48
def p10 : Nat → Int
  | 0 => 1
  | k + 1 => 10 * p10 k
theorem p10_le : ∀ m, m ≤ 5 → p10 m ≤ 100000 ∧ (m ≤ 4 → p10 m ≤ 10000) := by
  intro m hm
  have : m = 0 ∨ m = 1 ∨ m = 2 ∨ m = 3 ∨ m = 4 ∨ m = 5 := by omega
  rcases this with h | h | h | h | h | h <;> subst h <;> decide
theorem cf_nv (h : ∀ j, i ≤ j → j < i + k → 48 ≤ t j ∧ t j ≤ 57) : ∀ m, 1 ≤ m → m ≤ k → m ≤ 5 → cf t i m = nv t i m ∧ 0 ≤ nv t i m ∧ nv t i m < p10 m := by
  intro m
  induction m with
  | zero => intro h1; omega
  | succ m ih =>
    intro _ hk h5
    cases m with
    | zero =>
      have := h i (by omega) (by omega)
      have e1 : nv t i (0 + 1) = t i - 48 := by show 10 * 0 + t (i + 0) - 48 = _; rw [Nat.add_zero]; omega
      refine ⟨by rw [e1]; rfl, by rw [e1]; omega, ?_⟩
      rw [e1]
      show t i - 48 < 10 * 1
      omega
    | succ m =>
      obtain ⟨i1, i2, i3⟩ := ih (by omega) (by omega) (by omega)
      have ht := h (i + (m + 1)) (by omega) (by omega)
      have hb := (p10_le (m + 1) (by omega)).2 (by omega)
      have e1 : nv t i (m + 1 + 1) = 10 * nv t i (m + 1) + t (i + (m + 1)) - 48 := rfl
      have e2 : p10 (m + 1 + 1) = 10 * p10 (m + 1) := rfl
      refine ⟨?_, by rw [e1]; omega, by rw [e1, e2]; omega⟩
      show (if 99999 < cf t i (m + 1) then cf t i (m + 1) else 10 * cf t i (m + 1) + t (i + (m + 1)) - 48) = _
      rw [i1, if_neg (by omega), e1]
theorem cf_big (h : ∀ j, i ≤ j → j < i + k → 48 ≤ t j ∧ t j ≤ 57) (h0 : t i ≠ 48) : ∀ m, 6 ≤ m → m ≤ k → 99999 < cf t i m ∧ cf t i m < 1000000 := by
  intro m
  induction m with
  | zero => intro h1; omega
  | succ m ih =>
    intro h6 hk
    by_cases hm : m = 5
    · subst hm
      obtain ⟨c1, c2, c3⟩ := cf_nv h 5 (by omega) (by omega) (by omega)
      have c4 := (p10_le 5 (by omega)).1
      have t0 := h i (by omega) (by omega)
      have t1 := h (i + 1) (by omega) (by omega)
      have t2 := h (i + 2) (by omega) (by omega)
      have t3 := h (i + 3) (by omega) (by omega)
      have t4 := h (i + 4) (by omega) (by omega)
      have t5 := h (i + 5) (by omega) (by omega)
      have hv : nv t i 5 ≥ 10000 := by
        show 10 * (10 * (10 * (10 * (10 * 0 + t (i + 0) - 48) + t (i + 1) - 48) + t (i + 2) - 48) + t (i + 3) - 48) + t (i + 4) - 48 ≥ 10000
        rw [Nat.add_zero]
        omega
      show 99999 < (if 99999 < cf t i 5 then cf t i 5 else 10 * cf t i 5 + t (i + 5) - 48) ∧ (if 99999 < cf t i 5 then cf t i 5 else 10 * cf t i 5 + t (i + 5) - 48) < 1000000
      rw [c1, if_neg (by omega)]
      omega
    · have ih2 := ih (by omega) (by omega)
      obtain ⟨m', rfl⟩ : ∃ m', m = m' + 1 := ⟨m - 1, by omega⟩
      show 99999 < (if 99999 < cf t i (m' + 1) then cf t i (m' + 1) else _) ∧ (if 99999 < cf t i (m' + 1) then cf t i (m' + 1) else _) < 1000000
      rw [if_pos ih2.1]
      exact ih2
theorem cf_rng (h : ∀ j, i ≤ j → j < i + k → 48 ≤ t j ∧ t j ≤ 57) : ∀ m, m ≤ k → 0 ≤ cf t i m ∧ cf t i m < 1000000 := by
  intro m
  induction m with
  | zero => intro _; show (0 : Int) ≤ 0 ∧ (0 : Int) < 1000000; omega
  | succ m ih =>
    intro hk
    cases m with
    | zero =>
      have := h i (by omega) (by omega)
      show 0 ≤ t i - 48 ∧ t i - 48 < 1000000
      omega
    | succ m =>
      have ih2 := ih (by omega)
      have ht := h (i + (m + 1)) (by omega) (by omega)
      show 0 ≤ (if 99999 < cf t i (m + 1) then cf t i (m + 1) else 10 * cf t i (m + 1) + t (i + (m + 1)) - 48) ∧ (if 99999 < cf t i (m + 1) then cf t i (m + 1) else 10 * cf t i (m + 1) + t (i + (m + 1)) - 48) < 1000000
      split <;> omega
theorem figs (h : isF (t i) = true) : 48 ≤ t i ∧ t i ≤ 57 := by unfold isF at h; simpa using h
theorem lp_figs {K : Mem → Option (Mem × Int)} : ∀ (m f : Nat) (k : Nat) (C : Mem), TxC C t n → C 4 3 = ((st + k : Nat) : Int) → n - (st + k) = m → st + k ≤ n → 1 ≤ k → (∀ j, st ≤ j → j < st + k → isF (t j) = true) → C 4 5 = cf t st k → m < f → f_X5_readFigures_15 K f C = K (up (up C 4 5 (cf t st (ad isF t n (st + k) - st))) 4 3 ((ad isF t n (st + k) : Nat) : Int))
  | _, 0 => by intros; omega
  | 0, f + 1 => by
    intro k C h h3 hm hk h1 hall h5 _
    have := h.2.1
    unfold f_X5_readFigures_15
    rw [h.1, h3, fLt (by omega), ad_n (by omega), show st + k - st = k by omega, up_id h5, up_id h3]
  | m + 1, f + 1 => by
    intro k C h h3 hm hk h1 hall h5 hf
    have hn := h.2.1
    have ht := (h.2.2 (st + k) (by omega)).2
    have hr := cf_rng (t := t) (i := st) (k := k) (fun j q1 q2 => figs (hall j q1 q2)) k (Nat.le_refl _)
    unfold f_X5_readFigures_15
    rw [h.1, h3, tLt (by omega), tc_at h (i := st + k) (by omega) rfl, bd_some, sp_isFig ht, bd_some, cEq_b]
    by_cases hb : isF (t (st + k)) = true
    · obtain ⟨k', rfl⟩ : ∃ k', k = k' + 1 := ⟨k - 1, by omega⟩
      have hall2 : ∀ j, st ≤ j → j < st + (k' + 1 + 1) → isF (t j) = true := by
        intro j q1 q2
        by_cases hj : j = st + (k' + 1)
        · rw [hj]; exact hb
        · exact hall j q1 (by omega)
      have hst : cf t st (k' + 1 + 1) = if 99999 < cf t st (k' + 1) then cf t st (k' + 1) else 10 * cf t st (k' + 1) + t (st + (k' + 1)) - 48 := rfl
      rw [if_pos hb, ad_y (by omega) hb, jn_eq, h5]
      by_cases hbig : 99999 < cf t st (k' + 1)
      · rw [if_pos hbig] at hst
        rw [tLt (by omega)]
        dsimp only
        rw [h3, lp_figs m f (k' + 1 + 1) (up C 4 3 (((st + (k' + 1) : Nat) : Int) + 1)) (TxC_u h (by omega)) (by rw [up_same]; omega) (by omega) (by omega) (by omega) hall2 (by rw [up_j (by omega), h5, hst]) (by omega), show st + (k' + 1 + 1) = st + (k' + 1) + 1 by omega, up_cm (b := 3) (b' := 5) (by omega), up_up]
      · rw [if_neg hbig] at hst
        rw [fLt (by omega), tc_at h (i := st + (k' + 1)) (by omega) h3, bd_some]
        dsimp only
        rw [up_j (by omega), h3, lp_figs m f (k' + 1 + 1) (up (up C 4 5 (10 * cf t st (k' + 1) + t (st + (k' + 1)) - 48)) 4 3 (((st + (k' + 1) : Nat) : Int) + 1)) (TxC_u (TxC_u h (by omega)) (by omega)) (by rw [up_same]; omega) (by omega) (by omega) (by omega) hall2 (by rw [up_j (by omega), up_same, hst]) (by omega), show st + (k' + 1 + 1) = st + (k' + 1) + 1 by omega, up_cm (b := 3) (b' := 5) (by omega), up_up, up_up]
    · rw [if_neg hb, ad_n (fun q => hb q.2), show st + k - st = k by omega, up_id h5, up_id h3]
/-- how many figures, and which number: what may be told by a token -/
def fo (t : Nat → Int) (n st : Nat) : Prop := 1 ≤ ad isF t n st - st ∧ ad isF t n st - st ≤ 5 ∧ ¬ (1 < ad isF t n st - st ∧ t st = 48)
/-- a token is read -/
theorem tc_tok (h : TxC C t n) (he : C 4 3 = (e : Int)) (hen : e ≤ n) : ∃ C', f_X5_readToken C = some (C', 0) ∧ TxC C' t n ∧ (∀ x y, x ≠ 4 → C' x y = C x y) ∧ C' 4 6 = C 4 6 ∧ C' 4 2 = ((ad isB t n e : Nat) : Int) ∧ ((n ≤ ad isB t n e ∧ C' 4 4 = 0 ∧ C' 4 3 = ((ad isB t n e : Nat) : Int)) ∨ (ad isB t n e < n ∧ ((isL (t (ad isB t n e)) = true ∧ C' 4 4 = 1 ∧ C' 4 3 = ((ad isL t n (ad isB t n e) : Nat) : Int)) ∨ (isF (t (ad isB t n e)) = true ∧ C' 4 3 = ((ad isF t n (ad isB t n e) : Nat) : Int) ∧ ((fo t n (ad isB t n e) ∧ C' 4 4 = 2 ∧ C' 4 5 = nv t (ad isB t n e) (ad isF t n (ad isB t n e) - ad isB t n e)) ∨ (¬ fo t n (ad isB t n e) ∧ C' 4 4 = 4))) ∨ (isL (t (ad isB t n e)) = false ∧ isF (t (ad isB t n e)) = false ∧ C' 4 3 = ((ad isB t n e + 1 : Nat) : Int) ∧ C' 4 4 = (if t (ad isB t n e) = 59 then 3 else 4))))) := by
  have hfu := FU_eq
  have hn := h.2.1
  have hge : e ≤ ad isB t n e := ad_ge
  have hle : ad isB t n e ≤ n := ad_le hen
  unfold f_X5_readToken
  rw [lp_skip (n - e) FU e (up C 4 2 (C 4 3)) (TxC_u h (by omega)) (by rw [up_same, he]) rfl hen (by omega), up_up]
  generalize hs : ad isB t n e = s at *
  have h1 : TxC (up C 4 2 (s : Int)) t n := TxC_u h (by omega)
  rw [up_same, h1.1]
  by_cases hend : s < n
  · have hts := (h.2.2 s hend).2
    have h2 : TxC (up (up C 4 2 (s : Int)) 4 3 ((s : Int) + 1)) t n := TxC_u h1 (by omega)
    rw [tLt (by omega), up_j (by omega), up_same, tc_at h2 hend rfl, bd_some, sp_isLet hts, bd_some, jn_eq, cEq_b]
    by_cases hL : isL (t s) = true
    · rw [if_pos hL, lp_lets (n - (s + 1)) FU (s + 1) _ (TxC_u h2 (by omega)) (by rw [up_j (by omega), up_same]; omega) rfl (by omega) (by omega), ← ad_y hend hL]
      refine ⟨_, rfl, TxC_u (TxC_u h2 (by omega)) (by omega), ?_, ?_, ?_, Or.inr ⟨hend, Or.inl ⟨hL, ?_, ?_⟩⟩⟩
      · intro x y hx; rw [up_k hx, up_k hx, up_k hx, up_k hx]
      · rw [up_j (by omega), up_j (by omega), up_j (by omega), up_j (by omega)]
      · rw [up_j (by omega), up_j (by omega), up_j (by omega), up_same]
      · rw [up_j (by omega), up_same]
      · rw [up_same]
    · rw [if_neg hL]
      dsimp only
      rw [up_j (by omega), up_same, tc_at h2 hend rfl, bd_some, sp_isFig hts, bd_some, cEq_b]
      by_cases hF : isF (t s) = true
      · rw [if_pos hF]
        unfold f_X5_readFigures
        rw [up_j (by omega), up_same, tc_at h2 hend rfl, bd_some]
        rw [lp_figs (st := s) (n - (s + 1)) FU 1 (up (up (up C 4 2 (s : Int)) 4 3 ((s : Int) + 1)) 4 5 (t s - 48)) (TxC_u h2 (by omega)) (by rw [up_j (by omega), up_same]; omega) rfl (by omega) (by omega) (fun j q1 q2 => by rw [show j = s by omega]; exact hF) (by rw [up_same]; rfl) (by omega), ← ad_y hend hF]
        have ha1 : s + 1 ≤ ad isF t n s := by rw [ad_y hend hF]; exact ad_ge
        have ha2 : ad isF t n s ≤ n := ad_le (by omega)
        have hall : ∀ j, s ≤ j → j < s + (ad isF t n s - s) → 48 ≤ t j ∧ t j ≤ 57 := fun j q1 q2 => figs (ad_in (n := n) q1 (by omega))
        have hcr := cf_rng hall (ad isF t n s - s) (Nat.le_refl _)
        generalize hE : ad isF t n s = E at *
        have h3 : TxC (up (up (up (up (up C 4 2 (s : Int)) 4 3 ((s : Int) + 1)) 4 5 (t s - 48)) 4 5 (cf t s (E - s))) 4 3 (E : Int)) t n := TxC_u (TxC_u (TxC_u h2 (by omega)) (by omega)) (by omega)
        have v2 : (up (up (up (up (up C 4 2 (s : Int)) 4 3 ((s : Int) + 1)) 4 5 (t s - 48)) 4 5 (cf t s (E - s))) 4 3 (E : Int)) 4 2 = (s : Int) := by rw [up_j (by omega), up_j (by omega), up_j (by omega), up_j (by omega), up_same]
        have v3 : (up (up (up (up (up C 4 2 (s : Int)) 4 3 ((s : Int) + 1)) 4 5 (t s - 48)) 4 5 (cf t s (E - s))) 4 3 (E : Int)) 4 3 = (E : Int) := up_same
        have v5 : (up (up (up (up (up C 4 2 (s : Int)) 4 3 ((s : Int) + 1)) 4 5 (t s - 48)) 4 5 (cf t s (E - s))) 4 3 (E : Int)) 4 5 = cf t s (E - s) := by rw [up_j (by omega), up_same]
        have v6 : (up (up (up (up (up C 4 2 (s : Int)) 4 3 ((s : Int) + 1)) 4 5 (t s - 48)) 4 5 (cf t s (E - s))) 4 3 (E : Int)) 4 6 = C 4 6 := by rw [up_j (by omega), up_j (by omega), up_j (by omega), up_j (by omega), up_j (by omega)]
        have vo : ∀ x y, x ≠ 4 → (up (up (up (up (up C 4 2 (s : Int)) 4 3 ((s : Int) + 1)) 4 5 (t s - 48)) 4 5 (cf t s (E - s))) 4 3 (E : Int)) x y = C x y := by
          intro x y hx; rw [up_k hx, up_k hx, up_k hx, up_k hx, up_k hx]
        generalize up (up (up (up (up C 4 2 (s : Int)) 4 3 ((s : Int) + 1)) 4 5 (t s - 48)) 4 5 (cf t s (E - s))) 4 3 (E : Int) = M at *
        rw [v2, tc_at h3 hend rfl, bd_some, jn_eq]
        dsimp only
        rw [jn_eq, v3, v5, v2]
        have wrong : ¬ fo t n s → ∃ C', some (up M 4 4 4, (0 : Int)) = some (C', 0) ∧ TxC C' t n ∧ (∀ x y, x ≠ 4 → C' x y = C x y) ∧ C' 4 6 = C 4 6 ∧ C' 4 2 = (s : Int) ∧ ((n ≤ s ∧ C' 4 4 = 0 ∧ C' 4 3 = (s : Int)) ∨ (s < n ∧ ((isL (t s) = true ∧ C' 4 4 = 1 ∧ C' 4 3 = ((ad isL t n s : Nat) : Int)) ∨ (isF (t s) = true ∧ C' 4 3 = (E : Int) ∧ ((fo t n s ∧ C' 4 4 = 2 ∧ C' 4 5 = nv t s (E - s)) ∨ (¬ fo t n s ∧ C' 4 4 = 4))) ∨ (isL (t s) = false ∧ isF (t s) = false ∧ C' 4 3 = ((s + 1 : Nat) : Int) ∧ C' 4 4 = (if t s = 59 then 3 else 4))))) := by
          intro hno
          refine ⟨_, rfl, TxC_u h3 (by omega), fun x y hx => by rw [up_k hx]; exact vo x y hx, by rw [up_j (by omega)]; exact v6, by rw [up_j (by omega)]; exact v2, Or.inr ⟨hend, Or.inr (Or.inl ⟨hF, by rw [up_j (by omega)]; exact v3, Or.inr ⟨hno, up_same⟩⟩)⟩⟩
        have right : fo t n s → cf t s (E - s) = nv t s (E - s) → ∃ C', some (up M 4 4 2, (0 : Int)) = some (C', 0) ∧ TxC C' t n ∧ (∀ x y, x ≠ 4 → C' x y = C x y) ∧ C' 4 6 = C 4 6 ∧ C' 4 2 = (s : Int) ∧ ((n ≤ s ∧ C' 4 4 = 0 ∧ C' 4 3 = (s : Int)) ∨ (s < n ∧ ((isL (t s) = true ∧ C' 4 4 = 1 ∧ C' 4 3 = ((ad isL t n s : Nat) : Int)) ∨ (isF (t s) = true ∧ C' 4 3 = (E : Int) ∧ ((fo t n s ∧ C' 4 4 = 2 ∧ C' 4 5 = nv t s (E - s)) ∨ (¬ fo t n s ∧ C' 4 4 = 4))) ∨ (isL (t s) = false ∧ isF (t s) = false ∧ C' 4 3 = ((s + 1 : Nat) : Int) ∧ C' 4 4 = (if t s = 59 then 3 else 4))))) := by
          intro hyes hcv
          refine ⟨_, rfl, TxC_u h3 (by omega), fun x y hx => by rw [up_k hx]; exact vo x y hx, by rw [up_j (by omega)]; exact v6, by rw [up_j (by omega)]; exact v2, Or.inr ⟨hend, Or.inr (Or.inl ⟨hF, by rw [up_j (by omega)]; exact v3, Or.inl ⟨hyes, up_same, by rw [up_j (by omega), v5]; exact hcv⟩⟩)⟩⟩
        have h48 := figs hF
        have hfo : fo t n s ↔ 1 ≤ E - s ∧ E - s ≤ 5 ∧ ¬ (1 < E - s ∧ t s = 48) := by unfold fo; rw [hE]
        by_cases hbig : 99999 < cf t s (E - s)
        · have hno : ¬ fo t n s := by
            intro hh
            have hh := hfo.mp hh
            obtain ⟨c1, c2, c3⟩ := cf_nv hall (E - s) (by omega) (Nat.le_refl _) hh.2.1
            have c4 := (p10_le (E - s) hh.2.1).1
            omega
          by_cases hz : t s = 48
          · rw [tEq (by omega)]
            by_cases hk : 1 < (E : Int) - (s : Int)
            · rw [tLt (by omega)]
              rw [tLt (by omega)]
              exact wrong hno
            · rw [fLt (by omega)]
              rw [tLt (by omega)]
              exact wrong hno
          · rw [fEq (by omega)]
            rw [tLt (by omega)]
            exact wrong hno
        · have hsm : E - s ≤ 5 ∨ t s = 48 := by
            by_cases hz : t s = 48
            · exact Or.inr hz
            · refine Or.inl ?_
              by_cases h5 : E - s ≤ 5
              · exact h5
              · exact absurd (cf_big hall hz (E - s) (by omega) (Nat.le_refl _)).1 hbig
          by_cases hz : t s = 48
          · rw [tEq (by omega)]
            by_cases hk : 1 < (E : Int) - (s : Int)
            · rw [tLt (by omega)]
              rw [fLt (by omega), fEq (by omega)]
              exact wrong (fun hh => (hfo.mp hh).2.2 ⟨by omega, hz⟩)
            · rw [fLt (by omega)]
              rw [fLt (by omega), tEq (by omega)]
              exact right (hfo.mpr ⟨by omega, by omega, fun hh => by omega⟩) (cf_nv hall (E - s) (by omega) (Nat.le_refl _) (by omega)).1
          · rw [fEq (by omega)]
            rw [fLt (by omega), tEq (by omega)]
            have h5 : E - s ≤ 5 := by
              rcases hsm with q | q
              · exact q
              · exact absurd q hz
            exact right (hfo.mpr ⟨by omega, h5, fun hh => hz hh.2⟩) (cf_nv hall (E - s) (by omega) (Nat.le_refl _) h5).1
      · have hL' : isL (t s) = false := by cases hq : isL (t s) with | true => exact absurd hq hL | false => rfl
        have hF' : isF (t s) = false := by cases hq : isF (t s) with | true => exact absurd hq hF | false => rfl
        rw [if_neg hF, up_j (by omega), up_same, tc_at h2 hend rfl, bd_some]
        have fin : ∀ q : Int, q = (if t s = 59 then 3 else 4) → ∃ C', some (up (up (up C 4 2 (s : Int)) 4 3 ((s : Int) + 1)) 4 4 q, (0 : Int)) = some (C', 0) ∧ TxC C' t n ∧ (∀ x y, x ≠ 4 → C' x y = C x y) ∧ C' 4 6 = C 4 6 ∧ C' 4 2 = (s : Int) ∧ ((n ≤ s ∧ C' 4 4 = 0 ∧ C' 4 3 = (s : Int)) ∨ (s < n ∧ ((isL (t s) = true ∧ C' 4 4 = 1 ∧ C' 4 3 = ((ad isL t n s : Nat) : Int)) ∨ (isF (t s) = true ∧ C' 4 3 = ((ad isF t n s : Nat) : Int) ∧ ((fo t n s ∧ C' 4 4 = 2 ∧ C' 4 5 = nv t s (ad isF t n s - s)) ∨ (¬ fo t n s ∧ C' 4 4 = 4))) ∨ (isL (t s) = false ∧ isF (t s) = false ∧ C' 4 3 = ((s + 1 : Nat) : Int) ∧ C' 4 4 = (if t s = 59 then 3 else 4))))) := by
          intro q hq
          refine ⟨_, rfl, TxC_u h2 (by omega), fun x y hx => by rw [up_k hx, up_k hx, up_k hx], by rw [up_j (by omega), up_j (by omega), up_j (by omega)], by rw [up_j (by omega), up_j (by omega), up_same], Or.inr ⟨hend, Or.inr (Or.inr ⟨hL', hF', by rw [up_j (by omega), up_same]; omega, by rw [up_same]; exact hq⟩)⟩⟩
        by_cases h59 : t s = 59
        · rw [tEq (by omega)]
          exact fin 3 (by rw [if_pos h59])
        · rw [fEq (by omega)]
          exact fin 4 (by rw [if_neg h59])
  · rw [fLt (by omega), up_j (by omega), up_same]
    exact ⟨_, rfl, TxC_u (TxC_u h1 (by omega)) (by omega), fun x y hx => by rw [up_k hx, up_k hx, up_k hx], by rw [up_j (by omega), up_j (by omega), up_j (by omega)], by rw [up_j (by omega), up_j (by omega), up_same], Or.inl ⟨by omega, by rw [up_j (by omega), up_same], up_same⟩⟩
end TX

/-! THE TREE: joining, sharing, the root goes. -/
def Good0 (P : Nat → Pg) (root L : Nat) (V : Nat → List Ent) (lvl : Nat → Nat) : Prop := Core P L V lvl ∧ V 0 = [([], (root : Int))] ∧ (∀ n, n + 1 < L → V (n + 1) = exp P (V n)) ∧ 1 ≤ L ∧ L ≤ 32 ∧ root < 32
section C2
variable {P P' : Nat → Pg} {L n t i j q root Ab : Nat} {V V' : Nat → List Ent} {lvl lvl' : Nat → Nat} {A B A1 B1 R S a b x y es le re ws : List Ent} {e f u v : Ent} {s s1 s2 s3 sA w : List Int} {r l l1 l2 z la ll lr sv : Int} {p pi pj pA : Pg}
/-- three pages: two neighbours and the one above them -/
theorem three (h : Core P L V lvl) (ht : t + 1 < L) (hv : V (t + 1) = A ++ (s1, (i : Int)) :: (s2, (j : Int)) :: B) (hA : (sA, (Ab : Int)) ∈ V t) : i < 32 ∧ j < 32 ∧ Ab < 32 ∧ i ≠ j ∧ i ≠ Ab ∧ j ≠ Ab ∧ lvl i = t + 1 ∧ lvl j = t + 1 ∧ lvl Ab = t ∧ (P Ab).1 = 2 ∧ (P i).1 = (if t + 2 = L then 1 else 2) ∧ (P j).1 = (if t + 2 = L then 1 else 2) := by
  have hi := Core_sort h (n := t + 1) (s := s1) (i := i) ht (by rw [hv]; simp)
  have hj := Core_sort h (n := t + 1) (s := s2) (i := j) ht (by rw [hv]; simp)
  have hb := Core_sort h (n := t) (s := sA) (i := Ab) (by omega) hA
  rw [if_neg (by omega)] at hb
  have hnd := h.2.2.1 (t + 1) ht
  rw [hv] at hnd
  have := nd_mid hnd (s2, (j : Int)) (by simp)
  have hij : i ≠ j := by
    intro heq; subst heq; exact this rfl
  refine ⟨hi.1, hj.1, hb.1, hij, ?_, ?_, hi.2.1, hj.2.1, hb.2.1, hb.2.2, hi.2.2, hj.2.2⟩
  · intro heq; subst heq; omega
  · intro heq; subst heq; omega
theorem core_join (h : Core P L V lvl) (ht : t + 1 < L) (hv : V (t + 1) = A ++ (s1, (i : Int)) :: (s2, (j : Int)) :: B) (hA : (sA, (Ab : Int)) ∈ V t) (hpi : POk pi) (hpi1 : pi.1 = (P i).1) (hpA : POk pA) (hpA1 : pA.1 = 2) (h6 : LkTo (uP (uP (uP P i pi) j (0, 0, [])) Ab pA) (uV V (t + 1) (A ++ (s1, (i : Int)) :: B) (L - 1)) 0) (h7 : (lfs (uP (uP (uP P i pi) j (0, 0, [])) Ab pA) (uV V (t + 1) (A ++ (s1, (i : Int)) :: B) (L - 1))).Pairwise lt2) : Core (uP (uP (uP P i pi) j (0, 0, [])) Ab pA) L (uV V (t + 1) (A ++ (s1, (i : Int)) :: B)) lvl := by
  obtain ⟨i32, j32, b32, hij, hib, hjb, li, lj, lb, sb, si, sj⟩ := three h ht hv hA
  have hfree : POk (0, 0, []) := ⟨(by intro e he; cases he), by show szs [] ≤ 61; rw [szs_nil]; omega, by show (0 : Int) ≤ 0 ∧ (0 : Int) ≤ 2; omega, by show (0 : Int) ≤ 0 ∧ (0 : Int) ≤ 255; omega⟩
  have hnd := h.2.2.1 (t + 1) ht
  have hv2 : V (t + 1) = (A ++ [(s1, (i : Int))]) ++ (s2, (j : Int)) :: B := by rw [hv]; simp
  have hnj : ∀ e ∈ A ++ (s1, (i : Int)) :: B, e.2 ≠ (j : Int) := by
    rw [hv2] at hnd
    have := nd_mid hnd
    intro e he
    exact this e (by simp at he ⊢; exact he)
  refine Core_mk (t := t + 1) h ht (TOk_u (TOk_u (TOk_u h.1 hpi) hfree) hpA) (fun n _ hn => uV_o hn) ?_ ?_ ?_ ?_ h6 h7
  · intro n hn hnt e he k hk hk32 hlk
    have k1 : k ≠ i := by intro heq; subst heq; omega
    have k2 : k ≠ j := by intro heq; subst heq; omega
    refine ⟨hlk, ?_⟩
    by_cases k3 : k = Ab
    · subst k3; rw [uP_s, hpA1, sb]
    · rw [uP_o k3, uP_o k2, uP_o k1]
  · intro e he
    rw [uV_s] at he
    have hnj2 := hnj e he
    have heV : e ∈ V (t + 1) := by
      rw [hv]; simp at he ⊢
      rcases he with he | he | he
      · exact Or.inl he
      · exact Or.inr (Or.inl he)
      · exact Or.inr (Or.inr (Or.inr he))
    obtain ⟨k, q1, q2, q3, q4⟩ := h.2.1 (t + 1) ht e heV
    have k3 : k ≠ Ab := by intro heq; subst heq; omega
    have k2 : k ≠ j := by intro heq; subst heq; exact hnj2 q1
    refine ⟨k, q1, q2, q3, ?_⟩
    rw [uP_o k3, uP_o k2]
    by_cases k1 : k = i
    · subst k1; rw [uP_s, hpi1]; exact q4
    · rw [uP_o k1]; exact q4
  · rw [uV_s]
    have := nd_sub (A := A ++ [(s1, (i : Int))]) (e := (s2, (j : Int))) (B := B) (by rw [hv2] at hnd; exact hnd)
    simpa using this
  · intro k hk hno
    have hno2 := hno (t + 1) ht
    rw [uV_s] at hno2
    have k3 : k ≠ Ab := by
      intro heq; subst heq
      have := hno t (by omega)
      rw [uV_o (by omega)] at this
      exact this _ hA rfl
    have k1 : k ≠ i := by
      intro heq; subst heq
      exact hno2 (s1, (k : Int)) (by simp) rfl
    rw [uP_o k3]
    by_cases k2 : k = j
    · subst k2; rw [uP_s]
    · rw [uP_o k2, uP_o k1]
      refine h.2.2.2.1 k hk ?_
      intro n hn e he
      by_cases hnt : n = t + 1
      · subst hnt
        rw [hv] at he
        simp at he
        rcases he with he | he | he | he
        · exact hno2 e (by simp; exact Or.inl he)
        · exact hno2 e (by simp; exact Or.inr (Or.inl he))
        · rw [he]
          intro hh
          exact k2 (by have hh : (j : Int) = (k : Int) := hh; omega)
        · exact hno2 e (by simp; exact Or.inr (Or.inr he))
      · have := hno n hn
        rw [uV_o hnt] at this
        exact this e he
theorem core_share (h : Core P L V lvl) (ht : t + 1 < L) (hv : V (t + 1) = A ++ (s1, (i : Int)) :: (s2, (j : Int)) :: B) (hA : (sA, (Ab : Int)) ∈ V t) (hpi : POk pi) (hpi1 : pi.1 = (P i).1) (hpj : POk pj) (hpj1 : pj.1 = (P j).1) (hpA : POk pA) (hpA1 : pA.1 = 2) (h6 : LkTo (uP (uP (uP P Ab pA) i pi) j pj) (uV V (t + 1) (A ++ (s1, (i : Int)) :: (s3, (j : Int)) :: B) (L - 1)) 0) (h7 : (lfs (uP (uP (uP P Ab pA) i pi) j pj) (uV V (t + 1) (A ++ (s1, (i : Int)) :: (s3, (j : Int)) :: B) (L - 1))).Pairwise lt2) : Core (uP (uP (uP P Ab pA) i pi) j pj) L (uV V (t + 1) (A ++ (s1, (i : Int)) :: (s3, (j : Int)) :: B)) lvl := by
  obtain ⟨i32, j32, b32, hij, hib, hjb, li, lj, lb, sb, si, sj⟩ := three h ht hv hA
  have hnd := h.2.2.1 (t + 1) ht
  have hmap : (A ++ (s1, (i : Int)) :: (s3, (j : Int)) :: B).map Prod.snd = (V (t + 1)).map Prod.snd := by rw [hv]; simp
  refine Core_mk (t := t + 1) h ht (TOk_u (TOk_u (TOk_u h.1 hpA) hpi) hpj) (fun n _ hn => uV_o hn) ?_ ?_ ?_ ?_ h6 h7
  · intro n hn hnt e he k hk hk32 hlk
    have k1 : k ≠ i := by intro heq; subst heq; omega
    have k2 : k ≠ j := by intro heq; subst heq; omega
    refine ⟨hlk, ?_⟩
    rw [uP_o k2, uP_o k1]
    by_cases k3 : k = Ab
    · subst k3; rw [uP_s, hpA1, sb]
    · rw [uP_o k3]
  · intro e he
    rw [uV_s] at he
    have : e.2 ∈ (V (t + 1)).map Prod.snd := by rw [← hmap]; exact List.mem_map.mpr ⟨e, he, rfl⟩
    obtain ⟨e', he', hee⟩ := List.mem_map.mp this
    obtain ⟨k, q1, q2, q3, q4⟩ := h.2.1 (t + 1) ht e' he'
    have k3 : k ≠ Ab := by intro heq; subst heq; omega
    refine ⟨k, by rw [← hee]; exact q1, q2, q3, ?_⟩
    by_cases k2 : k = j
    · subst k2; rw [uP_s, hpj1]; exact q4
    · rw [uP_o k2]
      by_cases k1 : k = i
      · subst k1; rw [uP_s, hpi1]; exact q4
      · rw [uP_o k1, uP_o k3]; exact q4
  · rw [uV_s, hmap]; exact hnd
  · intro k hk hno
    have hno2 := hno (t + 1) ht
    rw [uV_s] at hno2
    have k3 : k ≠ Ab := by
      intro heq; subst heq
      have := hno t (by omega)
      rw [uV_o (by omega)] at this
      exact this _ hA rfl
    have k1 : k ≠ i := by
      intro heq; subst heq
      exact hno2 (s1, (k : Int)) (by simp) rfl
    have k2 : k ≠ j := by
      intro heq; subst heq
      exact hno2 (s3, (k : Int)) (by simp) rfl
    rw [uP_o k2, uP_o k1, uP_o k3]
    refine h.2.2.2.1 k hk ?_
    intro n hn e he
    by_cases hnt : n = t + 1
    · subst hnt
      have : e.2 ∈ (A ++ (s1, (i : Int)) :: (s3, (j : Int)) :: B).map Prod.snd := by rw [hmap]; exact List.mem_map.mpr ⟨e, he, rfl⟩
      obtain ⟨e', he', hee⟩ := List.mem_map.mp this
      rw [← hee]
      exact hno2 e' he'
    · have := hno n hn
      rw [uV_o hnt] at this
      exact this e he
/-- the root goes, its only child is the root -/
theorem core_lower (h : Core P L V lvl) (hL : 1 < L) (h0 : V 0 = [([], (root : Int))]) : Core (uP P root (0, 0, [])) (L - 1) (fun n => V (n + 1)) (fun k => lvl k - 1) := by
  have hr := Core_sort h (n := 0) (i := root) (s := []) (by omega) (by rw [h0]; simp)
  have hne : ∀ n, n + 1 < L → ∀ e ∈ V (n + 1), e.2.toNat ≠ root := by
    intro n hn e he
    obtain ⟨k, q1, q2, q3, q4⟩ := h.2.1 (n + 1) hn e he
    intro heq
    have : k = root := by omega
    subst this
    omega
  have hfree : POk (0, 0, []) := ⟨(by intro e he; cases he), by show szs [] ≤ 61; rw [szs_nil]; omega, by show (0 : Int) ≤ 0 ∧ (0 : Int) ≤ 2; omega, by show (0 : Int) ≤ 0 ∧ (0 : Int) ≤ 255; omega⟩
  have hl1 : L - 1 - 1 + 1 = L - 1 := by omega
  refine ⟨TOk_u h.1 hfree, ?_, ?_, ?_, ?_, ?_⟩
  · intro n hn e he
    obtain ⟨k, q1, q2, q3, q4⟩ := h.2.1 (n + 1) (by omega) e he
    have k1 : k ≠ root := by have := hne n (by omega) e he; omega
    refine ⟨k, q1, q2, by show lvl k - 1 = n; omega, ?_⟩
    rw [uP_o k1, q4]
    by_cases hh : n + 1 + 1 = L
    · rw [if_pos hh, if_pos (by omega)]
    · rw [if_neg hh, if_neg (by omega)]
  · intro n hn
    exact h.2.2.1 (n + 1) (by omega)
  · intro k hk hno
    by_cases k1 : k = root
    · subst k1; rw [uP_s]
    · rw [uP_o k1]
      refine h.2.2.2.1 k hk ?_
      intro n hn e he
      cases n with
      | zero =>
        rw [h0] at he
        have := List.mem_singleton.mp he
        rw [this]
        intro hh
        exact k1 (by have hh : (root : Int) = (k : Int) := hh; omega)
      | succ n => exact hno n (by omega) e he
  · show LkTo _ (V (L - 1 - 1 + 1)) 0
    rw [hl1, LkTo_c (P := P) (fun e he => uP_o (hne (L - 2) (by omega) e (by rw [show L - 2 + 1 = L - 1 by omega]; exact he)))]
    exact h.2.2.2.2.1
  · show (lfs _ (V (L - 1 - 1 + 1))).Pairwise lt2
    rw [hl1, lfs_c (P := P) (fun e he => uP_o (hne (L - 2) (by omega) e (by rw [show L - 2 + 1 = L - 1 by omega]; exact he)))]
    exact h.2.2.2.2.2
/-- rows of pages that three changed pages leave as they were -/
theorem exp_3 (h : Core P L V lvl) {k1 k2 k3 : Nat} (hn : n < L) (h1 : lvl k1 ≠ n) (h2 : lvl k2 ≠ n) (h3 : lvl k3 ≠ n) {p1 p2 p3 : Pg} : ∀ e ∈ V n, uP (uP (uP P k1 p1) k2 p2) k3 p3 e.2.toNat = P e.2.toNat := by
  intro e he
  obtain ⟨k, q1, q2, q3, q4⟩ := h.2.1 n hn e he
  have e1 : e.2.toNat = k := by omega
  rw [e1, uP_o (by intro heq; subst heq; exact h3 q3), uP_o (by intro heq; subst heq; exact h2 q3), uP_o (by intro heq; subst heq; exact h1 q3)]
/-- .. of the level above: around the page there -/
theorem exp_up (h : Core P L V lvl) (hn : n < L) (hv : V n = A1 ++ (sA, (Ab : Int)) :: B1) {k1 k2 k3 : Nat} {p1 p2 p3 : Pg} (h1 : lvl k1 ≠ n ∨ k1 = Ab) (h2 : lvl k2 ≠ n ∨ k2 = Ab) (h3 : lvl k3 ≠ n ∨ k3 = Ab) : ∀ e ∈ A1 ++ B1, uP (uP (uP P k1 p1) k2 p2) k3 p3 e.2.toNat = P e.2.toNat := by
  intro e he
  have hnd := h.2.2.1 n hn
  rw [hv] at hnd
  have hne : e.2 ≠ (Ab : Int) := nd_mid hnd e he
  have heV : e ∈ V n := by rw [hv]; simp at he ⊢; rcases he with he | he; exact Or.inl he; exact Or.inr (Or.inr he)
  obtain ⟨k, q1, q2, q3, q4⟩ := h.2.1 n hn e heV
  have e1 : e.2.toNat = k := by omega
  have kk : ∀ c, (lvl c ≠ n ∨ c = Ab) → k ≠ c := by
    intro c hc heq
    subst heq
    rcases hc with hc | hc
    · exact hc q3
    · subst hc; exact hne q1
  rw [e1, uP_o (kk k3 h3), uP_o (kk k2 h2), uP_o (kk k1 h1)]
/-- .. of the neighbours' own level: around them -/
theorem exp_sd (h : Core P L V lvl) (hn : n < L) (hv : V n = A ++ (s1, (i : Int)) :: (s2, (j : Int)) :: B) {k1 k2 k3 : Nat} {p1 p2 p3 : Pg} (h1 : lvl k1 ≠ n ∨ k1 = i ∨ k1 = j) (h2 : lvl k2 ≠ n ∨ k2 = i ∨ k2 = j) (h3 : lvl k3 ≠ n ∨ k3 = i ∨ k3 = j) : ∀ e ∈ A ++ B, uP (uP (uP P k1 p1) k2 p2) k3 p3 e.2.toNat = P e.2.toNat := by
  intro e he
  have hnd := h.2.2.1 n hn
  rw [hv] at hnd
  have hnei : e.2 ≠ (i : Int) := nd_mid hnd e (by simp at he ⊢; rcases he with he | he; exact Or.inl he; exact Or.inr (Or.inr he))
  have hnej : e.2 ≠ (j : Int) := nd_mid (A := A ++ [(s1, (i : Int))]) (e := (s2, (j : Int))) (B := B) (by simpa using hnd) e (by simp at he ⊢; rcases he with he | he; exact Or.inl he; exact Or.inr (Or.inr he))
  have heV : e ∈ V n := by rw [hv]; simp at he ⊢; rcases he with he | he; exact Or.inl he; exact Or.inr (Or.inr (Or.inr he))
  obtain ⟨k, q1, q2, q3, q4⟩ := h.2.1 n hn e heV
  have e1 : e.2.toNat = k := by omega
  have kk : ∀ c, (lvl c ≠ n ∨ c = i ∨ c = j) → k ≠ c := by
    intro c hc heq
    subst heq
    rcases hc with hc | hc | hc
    · exact hc q3
    · subst hc; exact hnei q1
    · subst hc; exact hnej q1
  rw [e1, uP_o (kk k3 h3), uP_o (kk k2 h2), uP_o (kk k1 h1)]
end C2

/-! BEHIND THE CONSTRUCTORS: the cells made are the flat world of the first memory. -/
theorem arrV_cong {c : ClassId} {n : Nat} {f f' : Nat → Value} (h : ∀ j, j < n → f j = f' j) : arrV c n f = arrV c n f' := by
  unfold arrV
  congr 1
  congr 1
  funext j
  exact h j.val j.isLt
theorem cv_arrf {g : GT} {M : Mem} {k t n a : Nat} {f : Nat → Int32} {H : Heap} (hs : sh k = .inl (t, n)) (ht : t < 2) (hz : ∀ j, f j = I (M k j)) (h : va_at (gD g) vwCl (a, .inl (gC g t, n, .inl f)) H) : va_at (gD g) vwCl (a, cellAt g M k) H := by
  have e : f = fun j => I (M k j) := funext hz
  subst e
  rw [cellAt_a hs, av, if_pos ht]
  exact h
theorem cv_arr {g : GT} {M : Mem} {k t n a : Nat} {H : Heap} (hs : sh k = .inl (t, n)) (ht : t < 2) (hz : ∀ j, M k j = 0) (h : va_at (gD g) vwCl (a, .inl (gC g t, n, .inl (fun _ => 0))) H) : va_at (gD g) vwCl (a, cellAt g M k) H :=
  cv_arrf hs ht (fun j => by rw [hz j]; exact I_0) h
theorem cv_ref {g : GT} {M : Mem} {k t n a : Nat} {f : Nat → Option Nat} {H : Heap} (hs : sh k = .inl (t, n)) (ht : ¬ t < 2) (hz : ∀ j, j < n → f j = some (gA g (rb t + j))) (h : va_at (gD g) vwCl (a, .inl (gC g t, n, .inr (.inr (.inr (.inr f))))) H) : va_at (gD g) vwCl (a, cellAt g M k) H := by
  rw [cellAt_a hs, av, if_neg ht]
  show H[a]? = some (vp_cell _ _)
  have h1 : H[a]? = some (vp_cell _ _) := h
  rw [h1, vp_cell_q, vp_cell_q]
  congr 1
  exact arrV_cong (fun j hj => by rw [hz j hj])
theorem cv_obj {g : GT} {M : Mem} {k ci a : Nat} {fl : List (Option Nat)} {fs : List Value} {H : Heap} (hs : sh k = .inr (ci, fl)) (hf : fv g M k 0 fl = fs) (h : va_at (gD g) vwCl (a, .inr (ci, fs)) H) : va_at (gD g) vwCl (a, cellAt g M k) H := by
  rw [cellAt_o hs, hf]
  exact h
theorem conv_P {g : GT} {M : Mem} {ws : va_W} {H : Heap} (pos : Nat → Nat) (hp : ∀ k, k < 114 → ∃ e, ws[pos k]? = some (gA g k, e) ∧ (va_at (gD g) vwCl (gA g k, e) H → va_at (gD g) vwCl (gA g k, cellAt g M k) H)) (h : va_P (gD g) vwCl ws H) : va_P (gD g) vwCl (wsM g M) H := by
  intro k q hq
  have hk : k < 114 := by
    rcases Nat.lt_or_ge k 114 with h | h
    · exact h
    · rw [List.getElem?_eq_none (by rw [wsM_len]; omega)] at hq; cases hq
  rw [wsM_at hk] at hq
  cases hq
  obtain ⟨e, h1, h2⟩ := hp k hk
  exact h2 (h _ _ h1)
theorem conv_D {g : GT} {M : Mem} {ws : va_W} {A : Nat → Prop} (pos : Nat → Nat) (hp : ∀ k, k < 114 → ∃ e, ws[pos k]? = some (gA g k, e)) (hi : ∀ i j, i < 114 → j < 114 → pos i = pos j → i = j) (h : va_D A ws) : va_D A (wsM g M) := by
  have hh : ∀ (k : Nat) (q : Nat × va_E), (wsM g M)[k]? = some q → k < 114 ∧ q.1 = gA g k := by
    intro k q hq
    have hk : k < 114 := by
      rcases Nat.lt_or_ge k 114 with h | h
      · exact h
      · rw [List.getElem?_eq_none (by rw [wsM_len]; omega)] at hq; cases hq
    rw [wsM_at hk] at hq
    cases hq
    exact ⟨hk, rfl⟩
  refine ⟨fun i j p q hp1 hq1 e => ?_, fun k q hq => ?_⟩
  · obtain ⟨h1, h2⟩ := hh i p hp1
    obtain ⟨h3, h4⟩ := hh j q hq1
    obtain ⟨e1, g1⟩ := hp i h1
    obtain ⟨e2, g2⟩ := hp j h3
    exact hi i j h1 h3 (h.1 _ _ _ _ g1 g2 (by rw [h2, h4] at e; exact e))
  · obtain ⟨h1, h2⟩ := hh k q hq
    obtain ⟨e1, g1⟩ := hp k h1
    rw [h2]
    exact h.2 _ _ g1
def adF (a0 q1 t1 t2 t3 t4 t5 q2 q3 q4 q5 q6 q7 q8 q9 q10 q11 q12 q13 q14 q15 q16 q17 q18 q19 q20 q21 q22 q23 q24 q25 b0 m1 m2 m3 m4 m5 m6 m7 m8 m9 m10 m11 m12 m13 m14 m15 m16 m17 m18 : Nat) (A B : Nat → Nat) : Nat → Nat := fun k => match k with
  | 0 => a0
  | 1 => q1
  | 2 => q2
  | 3 => q9
  | 4 => q14
  | 5 => q19
  | 6 => q22
  | 7 => q24
  | 8 => q23
  | 9 => q25
  | 10 => q20
  | 11 => q21
  | 12 => q5
  | 13 => q6
  | 14 => q7
  | 15 => q8
  | 16 => q12
  | 17 => q13
  | 18 => q16
  | 19 => q17
  | 20 => t1
  | 21 => t4
  | 22 => t5
  | 23 => q10
  | 24 => q11
  | 25 => q15
  | 26 => q18
  | 27 => A 0
  | 28 => A 1
  | 29 => A 2
  | 30 => A 3
  | 31 => A 4
  | 32 => A 5
  | 33 => A 6
  | 34 => A 7
  | 35 => A 8
  | 36 => A 9
  | 37 => A 10
  | 38 => A 11
  | 39 => A 12
  | 40 => A 13
  | 41 => A 14
  | 42 => A 15
  | 43 => A 16
  | 44 => A 17
  | 45 => A 18
  | 46 => A 19
  | 47 => A 20
  | 48 => A 21
  | 49 => A 22
  | 50 => A 23
  | 51 => A 24
  | 52 => A 25
  | 53 => A 26
  | 54 => A 27
  | 55 => A 28
  | 56 => A 29
  | 57 => A 30
  | 58 => A 31
  | 59 => t2
  | 60 => q3
  | 61 => B 0
  | 62 => B 1
  | 63 => B 2
  | 64 => B 3
  | 65 => B 4
  | 66 => B 5
  | 67 => B 6
  | 68 => B 7
  | 69 => B 8
  | 70 => B 9
  | 71 => B 10
  | 72 => B 11
  | 73 => B 12
  | 74 => B 13
  | 75 => B 14
  | 76 => B 15
  | 77 => B 16
  | 78 => B 17
  | 79 => B 18
  | 80 => B 19
  | 81 => B 20
  | 82 => B 21
  | 83 => B 22
  | 84 => B 23
  | 85 => B 24
  | 86 => B 25
  | 87 => B 26
  | 88 => B 27
  | 89 => B 28
  | 90 => B 29
  | 91 => B 30
  | 92 => B 31
  | 93 => t3
  | 94 => q4
  | 95 => b0
  | 96 => m1
  | 97 => m2
  | 98 => m3
  | 99 => m4
  | 100 => m5
  | 101 => m6
  | 102 => m7
  | 103 => m8
  | 104 => m9
  | 105 => m10
  | 106 => m11
  | 107 => m12
  | 108 => m13
  | 109 => m14
  | 110 => m15
  | 111 => m16
  | 112 => m17
  | 113 => m18
  | _ => 0
def posL : List Nat := [70, 0, 71, 78, 83, 88, 91, 93, 92, 94, 89, 90, 74, 75, 76, 77, 81, 82, 85, 86, 1, 4, 5, 79, 80, 84, 87, 6, 8, 10, 12, 14, 16, 18, 20, 22, 24, 26, 28, 30, 32, 34, 36, 38, 40, 42, 44, 46, 48, 50, 52, 54, 56, 58, 60, 62, 64, 66, 68, 2, 72, 7, 9, 11, 13, 15, 17, 19, 21, 23, 25, 27, 29, 31, 33, 35, 37, 39, 41, 43, 45, 47, 49, 51, 53, 55, 57, 59, 61, 63, 65, 67, 69, 3, 73, 95, 96, 97, 98, 99, 100, 101, 102, 103, 104, 105, 106, 107, 108, 109, 110, 111, 112, 113]
theorem pos_inj : ∀ i j, i < 114 → j < 114 → posL.getD i 0 = posL.getD j 0 → i = j := by
  have h : ∀ i, i < 114 → ∀ j, j < 114 → posL.getD i 0 = posL.getD j 0 → i = j := by decide +kernel
  exact fun i j hi hj => h i hi j hj
abbrev wEnd (g : GT) (a0 q1 t1 t2 t3 t4 t5 q2 q3 q4 q5 q6 q7 q8 q9 q10 q11 q12 q13 q14 q15 q16 q17 q18 q19 q20 q21 q22 q23 q24 q25 b0 m1 m2 m3 m4 m5 m6 m7 m8 m9 m10 m11 m12 m13 m14 m15 m16 m17 m18 : Nat) (A B : Nat → Nat) : va_W := (([] ++ tlT g q1 t1 t2 t3 t4 t5 A B) ++ [(a0, .inr (7, [.ref q1, .ref q2, .ref q9, .ref q14, .ref q19, .ref q20])), (q2, .inr (0, [.ref q1, .ref q3, .ref q5, .ref q7, .int 0, .int 0, .int 0])), (q3, .inr (4, [.ref q4])), (q4, .inl (gC g 0, 256, .inl (fun _ => 0))), (q5, .inr (3, [.ref q6, .int 0])), (q6, .inl (gC g 0, 8, .inl (fun _ => 0))), (q7, .inr (3, [.ref q8, .int 0])), (q8, .inl (gC g 0, 8, .inl (fun _ => 0))), (q9, .inr (1, [.ref q1, .ref q10, .ref q11, .ref q12, .int 0])), (q10, .inl (gC g 1, 32, .inl (fun _ => 0))), (q11, .inl (gC g 0, 32, .inl (fun _ => 0))), (q12, .inr (3, [.ref q13, .int 0])), (q13, .inl (gC g 0, 8, .inl (fun _ => 0))), (q14, .inr (5, [.ref q15, .int 0, .int 0, .int 0, .int 0, .int 0, .int 0, .ref q16, .ref q18])), (q15, .inl (gC g 0, 120, .inl (fun _ => 0))), (q16, .inr (3, [.ref q17, .int 0])), (q17, .inl (gC g 0, 8, .inl (fun _ => 0))), (q18, .inl (gC g 0, 3, .inl (fun _ => 0))), (q19, .inl (gC g 2, 2, .inr (.inr (.inr (.inr (va_up (va_up (fun _ => none) 0 (some q22)) 1 (some q24))))))), (q20, .inr (3, [.ref q21, .int 0])), (q21, .inl (gC g 0, 8, .inl (fun _ => 0))), (q22, .inr (2, [.ref q23, .int 0, .int 0, .int 0])), (q23, .inl (gC g 0, 2048, .inl (fun _ => 0))), (q24, .inr (2, [.ref q25, .int 0, .int 0, .int 0])), (q25, .inl (gC g 0, 2048, .inl (fun _ => 0)))]) ++ [(b0, .inr (8, [.ref m1, .int 0, .int (I 1), .int 0, .int 0, .int 0, .int 0, .ref m2, .ref m3, .ref m4, .int 0, .ref m5, .int 0, .ref m6, .ref m7, .ref m8, .int 0, .int 0, .ref m9, .int 0, .ref m10, .ref m11, .ref m12, .ref m13, .int 0, .ref m14, .ref m15, .ref m16, .ref m17, .ref m18, .int 0, .int 0, .int 0, .int 0, .int 0])), (m1, .inl (gC g 0, 2048, .inl (upd (fun _ => 0) 0 ((I 1))))), (m2, .inl (gC g 0, 48, .inl (fun _ => 0))), (m3, .inl (gC g 0, 384, .inl (fun _ => 0))), (m4, .inl (gC g 0, 48, .inl (fun _ => 0))), (m5, .inl (gC g 0, 8, .inl (fun _ => 0))), (m6, .inl (gC g 0, 8, .inl (fun _ => 0))), (m7, .inl (gC g 0, 32, .inl (fun _ => 0))), (m8, .inl (gC g 0, 32, .inl (fun _ => 0))), (m9, .inl (gC g 1, 32, .inl (fun _ => 0))), (m10, .inl (gC g 0, 800, .inl (fun _ => 0))), (m11, .inl (gC g 0, 800, .inl (fun _ => 0))), (m12, .inl (gC g 0, 800, .inl (fun _ => 0))), (m13, .inl (gC g 0, 800, .inl (fun _ => 0))), (m14, .inl (gC g 0, 800, .inl (fun _ => 0))), (m15, .inl (gC g 0, 4096, .inl (fun _ => 0))), (m16, .inl (gC g 0, 2, .inl (fun _ => 0))), (m17, .inl (gC g 0, 2, .inl (fun _ => 0))), (m18, .inl (gC g 0, 120, .inl (fun _ => 0)))]
theorem ad_pg {a0 q1 t1 t2 t3 t4 t5 q2 q3 q4 q5 q6 q7 q8 q9 q10 q11 q12 q13 q14 q15 q16 q17 q18 q19 q20 q21 q22 q23 q24 q25 b0 m1 m2 m3 m4 m5 m6 m7 m8 m9 m10 m11 m12 m13 m14 m15 m16 m17 m18 : Nat} {A B : Nat → Nat} {j : Nat} (h : j < 32) : fA A 32 j = some (adF a0 q1 t1 t2 t3 t4 t5 q2 q3 q4 q5 q6 q7 q8 q9 q10 q11 q12 q13 q14 q15 q16 q17 q18 q19 q20 q21 q22 q23 q24 q25 b0 m1 m2 m3 m4 m5 m6 m7 m8 m9 m10 m11 m12 m13 m14 m15 m16 m17 m18 A B (27 + j)) := by
  have e : ∀ j, j < 32 → adF a0 q1 t1 t2 t3 t4 t5 q2 q3 q4 q5 q6 q7 q8 q9 q10 q11 q12 q13 q14 q15 q16 q17 q18 q19 q20 q21 q22 q23 q24 q25 b0 m1 m2 m3 m4 m5 m6 m7 m8 m9 m10 m11 m12 m13 m14 m15 m16 m17 m18 A B (27 + j) = A j := by
    intro j hj
    match j, hj with
    | 0, _ => rfl
    | 1, _ => rfl
    | 2, _ => rfl
    | 3, _ => rfl
    | 4, _ => rfl
    | 5, _ => rfl
    | 6, _ => rfl
    | 7, _ => rfl
    | 8, _ => rfl
    | 9, _ => rfl
    | 10, _ => rfl
    | 11, _ => rfl
    | 12, _ => rfl
    | 13, _ => rfl
    | 14, _ => rfl
    | 15, _ => rfl
    | 16, _ => rfl
    | 17, _ => rfl
    | 18, _ => rfl
    | 19, _ => rfl
    | 20, _ => rfl
    | 21, _ => rfl
    | 22, _ => rfl
    | 23, _ => rfl
    | 24, _ => rfl
    | 25, _ => rfl
    | 26, _ => rfl
    | 27, _ => rfl
    | 28, _ => rfl
    | 29, _ => rfl
    | 30, _ => rfl
    | 31, _ => rfl
    | j + 32, hj => exact absurd hj (by omega)
  unfold fA; rw [if_pos h, e j h]
theorem fv_0 {g : GT} {a0 q1 t1 t2 t3 t4 t5 q2 q3 q4 q5 q6 q7 q8 q9 q10 q11 q12 q13 q14 q15 q16 q17 q18 q19 q20 q21 q22 q23 q24 q25 b0 m1 m2 m3 m4 m5 m6 m7 m8 m9 m10 m11 m12 m13 m14 m15 m16 m17 m18 : Nat} {A B : Nat → Nat} (hg : gA g = adF a0 q1 t1 t2 t3 t4 t5 q2 q3 q4 q5 q6 q7 q8 q9 q10 q11 q12 q13 q14 q15 q16 q17 q18 q19 q20 q21 q22 q23 q24 q25 b0 m1 m2 m3 m4 m5 m6 m7 m8 m9 m10 m11 m12 m13 m14 m15 m16 m17 m18 A B) : fv g (mrg C0 X0) 0 0 [some 1, some 2, some 3, some 4, some 5, some (10 + 2 * 0)] = [.ref q1, .ref q2, .ref q9, .ref q14, .ref q19, .ref q20] := by
  simp only [fv, hg]; rfl
theorem fv_1 {g : GT} {a0 q1 t1 t2 t3 t4 t5 q2 q3 q4 q5 q6 q7 q8 q9 q10 q11 q12 q13 q14 q15 q16 q17 q18 q19 q20 q21 q22 q23 q24 q25 b0 m1 m2 m3 m4 m5 m6 m7 m8 m9 m10 m11 m12 m13 m14 m15 m16 m17 m18 : Nat} {A B : Nat → Nat} (hg : gA g = adF a0 q1 t1 t2 t3 t4 t5 q2 q3 q4 q5 q6 q7 q8 q9 q10 q11 q12 q13 q14 q15 q16 q17 q18 q19 q20 q21 q22 q23 q24 q25 b0 m1 m2 m3 m4 m5 m6 m7 m8 m9 m10 m11 m12 m13 m14 m15 m16 m17 m18 A B) : fv g (mrg C0 X0) 1 0 [some 20, some (27 + 32), some 21, some 22, none, none] = [.ref t1, .ref t2, .ref t4, .ref t5, .int 0, .int (I 1)] := by
  simp only [fv, hg]; rfl
theorem fv_2 {g : GT} {a0 q1 t1 t2 t3 t4 t5 q2 q3 q4 q5 q6 q7 q8 q9 q10 q11 q12 q13 q14 q15 q16 q17 q18 q19 q20 q21 q22 q23 q24 q25 b0 m1 m2 m3 m4 m5 m6 m7 m8 m9 m10 m11 m12 m13 m14 m15 m16 m17 m18 : Nat} {A B : Nat → Nat} (hg : gA g = adF a0 q1 t1 t2 t3 t4 t5 q2 q3 q4 q5 q6 q7 q8 q9 q10 q11 q12 q13 q14 q15 q16 q17 q18 q19 q20 q21 q22 q23 q24 q25 b0 m1 m2 m3 m4 m5 m6 m7 m8 m9 m10 m11 m12 m13 m14 m15 m16 m17 m18 A B) : fv g (mrg C0 X0) 2 0 [some 1, some (27 + 33), some (10 + 2 * 1), some (10 + 2 * 2), none, none, none] = [.ref q1, .ref q3, .ref q5, .ref q7, .int 0, .int 0, .int 0] := by
  simp only [fv, hg]; rfl
theorem fv_3 {g : GT} {a0 q1 t1 t2 t3 t4 t5 q2 q3 q4 q5 q6 q7 q8 q9 q10 q11 q12 q13 q14 q15 q16 q17 q18 q19 q20 q21 q22 q23 q24 q25 b0 m1 m2 m3 m4 m5 m6 m7 m8 m9 m10 m11 m12 m13 m14 m15 m16 m17 m18 : Nat} {A B : Nat → Nat} (hg : gA g = adF a0 q1 t1 t2 t3 t4 t5 q2 q3 q4 q5 q6 q7 q8 q9 q10 q11 q12 q13 q14 q15 q16 q17 q18 q19 q20 q21 q22 q23 q24 q25 b0 m1 m2 m3 m4 m5 m6 m7 m8 m9 m10 m11 m12 m13 m14 m15 m16 m17 m18 A B) : fv g (mrg C0 X0) 3 0 [some 1, some 23, some 24, some (10 + 2 * 3), none] = [.ref q1, .ref q10, .ref q11, .ref q12, .int 0] := by
  simp only [fv, hg]; rfl
theorem fv_4 {g : GT} {a0 q1 t1 t2 t3 t4 t5 q2 q3 q4 q5 q6 q7 q8 q9 q10 q11 q12 q13 q14 q15 q16 q17 q18 q19 q20 q21 q22 q23 q24 q25 b0 m1 m2 m3 m4 m5 m6 m7 m8 m9 m10 m11 m12 m13 m14 m15 m16 m17 m18 : Nat} {A B : Nat → Nat} (hg : gA g = adF a0 q1 t1 t2 t3 t4 t5 q2 q3 q4 q5 q6 q7 q8 q9 q10 q11 q12 q13 q14 q15 q16 q17 q18 q19 q20 q21 q22 q23 q24 q25 b0 m1 m2 m3 m4 m5 m6 m7 m8 m9 m10 m11 m12 m13 m14 m15 m16 m17 m18 A B) : fv g (mrg C0 X0) 4 0 [some 25, none, none, none, none, none, none, some (10 + 2 * 4), some 26] = [.ref q15, .int 0, .int 0, .int 0, .int 0, .int 0, .int 0, .ref q16, .ref q18] := by
  simp only [fv, hg]; rfl
theorem fv_6 {g : GT} {a0 q1 t1 t2 t3 t4 t5 q2 q3 q4 q5 q6 q7 q8 q9 q10 q11 q12 q13 q14 q15 q16 q17 q18 q19 q20 q21 q22 q23 q24 q25 b0 m1 m2 m3 m4 m5 m6 m7 m8 m9 m10 m11 m12 m13 m14 m15 m16 m17 m18 : Nat} {A B : Nat → Nat} (hg : gA g = adF a0 q1 t1 t2 t3 t4 t5 q2 q3 q4 q5 q6 q7 q8 q9 q10 q11 q12 q13 q14 q15 q16 q17 q18 q19 q20 q21 q22 q23 q24 q25 b0 m1 m2 m3 m4 m5 m6 m7 m8 m9 m10 m11 m12 m13 m14 m15 m16 m17 m18 A B) : fv g (mrg C0 X0) 6 0 [some 8, none, none, none] = [.ref q23, .int 0, .int 0, .int 0] := by
  simp only [fv, hg]; rfl
theorem fv_7 {g : GT} {a0 q1 t1 t2 t3 t4 t5 q2 q3 q4 q5 q6 q7 q8 q9 q10 q11 q12 q13 q14 q15 q16 q17 q18 q19 q20 q21 q22 q23 q24 q25 b0 m1 m2 m3 m4 m5 m6 m7 m8 m9 m10 m11 m12 m13 m14 m15 m16 m17 m18 : Nat} {A B : Nat → Nat} (hg : gA g = adF a0 q1 t1 t2 t3 t4 t5 q2 q3 q4 q5 q6 q7 q8 q9 q10 q11 q12 q13 q14 q15 q16 q17 q18 q19 q20 q21 q22 q23 q24 q25 b0 m1 m2 m3 m4 m5 m6 m7 m8 m9 m10 m11 m12 m13 m14 m15 m16 m17 m18 A B) : fv g (mrg C0 X0) 7 0 [some 9, none, none, none] = [.ref q25, .int 0, .int 0, .int 0] := by
  simp only [fv, hg]; rfl
theorem fv_10 {g : GT} {a0 q1 t1 t2 t3 t4 t5 q2 q3 q4 q5 q6 q7 q8 q9 q10 q11 q12 q13 q14 q15 q16 q17 q18 q19 q20 q21 q22 q23 q24 q25 b0 m1 m2 m3 m4 m5 m6 m7 m8 m9 m10 m11 m12 m13 m14 m15 m16 m17 m18 : Nat} {A B : Nat → Nat} (hg : gA g = adF a0 q1 t1 t2 t3 t4 t5 q2 q3 q4 q5 q6 q7 q8 q9 q10 q11 q12 q13 q14 q15 q16 q17 q18 q19 q20 q21 q22 q23 q24 q25 b0 m1 m2 m3 m4 m5 m6 m7 m8 m9 m10 m11 m12 m13 m14 m15 m16 m17 m18 A B) : fv g (mrg C0 X0) 10 0 [some 11, none] = [.ref q21, .int 0] := by
  simp only [fv, hg]; rfl
theorem fv_12 {g : GT} {a0 q1 t1 t2 t3 t4 t5 q2 q3 q4 q5 q6 q7 q8 q9 q10 q11 q12 q13 q14 q15 q16 q17 q18 q19 q20 q21 q22 q23 q24 q25 b0 m1 m2 m3 m4 m5 m6 m7 m8 m9 m10 m11 m12 m13 m14 m15 m16 m17 m18 : Nat} {A B : Nat → Nat} (hg : gA g = adF a0 q1 t1 t2 t3 t4 t5 q2 q3 q4 q5 q6 q7 q8 q9 q10 q11 q12 q13 q14 q15 q16 q17 q18 q19 q20 q21 q22 q23 q24 q25 b0 m1 m2 m3 m4 m5 m6 m7 m8 m9 m10 m11 m12 m13 m14 m15 m16 m17 m18 A B) : fv g (mrg C0 X0) 12 0 [some 13, none] = [.ref q6, .int 0] := by
  simp only [fv, hg]; rfl
theorem fv_14 {g : GT} {a0 q1 t1 t2 t3 t4 t5 q2 q3 q4 q5 q6 q7 q8 q9 q10 q11 q12 q13 q14 q15 q16 q17 q18 q19 q20 q21 q22 q23 q24 q25 b0 m1 m2 m3 m4 m5 m6 m7 m8 m9 m10 m11 m12 m13 m14 m15 m16 m17 m18 : Nat} {A B : Nat → Nat} (hg : gA g = adF a0 q1 t1 t2 t3 t4 t5 q2 q3 q4 q5 q6 q7 q8 q9 q10 q11 q12 q13 q14 q15 q16 q17 q18 q19 q20 q21 q22 q23 q24 q25 b0 m1 m2 m3 m4 m5 m6 m7 m8 m9 m10 m11 m12 m13 m14 m15 m16 m17 m18 A B) : fv g (mrg C0 X0) 14 0 [some 15, none] = [.ref q8, .int 0] := by
  simp only [fv, hg]; rfl
theorem fv_16 {g : GT} {a0 q1 t1 t2 t3 t4 t5 q2 q3 q4 q5 q6 q7 q8 q9 q10 q11 q12 q13 q14 q15 q16 q17 q18 q19 q20 q21 q22 q23 q24 q25 b0 m1 m2 m3 m4 m5 m6 m7 m8 m9 m10 m11 m12 m13 m14 m15 m16 m17 m18 : Nat} {A B : Nat → Nat} (hg : gA g = adF a0 q1 t1 t2 t3 t4 t5 q2 q3 q4 q5 q6 q7 q8 q9 q10 q11 q12 q13 q14 q15 q16 q17 q18 q19 q20 q21 q22 q23 q24 q25 b0 m1 m2 m3 m4 m5 m6 m7 m8 m9 m10 m11 m12 m13 m14 m15 m16 m17 m18 A B) : fv g (mrg C0 X0) 16 0 [some 17, none] = [.ref q13, .int 0] := by
  simp only [fv, hg]; rfl
theorem fv_18 {g : GT} {a0 q1 t1 t2 t3 t4 t5 q2 q3 q4 q5 q6 q7 q8 q9 q10 q11 q12 q13 q14 q15 q16 q17 q18 q19 q20 q21 q22 q23 q24 q25 b0 m1 m2 m3 m4 m5 m6 m7 m8 m9 m10 m11 m12 m13 m14 m15 m16 m17 m18 : Nat} {A B : Nat → Nat} (hg : gA g = adF a0 q1 t1 t2 t3 t4 t5 q2 q3 q4 q5 q6 q7 q8 q9 q10 q11 q12 q13 q14 q15 q16 q17 q18 q19 q20 q21 q22 q23 q24 q25 b0 m1 m2 m3 m4 m5 m6 m7 m8 m9 m10 m11 m12 m13 m14 m15 m16 m17 m18 A B) : fv g (mrg C0 X0) 18 0 [some 19, none] = [.ref q17, .int 0] := by
  simp only [fv, hg]; rfl
theorem fv_27 {g : GT} {a0 q1 t1 t2 t3 t4 t5 q2 q3 q4 q5 q6 q7 q8 q9 q10 q11 q12 q13 q14 q15 q16 q17 q18 q19 q20 q21 q22 q23 q24 q25 b0 m1 m2 m3 m4 m5 m6 m7 m8 m9 m10 m11 m12 m13 m14 m15 m16 m17 m18 : Nat} {A B : Nat → Nat} (hg : gA g = adF a0 q1 t1 t2 t3 t4 t5 q2 q3 q4 q5 q6 q7 q8 q9 q10 q11 q12 q13 q14 q15 q16 q17 q18 q19 q20 q21 q22 q23 q24 q25 b0 m1 m2 m3 m4 m5 m6 m7 m8 m9 m10 m11 m12 m13 m14 m15 m16 m17 m18 A B) : fv g (mrg C0 X0) 27 0 [some (61 + 0)] = [.ref (B 0)] := by
  simp only [fv, hg]; rfl
theorem fv_28 {g : GT} {a0 q1 t1 t2 t3 t4 t5 q2 q3 q4 q5 q6 q7 q8 q9 q10 q11 q12 q13 q14 q15 q16 q17 q18 q19 q20 q21 q22 q23 q24 q25 b0 m1 m2 m3 m4 m5 m6 m7 m8 m9 m10 m11 m12 m13 m14 m15 m16 m17 m18 : Nat} {A B : Nat → Nat} (hg : gA g = adF a0 q1 t1 t2 t3 t4 t5 q2 q3 q4 q5 q6 q7 q8 q9 q10 q11 q12 q13 q14 q15 q16 q17 q18 q19 q20 q21 q22 q23 q24 q25 b0 m1 m2 m3 m4 m5 m6 m7 m8 m9 m10 m11 m12 m13 m14 m15 m16 m17 m18 A B) : fv g (mrg C0 X0) 28 0 [some (61 + 1)] = [.ref (B 1)] := by
  simp only [fv, hg]; rfl
theorem fv_29 {g : GT} {a0 q1 t1 t2 t3 t4 t5 q2 q3 q4 q5 q6 q7 q8 q9 q10 q11 q12 q13 q14 q15 q16 q17 q18 q19 q20 q21 q22 q23 q24 q25 b0 m1 m2 m3 m4 m5 m6 m7 m8 m9 m10 m11 m12 m13 m14 m15 m16 m17 m18 : Nat} {A B : Nat → Nat} (hg : gA g = adF a0 q1 t1 t2 t3 t4 t5 q2 q3 q4 q5 q6 q7 q8 q9 q10 q11 q12 q13 q14 q15 q16 q17 q18 q19 q20 q21 q22 q23 q24 q25 b0 m1 m2 m3 m4 m5 m6 m7 m8 m9 m10 m11 m12 m13 m14 m15 m16 m17 m18 A B) : fv g (mrg C0 X0) 29 0 [some (61 + 2)] = [.ref (B 2)] := by
  simp only [fv, hg]; rfl
theorem fv_30 {g : GT} {a0 q1 t1 t2 t3 t4 t5 q2 q3 q4 q5 q6 q7 q8 q9 q10 q11 q12 q13 q14 q15 q16 q17 q18 q19 q20 q21 q22 q23 q24 q25 b0 m1 m2 m3 m4 m5 m6 m7 m8 m9 m10 m11 m12 m13 m14 m15 m16 m17 m18 : Nat} {A B : Nat → Nat} (hg : gA g = adF a0 q1 t1 t2 t3 t4 t5 q2 q3 q4 q5 q6 q7 q8 q9 q10 q11 q12 q13 q14 q15 q16 q17 q18 q19 q20 q21 q22 q23 q24 q25 b0 m1 m2 m3 m4 m5 m6 m7 m8 m9 m10 m11 m12 m13 m14 m15 m16 m17 m18 A B) : fv g (mrg C0 X0) 30 0 [some (61 + 3)] = [.ref (B 3)] := by
  simp only [fv, hg]; rfl
theorem fv_31 {g : GT} {a0 q1 t1 t2 t3 t4 t5 q2 q3 q4 q5 q6 q7 q8 q9 q10 q11 q12 q13 q14 q15 q16 q17 q18 q19 q20 q21 q22 q23 q24 q25 b0 m1 m2 m3 m4 m5 m6 m7 m8 m9 m10 m11 m12 m13 m14 m15 m16 m17 m18 : Nat} {A B : Nat → Nat} (hg : gA g = adF a0 q1 t1 t2 t3 t4 t5 q2 q3 q4 q5 q6 q7 q8 q9 q10 q11 q12 q13 q14 q15 q16 q17 q18 q19 q20 q21 q22 q23 q24 q25 b0 m1 m2 m3 m4 m5 m6 m7 m8 m9 m10 m11 m12 m13 m14 m15 m16 m17 m18 A B) : fv g (mrg C0 X0) 31 0 [some (61 + 4)] = [.ref (B 4)] := by
  simp only [fv, hg]; rfl
theorem fv_32 {g : GT} {a0 q1 t1 t2 t3 t4 t5 q2 q3 q4 q5 q6 q7 q8 q9 q10 q11 q12 q13 q14 q15 q16 q17 q18 q19 q20 q21 q22 q23 q24 q25 b0 m1 m2 m3 m4 m5 m6 m7 m8 m9 m10 m11 m12 m13 m14 m15 m16 m17 m18 : Nat} {A B : Nat → Nat} (hg : gA g = adF a0 q1 t1 t2 t3 t4 t5 q2 q3 q4 q5 q6 q7 q8 q9 q10 q11 q12 q13 q14 q15 q16 q17 q18 q19 q20 q21 q22 q23 q24 q25 b0 m1 m2 m3 m4 m5 m6 m7 m8 m9 m10 m11 m12 m13 m14 m15 m16 m17 m18 A B) : fv g (mrg C0 X0) 32 0 [some (61 + 5)] = [.ref (B 5)] := by
  simp only [fv, hg]; rfl
theorem fv_33 {g : GT} {a0 q1 t1 t2 t3 t4 t5 q2 q3 q4 q5 q6 q7 q8 q9 q10 q11 q12 q13 q14 q15 q16 q17 q18 q19 q20 q21 q22 q23 q24 q25 b0 m1 m2 m3 m4 m5 m6 m7 m8 m9 m10 m11 m12 m13 m14 m15 m16 m17 m18 : Nat} {A B : Nat → Nat} (hg : gA g = adF a0 q1 t1 t2 t3 t4 t5 q2 q3 q4 q5 q6 q7 q8 q9 q10 q11 q12 q13 q14 q15 q16 q17 q18 q19 q20 q21 q22 q23 q24 q25 b0 m1 m2 m3 m4 m5 m6 m7 m8 m9 m10 m11 m12 m13 m14 m15 m16 m17 m18 A B) : fv g (mrg C0 X0) 33 0 [some (61 + 6)] = [.ref (B 6)] := by
  simp only [fv, hg]; rfl
theorem fv_34 {g : GT} {a0 q1 t1 t2 t3 t4 t5 q2 q3 q4 q5 q6 q7 q8 q9 q10 q11 q12 q13 q14 q15 q16 q17 q18 q19 q20 q21 q22 q23 q24 q25 b0 m1 m2 m3 m4 m5 m6 m7 m8 m9 m10 m11 m12 m13 m14 m15 m16 m17 m18 : Nat} {A B : Nat → Nat} (hg : gA g = adF a0 q1 t1 t2 t3 t4 t5 q2 q3 q4 q5 q6 q7 q8 q9 q10 q11 q12 q13 q14 q15 q16 q17 q18 q19 q20 q21 q22 q23 q24 q25 b0 m1 m2 m3 m4 m5 m6 m7 m8 m9 m10 m11 m12 m13 m14 m15 m16 m17 m18 A B) : fv g (mrg C0 X0) 34 0 [some (61 + 7)] = [.ref (B 7)] := by
  simp only [fv, hg]; rfl
theorem fv_35 {g : GT} {a0 q1 t1 t2 t3 t4 t5 q2 q3 q4 q5 q6 q7 q8 q9 q10 q11 q12 q13 q14 q15 q16 q17 q18 q19 q20 q21 q22 q23 q24 q25 b0 m1 m2 m3 m4 m5 m6 m7 m8 m9 m10 m11 m12 m13 m14 m15 m16 m17 m18 : Nat} {A B : Nat → Nat} (hg : gA g = adF a0 q1 t1 t2 t3 t4 t5 q2 q3 q4 q5 q6 q7 q8 q9 q10 q11 q12 q13 q14 q15 q16 q17 q18 q19 q20 q21 q22 q23 q24 q25 b0 m1 m2 m3 m4 m5 m6 m7 m8 m9 m10 m11 m12 m13 m14 m15 m16 m17 m18 A B) : fv g (mrg C0 X0) 35 0 [some (61 + 8)] = [.ref (B 8)] := by
  simp only [fv, hg]; rfl
theorem fv_36 {g : GT} {a0 q1 t1 t2 t3 t4 t5 q2 q3 q4 q5 q6 q7 q8 q9 q10 q11 q12 q13 q14 q15 q16 q17 q18 q19 q20 q21 q22 q23 q24 q25 b0 m1 m2 m3 m4 m5 m6 m7 m8 m9 m10 m11 m12 m13 m14 m15 m16 m17 m18 : Nat} {A B : Nat → Nat} (hg : gA g = adF a0 q1 t1 t2 t3 t4 t5 q2 q3 q4 q5 q6 q7 q8 q9 q10 q11 q12 q13 q14 q15 q16 q17 q18 q19 q20 q21 q22 q23 q24 q25 b0 m1 m2 m3 m4 m5 m6 m7 m8 m9 m10 m11 m12 m13 m14 m15 m16 m17 m18 A B) : fv g (mrg C0 X0) 36 0 [some (61 + 9)] = [.ref (B 9)] := by
  simp only [fv, hg]; rfl
theorem fv_37 {g : GT} {a0 q1 t1 t2 t3 t4 t5 q2 q3 q4 q5 q6 q7 q8 q9 q10 q11 q12 q13 q14 q15 q16 q17 q18 q19 q20 q21 q22 q23 q24 q25 b0 m1 m2 m3 m4 m5 m6 m7 m8 m9 m10 m11 m12 m13 m14 m15 m16 m17 m18 : Nat} {A B : Nat → Nat} (hg : gA g = adF a0 q1 t1 t2 t3 t4 t5 q2 q3 q4 q5 q6 q7 q8 q9 q10 q11 q12 q13 q14 q15 q16 q17 q18 q19 q20 q21 q22 q23 q24 q25 b0 m1 m2 m3 m4 m5 m6 m7 m8 m9 m10 m11 m12 m13 m14 m15 m16 m17 m18 A B) : fv g (mrg C0 X0) 37 0 [some (61 + 10)] = [.ref (B 10)] := by
  simp only [fv, hg]; rfl
theorem fv_38 {g : GT} {a0 q1 t1 t2 t3 t4 t5 q2 q3 q4 q5 q6 q7 q8 q9 q10 q11 q12 q13 q14 q15 q16 q17 q18 q19 q20 q21 q22 q23 q24 q25 b0 m1 m2 m3 m4 m5 m6 m7 m8 m9 m10 m11 m12 m13 m14 m15 m16 m17 m18 : Nat} {A B : Nat → Nat} (hg : gA g = adF a0 q1 t1 t2 t3 t4 t5 q2 q3 q4 q5 q6 q7 q8 q9 q10 q11 q12 q13 q14 q15 q16 q17 q18 q19 q20 q21 q22 q23 q24 q25 b0 m1 m2 m3 m4 m5 m6 m7 m8 m9 m10 m11 m12 m13 m14 m15 m16 m17 m18 A B) : fv g (mrg C0 X0) 38 0 [some (61 + 11)] = [.ref (B 11)] := by
  simp only [fv, hg]; rfl
theorem fv_39 {g : GT} {a0 q1 t1 t2 t3 t4 t5 q2 q3 q4 q5 q6 q7 q8 q9 q10 q11 q12 q13 q14 q15 q16 q17 q18 q19 q20 q21 q22 q23 q24 q25 b0 m1 m2 m3 m4 m5 m6 m7 m8 m9 m10 m11 m12 m13 m14 m15 m16 m17 m18 : Nat} {A B : Nat → Nat} (hg : gA g = adF a0 q1 t1 t2 t3 t4 t5 q2 q3 q4 q5 q6 q7 q8 q9 q10 q11 q12 q13 q14 q15 q16 q17 q18 q19 q20 q21 q22 q23 q24 q25 b0 m1 m2 m3 m4 m5 m6 m7 m8 m9 m10 m11 m12 m13 m14 m15 m16 m17 m18 A B) : fv g (mrg C0 X0) 39 0 [some (61 + 12)] = [.ref (B 12)] := by
  simp only [fv, hg]; rfl
theorem fv_40 {g : GT} {a0 q1 t1 t2 t3 t4 t5 q2 q3 q4 q5 q6 q7 q8 q9 q10 q11 q12 q13 q14 q15 q16 q17 q18 q19 q20 q21 q22 q23 q24 q25 b0 m1 m2 m3 m4 m5 m6 m7 m8 m9 m10 m11 m12 m13 m14 m15 m16 m17 m18 : Nat} {A B : Nat → Nat} (hg : gA g = adF a0 q1 t1 t2 t3 t4 t5 q2 q3 q4 q5 q6 q7 q8 q9 q10 q11 q12 q13 q14 q15 q16 q17 q18 q19 q20 q21 q22 q23 q24 q25 b0 m1 m2 m3 m4 m5 m6 m7 m8 m9 m10 m11 m12 m13 m14 m15 m16 m17 m18 A B) : fv g (mrg C0 X0) 40 0 [some (61 + 13)] = [.ref (B 13)] := by
  simp only [fv, hg]; rfl
theorem fv_41 {g : GT} {a0 q1 t1 t2 t3 t4 t5 q2 q3 q4 q5 q6 q7 q8 q9 q10 q11 q12 q13 q14 q15 q16 q17 q18 q19 q20 q21 q22 q23 q24 q25 b0 m1 m2 m3 m4 m5 m6 m7 m8 m9 m10 m11 m12 m13 m14 m15 m16 m17 m18 : Nat} {A B : Nat → Nat} (hg : gA g = adF a0 q1 t1 t2 t3 t4 t5 q2 q3 q4 q5 q6 q7 q8 q9 q10 q11 q12 q13 q14 q15 q16 q17 q18 q19 q20 q21 q22 q23 q24 q25 b0 m1 m2 m3 m4 m5 m6 m7 m8 m9 m10 m11 m12 m13 m14 m15 m16 m17 m18 A B) : fv g (mrg C0 X0) 41 0 [some (61 + 14)] = [.ref (B 14)] := by
  simp only [fv, hg]; rfl
theorem fv_42 {g : GT} {a0 q1 t1 t2 t3 t4 t5 q2 q3 q4 q5 q6 q7 q8 q9 q10 q11 q12 q13 q14 q15 q16 q17 q18 q19 q20 q21 q22 q23 q24 q25 b0 m1 m2 m3 m4 m5 m6 m7 m8 m9 m10 m11 m12 m13 m14 m15 m16 m17 m18 : Nat} {A B : Nat → Nat} (hg : gA g = adF a0 q1 t1 t2 t3 t4 t5 q2 q3 q4 q5 q6 q7 q8 q9 q10 q11 q12 q13 q14 q15 q16 q17 q18 q19 q20 q21 q22 q23 q24 q25 b0 m1 m2 m3 m4 m5 m6 m7 m8 m9 m10 m11 m12 m13 m14 m15 m16 m17 m18 A B) : fv g (mrg C0 X0) 42 0 [some (61 + 15)] = [.ref (B 15)] := by
  simp only [fv, hg]; rfl
theorem fv_43 {g : GT} {a0 q1 t1 t2 t3 t4 t5 q2 q3 q4 q5 q6 q7 q8 q9 q10 q11 q12 q13 q14 q15 q16 q17 q18 q19 q20 q21 q22 q23 q24 q25 b0 m1 m2 m3 m4 m5 m6 m7 m8 m9 m10 m11 m12 m13 m14 m15 m16 m17 m18 : Nat} {A B : Nat → Nat} (hg : gA g = adF a0 q1 t1 t2 t3 t4 t5 q2 q3 q4 q5 q6 q7 q8 q9 q10 q11 q12 q13 q14 q15 q16 q17 q18 q19 q20 q21 q22 q23 q24 q25 b0 m1 m2 m3 m4 m5 m6 m7 m8 m9 m10 m11 m12 m13 m14 m15 m16 m17 m18 A B) : fv g (mrg C0 X0) 43 0 [some (61 + 16)] = [.ref (B 16)] := by
  simp only [fv, hg]; rfl
theorem fv_44 {g : GT} {a0 q1 t1 t2 t3 t4 t5 q2 q3 q4 q5 q6 q7 q8 q9 q10 q11 q12 q13 q14 q15 q16 q17 q18 q19 q20 q21 q22 q23 q24 q25 b0 m1 m2 m3 m4 m5 m6 m7 m8 m9 m10 m11 m12 m13 m14 m15 m16 m17 m18 : Nat} {A B : Nat → Nat} (hg : gA g = adF a0 q1 t1 t2 t3 t4 t5 q2 q3 q4 q5 q6 q7 q8 q9 q10 q11 q12 q13 q14 q15 q16 q17 q18 q19 q20 q21 q22 q23 q24 q25 b0 m1 m2 m3 m4 m5 m6 m7 m8 m9 m10 m11 m12 m13 m14 m15 m16 m17 m18 A B) : fv g (mrg C0 X0) 44 0 [some (61 + 17)] = [.ref (B 17)] := by
  simp only [fv, hg]; rfl
theorem fv_45 {g : GT} {a0 q1 t1 t2 t3 t4 t5 q2 q3 q4 q5 q6 q7 q8 q9 q10 q11 q12 q13 q14 q15 q16 q17 q18 q19 q20 q21 q22 q23 q24 q25 b0 m1 m2 m3 m4 m5 m6 m7 m8 m9 m10 m11 m12 m13 m14 m15 m16 m17 m18 : Nat} {A B : Nat → Nat} (hg : gA g = adF a0 q1 t1 t2 t3 t4 t5 q2 q3 q4 q5 q6 q7 q8 q9 q10 q11 q12 q13 q14 q15 q16 q17 q18 q19 q20 q21 q22 q23 q24 q25 b0 m1 m2 m3 m4 m5 m6 m7 m8 m9 m10 m11 m12 m13 m14 m15 m16 m17 m18 A B) : fv g (mrg C0 X0) 45 0 [some (61 + 18)] = [.ref (B 18)] := by
  simp only [fv, hg]; rfl
theorem fv_46 {g : GT} {a0 q1 t1 t2 t3 t4 t5 q2 q3 q4 q5 q6 q7 q8 q9 q10 q11 q12 q13 q14 q15 q16 q17 q18 q19 q20 q21 q22 q23 q24 q25 b0 m1 m2 m3 m4 m5 m6 m7 m8 m9 m10 m11 m12 m13 m14 m15 m16 m17 m18 : Nat} {A B : Nat → Nat} (hg : gA g = adF a0 q1 t1 t2 t3 t4 t5 q2 q3 q4 q5 q6 q7 q8 q9 q10 q11 q12 q13 q14 q15 q16 q17 q18 q19 q20 q21 q22 q23 q24 q25 b0 m1 m2 m3 m4 m5 m6 m7 m8 m9 m10 m11 m12 m13 m14 m15 m16 m17 m18 A B) : fv g (mrg C0 X0) 46 0 [some (61 + 19)] = [.ref (B 19)] := by
  simp only [fv, hg]; rfl
theorem fv_47 {g : GT} {a0 q1 t1 t2 t3 t4 t5 q2 q3 q4 q5 q6 q7 q8 q9 q10 q11 q12 q13 q14 q15 q16 q17 q18 q19 q20 q21 q22 q23 q24 q25 b0 m1 m2 m3 m4 m5 m6 m7 m8 m9 m10 m11 m12 m13 m14 m15 m16 m17 m18 : Nat} {A B : Nat → Nat} (hg : gA g = adF a0 q1 t1 t2 t3 t4 t5 q2 q3 q4 q5 q6 q7 q8 q9 q10 q11 q12 q13 q14 q15 q16 q17 q18 q19 q20 q21 q22 q23 q24 q25 b0 m1 m2 m3 m4 m5 m6 m7 m8 m9 m10 m11 m12 m13 m14 m15 m16 m17 m18 A B) : fv g (mrg C0 X0) 47 0 [some (61 + 20)] = [.ref (B 20)] := by
  simp only [fv, hg]; rfl
theorem fv_48 {g : GT} {a0 q1 t1 t2 t3 t4 t5 q2 q3 q4 q5 q6 q7 q8 q9 q10 q11 q12 q13 q14 q15 q16 q17 q18 q19 q20 q21 q22 q23 q24 q25 b0 m1 m2 m3 m4 m5 m6 m7 m8 m9 m10 m11 m12 m13 m14 m15 m16 m17 m18 : Nat} {A B : Nat → Nat} (hg : gA g = adF a0 q1 t1 t2 t3 t4 t5 q2 q3 q4 q5 q6 q7 q8 q9 q10 q11 q12 q13 q14 q15 q16 q17 q18 q19 q20 q21 q22 q23 q24 q25 b0 m1 m2 m3 m4 m5 m6 m7 m8 m9 m10 m11 m12 m13 m14 m15 m16 m17 m18 A B) : fv g (mrg C0 X0) 48 0 [some (61 + 21)] = [.ref (B 21)] := by
  simp only [fv, hg]; rfl
theorem fv_49 {g : GT} {a0 q1 t1 t2 t3 t4 t5 q2 q3 q4 q5 q6 q7 q8 q9 q10 q11 q12 q13 q14 q15 q16 q17 q18 q19 q20 q21 q22 q23 q24 q25 b0 m1 m2 m3 m4 m5 m6 m7 m8 m9 m10 m11 m12 m13 m14 m15 m16 m17 m18 : Nat} {A B : Nat → Nat} (hg : gA g = adF a0 q1 t1 t2 t3 t4 t5 q2 q3 q4 q5 q6 q7 q8 q9 q10 q11 q12 q13 q14 q15 q16 q17 q18 q19 q20 q21 q22 q23 q24 q25 b0 m1 m2 m3 m4 m5 m6 m7 m8 m9 m10 m11 m12 m13 m14 m15 m16 m17 m18 A B) : fv g (mrg C0 X0) 49 0 [some (61 + 22)] = [.ref (B 22)] := by
  simp only [fv, hg]; rfl
theorem fv_50 {g : GT} {a0 q1 t1 t2 t3 t4 t5 q2 q3 q4 q5 q6 q7 q8 q9 q10 q11 q12 q13 q14 q15 q16 q17 q18 q19 q20 q21 q22 q23 q24 q25 b0 m1 m2 m3 m4 m5 m6 m7 m8 m9 m10 m11 m12 m13 m14 m15 m16 m17 m18 : Nat} {A B : Nat → Nat} (hg : gA g = adF a0 q1 t1 t2 t3 t4 t5 q2 q3 q4 q5 q6 q7 q8 q9 q10 q11 q12 q13 q14 q15 q16 q17 q18 q19 q20 q21 q22 q23 q24 q25 b0 m1 m2 m3 m4 m5 m6 m7 m8 m9 m10 m11 m12 m13 m14 m15 m16 m17 m18 A B) : fv g (mrg C0 X0) 50 0 [some (61 + 23)] = [.ref (B 23)] := by
  simp only [fv, hg]; rfl
theorem fv_51 {g : GT} {a0 q1 t1 t2 t3 t4 t5 q2 q3 q4 q5 q6 q7 q8 q9 q10 q11 q12 q13 q14 q15 q16 q17 q18 q19 q20 q21 q22 q23 q24 q25 b0 m1 m2 m3 m4 m5 m6 m7 m8 m9 m10 m11 m12 m13 m14 m15 m16 m17 m18 : Nat} {A B : Nat → Nat} (hg : gA g = adF a0 q1 t1 t2 t3 t4 t5 q2 q3 q4 q5 q6 q7 q8 q9 q10 q11 q12 q13 q14 q15 q16 q17 q18 q19 q20 q21 q22 q23 q24 q25 b0 m1 m2 m3 m4 m5 m6 m7 m8 m9 m10 m11 m12 m13 m14 m15 m16 m17 m18 A B) : fv g (mrg C0 X0) 51 0 [some (61 + 24)] = [.ref (B 24)] := by
  simp only [fv, hg]; rfl
theorem fv_52 {g : GT} {a0 q1 t1 t2 t3 t4 t5 q2 q3 q4 q5 q6 q7 q8 q9 q10 q11 q12 q13 q14 q15 q16 q17 q18 q19 q20 q21 q22 q23 q24 q25 b0 m1 m2 m3 m4 m5 m6 m7 m8 m9 m10 m11 m12 m13 m14 m15 m16 m17 m18 : Nat} {A B : Nat → Nat} (hg : gA g = adF a0 q1 t1 t2 t3 t4 t5 q2 q3 q4 q5 q6 q7 q8 q9 q10 q11 q12 q13 q14 q15 q16 q17 q18 q19 q20 q21 q22 q23 q24 q25 b0 m1 m2 m3 m4 m5 m6 m7 m8 m9 m10 m11 m12 m13 m14 m15 m16 m17 m18 A B) : fv g (mrg C0 X0) 52 0 [some (61 + 25)] = [.ref (B 25)] := by
  simp only [fv, hg]; rfl
theorem fv_53 {g : GT} {a0 q1 t1 t2 t3 t4 t5 q2 q3 q4 q5 q6 q7 q8 q9 q10 q11 q12 q13 q14 q15 q16 q17 q18 q19 q20 q21 q22 q23 q24 q25 b0 m1 m2 m3 m4 m5 m6 m7 m8 m9 m10 m11 m12 m13 m14 m15 m16 m17 m18 : Nat} {A B : Nat → Nat} (hg : gA g = adF a0 q1 t1 t2 t3 t4 t5 q2 q3 q4 q5 q6 q7 q8 q9 q10 q11 q12 q13 q14 q15 q16 q17 q18 q19 q20 q21 q22 q23 q24 q25 b0 m1 m2 m3 m4 m5 m6 m7 m8 m9 m10 m11 m12 m13 m14 m15 m16 m17 m18 A B) : fv g (mrg C0 X0) 53 0 [some (61 + 26)] = [.ref (B 26)] := by
  simp only [fv, hg]; rfl
theorem fv_54 {g : GT} {a0 q1 t1 t2 t3 t4 t5 q2 q3 q4 q5 q6 q7 q8 q9 q10 q11 q12 q13 q14 q15 q16 q17 q18 q19 q20 q21 q22 q23 q24 q25 b0 m1 m2 m3 m4 m5 m6 m7 m8 m9 m10 m11 m12 m13 m14 m15 m16 m17 m18 : Nat} {A B : Nat → Nat} (hg : gA g = adF a0 q1 t1 t2 t3 t4 t5 q2 q3 q4 q5 q6 q7 q8 q9 q10 q11 q12 q13 q14 q15 q16 q17 q18 q19 q20 q21 q22 q23 q24 q25 b0 m1 m2 m3 m4 m5 m6 m7 m8 m9 m10 m11 m12 m13 m14 m15 m16 m17 m18 A B) : fv g (mrg C0 X0) 54 0 [some (61 + 27)] = [.ref (B 27)] := by
  simp only [fv, hg]; rfl
theorem fv_55 {g : GT} {a0 q1 t1 t2 t3 t4 t5 q2 q3 q4 q5 q6 q7 q8 q9 q10 q11 q12 q13 q14 q15 q16 q17 q18 q19 q20 q21 q22 q23 q24 q25 b0 m1 m2 m3 m4 m5 m6 m7 m8 m9 m10 m11 m12 m13 m14 m15 m16 m17 m18 : Nat} {A B : Nat → Nat} (hg : gA g = adF a0 q1 t1 t2 t3 t4 t5 q2 q3 q4 q5 q6 q7 q8 q9 q10 q11 q12 q13 q14 q15 q16 q17 q18 q19 q20 q21 q22 q23 q24 q25 b0 m1 m2 m3 m4 m5 m6 m7 m8 m9 m10 m11 m12 m13 m14 m15 m16 m17 m18 A B) : fv g (mrg C0 X0) 55 0 [some (61 + 28)] = [.ref (B 28)] := by
  simp only [fv, hg]; rfl
theorem fv_56 {g : GT} {a0 q1 t1 t2 t3 t4 t5 q2 q3 q4 q5 q6 q7 q8 q9 q10 q11 q12 q13 q14 q15 q16 q17 q18 q19 q20 q21 q22 q23 q24 q25 b0 m1 m2 m3 m4 m5 m6 m7 m8 m9 m10 m11 m12 m13 m14 m15 m16 m17 m18 : Nat} {A B : Nat → Nat} (hg : gA g = adF a0 q1 t1 t2 t3 t4 t5 q2 q3 q4 q5 q6 q7 q8 q9 q10 q11 q12 q13 q14 q15 q16 q17 q18 q19 q20 q21 q22 q23 q24 q25 b0 m1 m2 m3 m4 m5 m6 m7 m8 m9 m10 m11 m12 m13 m14 m15 m16 m17 m18 A B) : fv g (mrg C0 X0) 56 0 [some (61 + 29)] = [.ref (B 29)] := by
  simp only [fv, hg]; rfl
theorem fv_57 {g : GT} {a0 q1 t1 t2 t3 t4 t5 q2 q3 q4 q5 q6 q7 q8 q9 q10 q11 q12 q13 q14 q15 q16 q17 q18 q19 q20 q21 q22 q23 q24 q25 b0 m1 m2 m3 m4 m5 m6 m7 m8 m9 m10 m11 m12 m13 m14 m15 m16 m17 m18 : Nat} {A B : Nat → Nat} (hg : gA g = adF a0 q1 t1 t2 t3 t4 t5 q2 q3 q4 q5 q6 q7 q8 q9 q10 q11 q12 q13 q14 q15 q16 q17 q18 q19 q20 q21 q22 q23 q24 q25 b0 m1 m2 m3 m4 m5 m6 m7 m8 m9 m10 m11 m12 m13 m14 m15 m16 m17 m18 A B) : fv g (mrg C0 X0) 57 0 [some (61 + 30)] = [.ref (B 30)] := by
  simp only [fv, hg]; rfl
theorem fv_58 {g : GT} {a0 q1 t1 t2 t3 t4 t5 q2 q3 q4 q5 q6 q7 q8 q9 q10 q11 q12 q13 q14 q15 q16 q17 q18 q19 q20 q21 q22 q23 q24 q25 b0 m1 m2 m3 m4 m5 m6 m7 m8 m9 m10 m11 m12 m13 m14 m15 m16 m17 m18 : Nat} {A B : Nat → Nat} (hg : gA g = adF a0 q1 t1 t2 t3 t4 t5 q2 q3 q4 q5 q6 q7 q8 q9 q10 q11 q12 q13 q14 q15 q16 q17 q18 q19 q20 q21 q22 q23 q24 q25 b0 m1 m2 m3 m4 m5 m6 m7 m8 m9 m10 m11 m12 m13 m14 m15 m16 m17 m18 A B) : fv g (mrg C0 X0) 58 0 [some (61 + 31)] = [.ref (B 31)] := by
  simp only [fv, hg]; rfl
theorem fv_59 {g : GT} {a0 q1 t1 t2 t3 t4 t5 q2 q3 q4 q5 q6 q7 q8 q9 q10 q11 q12 q13 q14 q15 q16 q17 q18 q19 q20 q21 q22 q23 q24 q25 b0 m1 m2 m3 m4 m5 m6 m7 m8 m9 m10 m11 m12 m13 m14 m15 m16 m17 m18 : Nat} {A B : Nat → Nat} (hg : gA g = adF a0 q1 t1 t2 t3 t4 t5 q2 q3 q4 q5 q6 q7 q8 q9 q10 q11 q12 q13 q14 q15 q16 q17 q18 q19 q20 q21 q22 q23 q24 q25 b0 m1 m2 m3 m4 m5 m6 m7 m8 m9 m10 m11 m12 m13 m14 m15 m16 m17 m18 A B) : fv g (mrg C0 X0) 59 0 [some (61 + 32)] = [.ref t3] := by
  simp only [fv, hg]; rfl
theorem fv_60 {g : GT} {a0 q1 t1 t2 t3 t4 t5 q2 q3 q4 q5 q6 q7 q8 q9 q10 q11 q12 q13 q14 q15 q16 q17 q18 q19 q20 q21 q22 q23 q24 q25 b0 m1 m2 m3 m4 m5 m6 m7 m8 m9 m10 m11 m12 m13 m14 m15 m16 m17 m18 : Nat} {A B : Nat → Nat} (hg : gA g = adF a0 q1 t1 t2 t3 t4 t5 q2 q3 q4 q5 q6 q7 q8 q9 q10 q11 q12 q13 q14 q15 q16 q17 q18 q19 q20 q21 q22 q23 q24 q25 b0 m1 m2 m3 m4 m5 m6 m7 m8 m9 m10 m11 m12 m13 m14 m15 m16 m17 m18 A B) : fv g (mrg C0 X0) 60 0 [some (61 + 33)] = [.ref q4] := by
  simp only [fv, hg]; rfl
theorem fv_95 {g : GT} {a0 q1 t1 t2 t3 t4 t5 q2 q3 q4 q5 q6 q7 q8 q9 q10 q11 q12 q13 q14 q15 q16 q17 q18 q19 q20 q21 q22 q23 q24 q25 b0 m1 m2 m3 m4 m5 m6 m7 m8 m9 m10 m11 m12 m13 m14 m15 m16 m17 m18 : Nat} {A B : Nat → Nat} (hg : gA g = adF a0 q1 t1 t2 t3 t4 t5 q2 q3 q4 q5 q6 q7 q8 q9 q10 q11 q12 q13 q14 q15 q16 q17 q18 q19 q20 q21 q22 q23 q24 q25 b0 m1 m2 m3 m4 m5 m6 m7 m8 m9 m10 m11 m12 m13 m14 m15 m16 m17 m18 A B) : fv g (mrg C0 X0) 95 0 [some 96, none, none, none, none, none, none, some 97, some 98, some 99, none, some 100, none, some 101, some 102, some 103, none, none, some 104, none, some 105, some 106, some 107, some 108, none, some 109, some 110, some 111, some 112, some 113, none, none, none, none, none] = [.ref m1, .int 0, .int (I 1), .int 0, .int 0, .int 0, .int 0, .ref m2, .ref m3, .ref m4, .int 0, .ref m5, .int 0, .ref m6, .ref m7, .ref m8, .int 0, .int 0, .ref m9, .int 0, .ref m10, .ref m11, .ref m12, .ref m13, .int 0, .ref m14, .ref m15, .ref m16, .ref m17, .ref m18, .int 0, .int 0, .int 0, .int 0, .int 0] := by
  simp only [fv, hg]; rfl
set_option maxRecDepth 100000 in
set_option maxHeartbeats 4000000 in
theorem conv_at {g : GT} {a0 q1 t1 t2 t3 t4 t5 q2 q3 q4 q5 q6 q7 q8 q9 q10 q11 q12 q13 q14 q15 q16 q17 q18 q19 q20 q21 q22 q23 q24 q25 b0 m1 m2 m3 m4 m5 m6 m7 m8 m9 m10 m11 m12 m13 m14 m15 m16 m17 m18 : Nat} {A B : Nat → Nat} (hg : gA g = adF a0 q1 t1 t2 t3 t4 t5 q2 q3 q4 q5 q6 q7 q8 q9 q10 q11 q12 q13 q14 q15 q16 q17 q18 q19 q20 q21 q22 q23 q24 q25 b0 m1 m2 m3 m4 m5 m6 m7 m8 m9 m10 m11 m12 m13 m14 m15 m16 m17 m18 A B) {H : Heap} : ∀ k, k < 114 → ∃ e, (wEnd g a0 q1 t1 t2 t3 t4 t5 q2 q3 q4 q5 q6 q7 q8 q9 q10 q11 q12 q13 q14 q15 q16 q17 q18 q19 q20 q21 q22 q23 q24 q25 b0 m1 m2 m3 m4 m5 m6 m7 m8 m9 m10 m11 m12 m13 m14 m15 m16 m17 m18 A B)[posL.getD k 0]? = some (gA g k, e) ∧ (va_at (gD g) vwCl (gA g k, e) H → va_at (gD g) vwCl (gA g k, cellAt g (mrg C0 X0) k) H) := by
  intro k hk
  match k, hk with
  | 0, _ => exact ⟨_, by rw [hg]; rfl, fun h => cv_obj (k := 0) (fl := [some 1, some 2, some 3, some 4, some 5, some (10 + 2 * 0)]) rfl (fv_0 hg) h⟩
  | 1, _ => exact ⟨_, by rw [hg]; rfl, fun h => cv_obj (k := 1) (fl := [some 20, some (27 + 32), some 21, some 22, none, none]) rfl (fv_1 hg) h⟩
  | 2, _ => exact ⟨_, by rw [hg]; rfl, fun h => cv_obj (k := 2) (fl := [some 1, some (27 + 33), some (10 + 2 * 1), some (10 + 2 * 2), none, none, none]) rfl (fv_2 hg) h⟩
  | 3, _ => exact ⟨_, by rw [hg]; rfl, fun h => cv_obj (k := 3) (fl := [some 1, some 23, some 24, some (10 + 2 * 3), none]) rfl (fv_3 hg) h⟩
  | 4, _ => exact ⟨_, by rw [hg]; rfl, fun h => cv_obj (k := 4) (fl := [some 25, none, none, none, none, none, none, some (10 + 2 * 4), some 26]) rfl (fv_4 hg) h⟩
  | 5, _ => exact ⟨_, by rw [hg]; rfl, fun h => cv_ref (k := 5) (t := 2) (n := 2) rfl (by decide) (fun j hj => by rw [hg]; rcases (show j = 0 ∨ j = 1 by omega) with rfl | rfl <;> rfl) h⟩
  | 6, _ => exact ⟨_, by rw [hg]; rfl, fun h => cv_obj (k := 6) (fl := [some 8, none, none, none]) rfl (fv_6 hg) h⟩
  | 7, _ => exact ⟨_, by rw [hg]; rfl, fun h => cv_obj (k := 7) (fl := [some 9, none, none, none]) rfl (fv_7 hg) h⟩
  | 8, _ => exact ⟨_, by rw [hg]; rfl, fun h => cv_arr (k := 8) rfl (by decide) (fun j => by simp [mrg, C0, X0]) h⟩
  | 9, _ => exact ⟨_, by rw [hg]; rfl, fun h => cv_arr (k := 9) rfl (by decide) (fun j => by simp [mrg, C0, X0]) h⟩
  | 10, _ => exact ⟨_, by rw [hg]; rfl, fun h => cv_obj (k := 10) (fl := [some 11, none]) rfl (fv_10 hg) h⟩
  | 11, _ => exact ⟨_, by rw [hg]; rfl, fun h => cv_arr (k := 11) rfl (by decide) (fun j => by simp [mrg, C0, X0]) h⟩
  | 12, _ => exact ⟨_, by rw [hg]; rfl, fun h => cv_obj (k := 12) (fl := [some 13, none]) rfl (fv_12 hg) h⟩
  | 13, _ => exact ⟨_, by rw [hg]; rfl, fun h => cv_arr (k := 13) rfl (by decide) (fun j => by simp [mrg, C0, X0]) h⟩
  | 14, _ => exact ⟨_, by rw [hg]; rfl, fun h => cv_obj (k := 14) (fl := [some 15, none]) rfl (fv_14 hg) h⟩
  | 15, _ => exact ⟨_, by rw [hg]; rfl, fun h => cv_arr (k := 15) rfl (by decide) (fun j => by simp [mrg, C0, X0]) h⟩
  | 16, _ => exact ⟨_, by rw [hg]; rfl, fun h => cv_obj (k := 16) (fl := [some 17, none]) rfl (fv_16 hg) h⟩
  | 17, _ => exact ⟨_, by rw [hg]; rfl, fun h => cv_arr (k := 17) rfl (by decide) (fun j => by simp [mrg, C0, X0]) h⟩
  | 18, _ => exact ⟨_, by rw [hg]; rfl, fun h => cv_obj (k := 18) (fl := [some 19, none]) rfl (fv_18 hg) h⟩
  | 19, _ => exact ⟨_, by rw [hg]; rfl, fun h => cv_arr (k := 19) rfl (by decide) (fun j => by simp [mrg, C0, X0]) h⟩
  | 20, _ => exact ⟨_, by rw [hg]; rfl, fun h => cv_ref (k := 20) (t := 3) (n := 32) rfl (by decide) (fun j hj => by rw [hg]; exact ad_pg hj) h⟩
  | 21, _ => exact ⟨_, by rw [hg]; rfl, fun h => cv_arr (k := 21) rfl (by decide) (fun j => by simp [mrg, C0, X0]) h⟩
  | 22, _ => exact ⟨_, by rw [hg]; rfl, fun h => cv_arr (k := 22) rfl (by decide) (fun j => by simp [mrg, C0, X0]) h⟩
  | 23, _ => exact ⟨_, by rw [hg]; rfl, fun h => cv_arr (k := 23) rfl (by decide) (fun j => by simp [mrg, C0, X0]) h⟩
  | 24, _ => exact ⟨_, by rw [hg]; rfl, fun h => cv_arr (k := 24) rfl (by decide) (fun j => by simp [mrg, C0, X0]) h⟩
  | 25, _ => exact ⟨_, by rw [hg]; rfl, fun h => cv_arr (k := 25) rfl (by decide) (fun j => by simp [mrg, C0, X0]) h⟩
  | 26, _ => exact ⟨_, by rw [hg]; rfl, fun h => cv_arr (k := 26) rfl (by decide) (fun j => by simp [mrg, C0, X0]) h⟩
  | 27, _ => exact ⟨_, by rw [hg]; rfl, fun h => cv_obj (k := 27) (fl := [some (61 + 0)]) rfl (fv_27 hg) h⟩
  | 28, _ => exact ⟨_, by rw [hg]; rfl, fun h => cv_obj (k := 28) (fl := [some (61 + 1)]) rfl (fv_28 hg) h⟩
  | 29, _ => exact ⟨_, by rw [hg]; rfl, fun h => cv_obj (k := 29) (fl := [some (61 + 2)]) rfl (fv_29 hg) h⟩
  | 30, _ => exact ⟨_, by rw [hg]; rfl, fun h => cv_obj (k := 30) (fl := [some (61 + 3)]) rfl (fv_30 hg) h⟩
  | 31, _ => exact ⟨_, by rw [hg]; rfl, fun h => cv_obj (k := 31) (fl := [some (61 + 4)]) rfl (fv_31 hg) h⟩
  | 32, _ => exact ⟨_, by rw [hg]; rfl, fun h => cv_obj (k := 32) (fl := [some (61 + 5)]) rfl (fv_32 hg) h⟩
  | 33, _ => exact ⟨_, by rw [hg]; rfl, fun h => cv_obj (k := 33) (fl := [some (61 + 6)]) rfl (fv_33 hg) h⟩
  | 34, _ => exact ⟨_, by rw [hg]; rfl, fun h => cv_obj (k := 34) (fl := [some (61 + 7)]) rfl (fv_34 hg) h⟩
  | 35, _ => exact ⟨_, by rw [hg]; rfl, fun h => cv_obj (k := 35) (fl := [some (61 + 8)]) rfl (fv_35 hg) h⟩
  | 36, _ => exact ⟨_, by rw [hg]; rfl, fun h => cv_obj (k := 36) (fl := [some (61 + 9)]) rfl (fv_36 hg) h⟩
  | 37, _ => exact ⟨_, by rw [hg]; rfl, fun h => cv_obj (k := 37) (fl := [some (61 + 10)]) rfl (fv_37 hg) h⟩
  | 38, _ => exact ⟨_, by rw [hg]; rfl, fun h => cv_obj (k := 38) (fl := [some (61 + 11)]) rfl (fv_38 hg) h⟩
  | 39, _ => exact ⟨_, by rw [hg]; rfl, fun h => cv_obj (k := 39) (fl := [some (61 + 12)]) rfl (fv_39 hg) h⟩
  | 40, _ => exact ⟨_, by rw [hg]; rfl, fun h => cv_obj (k := 40) (fl := [some (61 + 13)]) rfl (fv_40 hg) h⟩
  | 41, _ => exact ⟨_, by rw [hg]; rfl, fun h => cv_obj (k := 41) (fl := [some (61 + 14)]) rfl (fv_41 hg) h⟩
  | 42, _ => exact ⟨_, by rw [hg]; rfl, fun h => cv_obj (k := 42) (fl := [some (61 + 15)]) rfl (fv_42 hg) h⟩
  | 43, _ => exact ⟨_, by rw [hg]; rfl, fun h => cv_obj (k := 43) (fl := [some (61 + 16)]) rfl (fv_43 hg) h⟩
  | 44, _ => exact ⟨_, by rw [hg]; rfl, fun h => cv_obj (k := 44) (fl := [some (61 + 17)]) rfl (fv_44 hg) h⟩
  | 45, _ => exact ⟨_, by rw [hg]; rfl, fun h => cv_obj (k := 45) (fl := [some (61 + 18)]) rfl (fv_45 hg) h⟩
  | 46, _ => exact ⟨_, by rw [hg]; rfl, fun h => cv_obj (k := 46) (fl := [some (61 + 19)]) rfl (fv_46 hg) h⟩
  | 47, _ => exact ⟨_, by rw [hg]; rfl, fun h => cv_obj (k := 47) (fl := [some (61 + 20)]) rfl (fv_47 hg) h⟩
  | 48, _ => exact ⟨_, by rw [hg]; rfl, fun h => cv_obj (k := 48) (fl := [some (61 + 21)]) rfl (fv_48 hg) h⟩
  | 49, _ => exact ⟨_, by rw [hg]; rfl, fun h => cv_obj (k := 49) (fl := [some (61 + 22)]) rfl (fv_49 hg) h⟩
  | 50, _ => exact ⟨_, by rw [hg]; rfl, fun h => cv_obj (k := 50) (fl := [some (61 + 23)]) rfl (fv_50 hg) h⟩
  | 51, _ => exact ⟨_, by rw [hg]; rfl, fun h => cv_obj (k := 51) (fl := [some (61 + 24)]) rfl (fv_51 hg) h⟩
  | 52, _ => exact ⟨_, by rw [hg]; rfl, fun h => cv_obj (k := 52) (fl := [some (61 + 25)]) rfl (fv_52 hg) h⟩
  | 53, _ => exact ⟨_, by rw [hg]; rfl, fun h => cv_obj (k := 53) (fl := [some (61 + 26)]) rfl (fv_53 hg) h⟩
  | 54, _ => exact ⟨_, by rw [hg]; rfl, fun h => cv_obj (k := 54) (fl := [some (61 + 27)]) rfl (fv_54 hg) h⟩
  | 55, _ => exact ⟨_, by rw [hg]; rfl, fun h => cv_obj (k := 55) (fl := [some (61 + 28)]) rfl (fv_55 hg) h⟩
  | 56, _ => exact ⟨_, by rw [hg]; rfl, fun h => cv_obj (k := 56) (fl := [some (61 + 29)]) rfl (fv_56 hg) h⟩
  | 57, _ => exact ⟨_, by rw [hg]; rfl, fun h => cv_obj (k := 57) (fl := [some (61 + 30)]) rfl (fv_57 hg) h⟩
  | 58, _ => exact ⟨_, by rw [hg]; rfl, fun h => cv_obj (k := 58) (fl := [some (61 + 31)]) rfl (fv_58 hg) h⟩
  | 59, _ => exact ⟨_, by rw [hg]; rfl, fun h => cv_obj (k := 59) (fl := [some (61 + 32)]) rfl (fv_59 hg) h⟩
  | 60, _ => exact ⟨_, by rw [hg]; rfl, fun h => cv_obj (k := 60) (fl := [some (61 + 33)]) rfl (fv_60 hg) h⟩
  | 61, _ => exact ⟨_, by rw [hg]; rfl, fun h => cv_arrf (k := 61) (t := 0) (n := 64) rfl (by decide) (fun j => by unfold upd mrg C0; by_cases h2 : j = 2; (· subst h2; rfl); (by_cases h0 : j = 0; (· subst h0; rfl); (· simp [h0, h2]; exact I_0))) h⟩
  | 62, _ => exact ⟨_, by rw [hg]; rfl, fun h => cv_arr (k := 62) rfl (by decide) (fun j => by simp [mrg, C0, X0]) h⟩
  | 63, _ => exact ⟨_, by rw [hg]; rfl, fun h => cv_arr (k := 63) rfl (by decide) (fun j => by simp [mrg, C0, X0]) h⟩
  | 64, _ => exact ⟨_, by rw [hg]; rfl, fun h => cv_arr (k := 64) rfl (by decide) (fun j => by simp [mrg, C0, X0]) h⟩
  | 65, _ => exact ⟨_, by rw [hg]; rfl, fun h => cv_arr (k := 65) rfl (by decide) (fun j => by simp [mrg, C0, X0]) h⟩
  | 66, _ => exact ⟨_, by rw [hg]; rfl, fun h => cv_arr (k := 66) rfl (by decide) (fun j => by simp [mrg, C0, X0]) h⟩
  | 67, _ => exact ⟨_, by rw [hg]; rfl, fun h => cv_arr (k := 67) rfl (by decide) (fun j => by simp [mrg, C0, X0]) h⟩
  | 68, _ => exact ⟨_, by rw [hg]; rfl, fun h => cv_arr (k := 68) rfl (by decide) (fun j => by simp [mrg, C0, X0]) h⟩
  | 69, _ => exact ⟨_, by rw [hg]; rfl, fun h => cv_arr (k := 69) rfl (by decide) (fun j => by simp [mrg, C0, X0]) h⟩
  | 70, _ => exact ⟨_, by rw [hg]; rfl, fun h => cv_arr (k := 70) rfl (by decide) (fun j => by simp [mrg, C0, X0]) h⟩
  | 71, _ => exact ⟨_, by rw [hg]; rfl, fun h => cv_arr (k := 71) rfl (by decide) (fun j => by simp [mrg, C0, X0]) h⟩
  | 72, _ => exact ⟨_, by rw [hg]; rfl, fun h => cv_arr (k := 72) rfl (by decide) (fun j => by simp [mrg, C0, X0]) h⟩
  | 73, _ => exact ⟨_, by rw [hg]; rfl, fun h => cv_arr (k := 73) rfl (by decide) (fun j => by simp [mrg, C0, X0]) h⟩
  | 74, _ => exact ⟨_, by rw [hg]; rfl, fun h => cv_arr (k := 74) rfl (by decide) (fun j => by simp [mrg, C0, X0]) h⟩
  | 75, _ => exact ⟨_, by rw [hg]; rfl, fun h => cv_arr (k := 75) rfl (by decide) (fun j => by simp [mrg, C0, X0]) h⟩
  | 76, _ => exact ⟨_, by rw [hg]; rfl, fun h => cv_arr (k := 76) rfl (by decide) (fun j => by simp [mrg, C0, X0]) h⟩
  | 77, _ => exact ⟨_, by rw [hg]; rfl, fun h => cv_arr (k := 77) rfl (by decide) (fun j => by simp [mrg, C0, X0]) h⟩
  | 78, _ => exact ⟨_, by rw [hg]; rfl, fun h => cv_arr (k := 78) rfl (by decide) (fun j => by simp [mrg, C0, X0]) h⟩
  | 79, _ => exact ⟨_, by rw [hg]; rfl, fun h => cv_arr (k := 79) rfl (by decide) (fun j => by simp [mrg, C0, X0]) h⟩
  | 80, _ => exact ⟨_, by rw [hg]; rfl, fun h => cv_arr (k := 80) rfl (by decide) (fun j => by simp [mrg, C0, X0]) h⟩
  | 81, _ => exact ⟨_, by rw [hg]; rfl, fun h => cv_arr (k := 81) rfl (by decide) (fun j => by simp [mrg, C0, X0]) h⟩
  | 82, _ => exact ⟨_, by rw [hg]; rfl, fun h => cv_arr (k := 82) rfl (by decide) (fun j => by simp [mrg, C0, X0]) h⟩
  | 83, _ => exact ⟨_, by rw [hg]; rfl, fun h => cv_arr (k := 83) rfl (by decide) (fun j => by simp [mrg, C0, X0]) h⟩
  | 84, _ => exact ⟨_, by rw [hg]; rfl, fun h => cv_arr (k := 84) rfl (by decide) (fun j => by simp [mrg, C0, X0]) h⟩
  | 85, _ => exact ⟨_, by rw [hg]; rfl, fun h => cv_arr (k := 85) rfl (by decide) (fun j => by simp [mrg, C0, X0]) h⟩
  | 86, _ => exact ⟨_, by rw [hg]; rfl, fun h => cv_arr (k := 86) rfl (by decide) (fun j => by simp [mrg, C0, X0]) h⟩
  | 87, _ => exact ⟨_, by rw [hg]; rfl, fun h => cv_arr (k := 87) rfl (by decide) (fun j => by simp [mrg, C0, X0]) h⟩
  | 88, _ => exact ⟨_, by rw [hg]; rfl, fun h => cv_arr (k := 88) rfl (by decide) (fun j => by simp [mrg, C0, X0]) h⟩
  | 89, _ => exact ⟨_, by rw [hg]; rfl, fun h => cv_arr (k := 89) rfl (by decide) (fun j => by simp [mrg, C0, X0]) h⟩
  | 90, _ => exact ⟨_, by rw [hg]; rfl, fun h => cv_arr (k := 90) rfl (by decide) (fun j => by simp [mrg, C0, X0]) h⟩
  | 91, _ => exact ⟨_, by rw [hg]; rfl, fun h => cv_arr (k := 91) rfl (by decide) (fun j => by simp [mrg, C0, X0]) h⟩
  | 92, _ => exact ⟨_, by rw [hg]; rfl, fun h => cv_arr (k := 92) rfl (by decide) (fun j => by simp [mrg, C0, X0]) h⟩
  | 93, _ => exact ⟨_, by rw [hg]; rfl, fun h => cv_arr (k := 93) rfl (by decide) (fun j => by simp [mrg, C0, X0]) h⟩
  | 94, _ => exact ⟨_, by rw [hg]; rfl, fun h => cv_arr (k := 94) rfl (by decide) (fun j => by simp [mrg, C0, X0]) h⟩
  | 95, _ => exact ⟨_, by rw [hg]; rfl, fun h => cv_obj (k := 95) (fl := [some 96, none, none, none, none, none, none, some 97, some 98, some 99, none, some 100, none, some 101, some 102, some 103, none, none, some 104, none, some 105, some 106, some 107, some 108, none, some 109, some 110, some 111, some 112, some 113, none, none, none, none, none]) rfl (fv_95 hg) h⟩
  | 96, _ => exact ⟨_, by rw [hg]; rfl, fun h => cv_arrf (k := 96) (t := 0) (n := 2048) rfl (by decide) (fun j => by unfold upd mrg X0; by_cases h0 : j = 0; (· subst h0; rfl); (· simp [h0]; exact I_0)) h⟩
  | 97, _ => exact ⟨_, by rw [hg]; rfl, fun h => cv_arr (k := 97) rfl (by decide) (fun j => by simp [mrg, C0, X0]) h⟩
  | 98, _ => exact ⟨_, by rw [hg]; rfl, fun h => cv_arr (k := 98) rfl (by decide) (fun j => by simp [mrg, C0, X0]) h⟩
  | 99, _ => exact ⟨_, by rw [hg]; rfl, fun h => cv_arr (k := 99) rfl (by decide) (fun j => by simp [mrg, C0, X0]) h⟩
  | 100, _ => exact ⟨_, by rw [hg]; rfl, fun h => cv_arr (k := 100) rfl (by decide) (fun j => by simp [mrg, C0, X0]) h⟩
  | 101, _ => exact ⟨_, by rw [hg]; rfl, fun h => cv_arr (k := 101) rfl (by decide) (fun j => by simp [mrg, C0, X0]) h⟩
  | 102, _ => exact ⟨_, by rw [hg]; rfl, fun h => cv_arr (k := 102) rfl (by decide) (fun j => by simp [mrg, C0, X0]) h⟩
  | 103, _ => exact ⟨_, by rw [hg]; rfl, fun h => cv_arr (k := 103) rfl (by decide) (fun j => by simp [mrg, C0, X0]) h⟩
  | 104, _ => exact ⟨_, by rw [hg]; rfl, fun h => cv_arr (k := 104) rfl (by decide) (fun j => by simp [mrg, C0, X0]) h⟩
  | 105, _ => exact ⟨_, by rw [hg]; rfl, fun h => cv_arr (k := 105) rfl (by decide) (fun j => by simp [mrg, C0, X0]) h⟩
  | 106, _ => exact ⟨_, by rw [hg]; rfl, fun h => cv_arr (k := 106) rfl (by decide) (fun j => by simp [mrg, C0, X0]) h⟩
  | 107, _ => exact ⟨_, by rw [hg]; rfl, fun h => cv_arr (k := 107) rfl (by decide) (fun j => by simp [mrg, C0, X0]) h⟩
  | 108, _ => exact ⟨_, by rw [hg]; rfl, fun h => cv_arr (k := 108) rfl (by decide) (fun j => by simp [mrg, C0, X0]) h⟩
  | 109, _ => exact ⟨_, by rw [hg]; rfl, fun h => cv_arr (k := 109) rfl (by decide) (fun j => by simp [mrg, C0, X0]) h⟩
  | 110, _ => exact ⟨_, by rw [hg]; rfl, fun h => cv_arr (k := 110) rfl (by decide) (fun j => by simp [mrg, C0, X0]) h⟩
  | 111, _ => exact ⟨_, by rw [hg]; rfl, fun h => cv_arr (k := 111) rfl (by decide) (fun j => by simp [mrg, C0, X0]) h⟩
  | 112, _ => exact ⟨_, by rw [hg]; rfl, fun h => cv_arr (k := 112) rfl (by decide) (fun j => by simp [mrg, C0, X0]) h⟩
  | 113, _ => exact ⟨_, by rw [hg]; rfl, fun h => cv_arr (k := 113) rfl (by decide) (fun j => by simp [mrg, C0, X0]) h⟩
  | k + 114, hk => exact absurd hk (by omega)

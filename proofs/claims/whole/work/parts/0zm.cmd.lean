/-! COMMANDS in the text. -/
def Wput (t : Nat → Int) (n s : Nat) : Prop := ad isL t n s = s + 3 ∧ t s = 112 ∧ t (s + 1) = 117 ∧ t (s + 2) = 116
def Wt (t : Nat → Int) (n s : Nat) : Prop := ad isL t n s = s + 4 ∧ t s = 116 ∧ t (s + 1) = 97 ∧ t (s + 2) = 107 ∧ t (s + 3) = 101
def Wl (t : Nat → Int) (n s : Nat) : Prop := ad isL t n s = s + 4 ∧ t s = 108 ∧ t (s + 1) = 111 ∧ t (s + 2) = 97 ∧ t (s + 3) = 100
def PutR (t : Nat → Int) (n s E : Nat) : Prop := Wput t n s ∧ KeyOk t n (s + 3) ∧ NumOk t n (kEn t n (s + 3)) 0 255 ∧ StopOk t n (nE t n (kEn t n (s + 3))) ∧ E = ad isB t n (nE t n (kEn t n (s + 3))) + 1
def TakeR (t : Nat → Int) (n s E : Nat) : Prop := Wt t n s ∧ KeyOk t n (s + 4) ∧ StopOk t n (kEn t n (s + 4)) ∧ E = ad isB t n (kEn t n (s + 4)) + 1
def LoadR (t : Nat → Int) (n s E : Nat) : Prop := Wl t n s ∧ NumOk t n (s + 4) 0 17575 ∧ NumOk t n (nE t n (s + 4)) 1 99 ∧ NumOk t n (nE t n (nE t n (s + 4))) 1 60 ∧ nV t n (s + 4) + nV t n (nE t n (s + 4)) * (nV t n (nE t n (nE t n (s + 4))) - 1) ≤ 17575 ∧ StopOk t n (nE t n (nE t n (nE t n (s + 4)))) ∧ E = ad isB t n (nE t n (nE t n (nE t n (s + 4)))) + 1
def CmdR (t : Nat → Int) (n s E : Nat) : Prop := PutR t n s E ∨ TakeR t n s E ∨ LoadR t n s E
section CM
variable {C C' X X' : Mem} {t : Nat → Int} {n i e st k s E : Nat} {z : Int}
theorem CmdR_fun {E' : Nat} (h : CmdR t n s E) (h' : CmdR t n s E') : E = E' := by
  rcases h with h | h | h <;> rcases h' with h' | h' | h'
  · rw [h.2.2.2.2, h'.2.2.2.2]
  · have := h.1.1; have := h'.1.1; omega
  · have := h.1.1; have := h'.1.1; omega
  · have := h.1.1; have := h'.1.1; omega
  · rw [h.2.2.2, h'.2.2.2]
  · have := h.1.2.1; have := h'.1.2.1; omega
  · have := h.1.1; have := h'.1.1; omega
  · have := h.1.2.1; have := h'.1.2.1; omega
  · rw [h.2.2.2.2.2.2, h'.2.2.2.2.2.2]
def wc (a j : Nat) : Int := ((txB.getD a []).getD j 0).toInt
def wl (a : Nat) : Nat := txL.getD a 0
theorem lp_word {K : Int → Mem → Option (Mem × Int)} {a : Nat} (h : TxC C t n) (h2 : C 4 2 = (s : Int)) (hs : s + wl a ≤ n) (hwl : wl a ≤ 4) (hwc : ∀ j, j < wl a → 97 ≤ wc a j ∧ wc a j ≤ 122) (hK : ∀ v, K v C = some (C, 1)) : ∀ (m f j : Nat) (v : Int), v = (j : Int) → j + m = wl a → m < f → ((∀ q, j ≤ q → q < wl a → t (s + q) = wc a q) ∧ f_X5_isWord_28 a K f v C = some (C, 1)) ∨ (¬ (∀ q, j ≤ q → q < wl a → t (s + q) = wc a q) ∧ f_X5_isWord_28 a K f v C = some (C, 0))
  | _, 0 => by intros; omega
  | 0, f + 1 => by
    intro j v hv hj _
    refine Or.inl ⟨fun q q1 q2 => by omega, ?_⟩
    unfold f_X5_isWord_28 f_s_len
    rw [bd_some]
    show cLt v ((wl a : Nat) : Int) _ _ = _
    rw [fLt (by omega), hK]
  | m + 1, f + 1 => by
    intro j v hv hj hf
    have hn := h.2.1
    have hw := hwc j (by omega)
    have ht := (h.2.2 (s + j) (by omega)).2
    have ih := lp_word (K := K) h h2 hs hwl hwc hK m f (j + 1) (v + 1) (by omega) (by omega) (by omega)
    have e1 : f_X5_isWord_28 a K (f + 1) v C = cEq (t (s + j)) (wc a j) (f_X5_isWord_28 a K f (v + 1) C) (some (C, 0)) := by
      rw [f_X5_isWord_28]
      unfold f_s_len f_s_cha
      rw [bd_some]
      show cLt v ((wl a : Nat) : Int) _ _ = _
      rw [tLt (by omega), h2, tc_at h (i := s + j) (by omega) (by omega), bd_some]
      show bd (ix v (wl a) _) _ = _
      rw [ix_t (by omega), bd_some, nat2 hv]
      rfl
    rw [e1]
    by_cases hq : t (s + j) = wc a j
    · rw [tEq (by omega)]
      rcases ih with ⟨i1, i2⟩ | ⟨i1, i2⟩
      · refine Or.inl ⟨?_, i2⟩
        intro q q1 q2
        by_cases hqj : q = j
        · rw [hqj]; exact hq
        · exact i1 q (by omega) q2
      · exact Or.inr ⟨fun hh => i1 (fun q q1 q2 => hh q (by omega) q2), i2⟩
    · rw [fEq (by omega)]
      exact Or.inr ⟨fun hh => hq (hh j (by omega) (by omega)), rfl⟩
/-- how the class stands when it has read a command's first token -/
def Tok1 (C : Mem) (t : Nat → Int) (n s : Nat) : Prop := C 4 2 = (s : Int) ∧ s < n ∧ ((isL (t s) = true ∧ C 4 4 = 1 ∧ C 4 3 = ((ad isL t n s : Nat) : Int)) ∨ (isL (t s) = false ∧ C 4 4 ≠ 1 ∧ 0 ≤ C 4 4 ∧ C 4 4 ≤ 4))
theorem sp_word {a : Nat} (h : TxC C t n) (hk : Tok1 C t n s) (hwl1 : 1 ≤ wl a) (hwl : wl a ≤ 4) (hwc : ∀ j, j < wl a → 97 ≤ wc a j ∧ wc a j ≤ 122) : ((ad isL t n s = s + wl a ∧ ∀ q, q < wl a → t (s + q) = wc a q) ∧ f_X5_isWord a C = some (C, 1)) ∨ (¬ (ad isL t n s = s + wl a ∧ ∀ q, q < wl a → t (s + q) = wc a q) ∧ f_X5_isWord a C = some (C, 0)) := by
  have hfu := FU_eq
  have hn := h.2.1
  obtain ⟨k2, ksn, k | k⟩ := hk
  · have hle : ad isL t n s ≤ n := ad_le (by omega)
    have hge : s ≤ ad isL t n s := ad_ge
    have e1 : f_X5_isWord a C = cEq (((ad isL t n s : Nat) : Int) - (s : Int)) ((wl a : Nat) : Int) (f_X5_isWord_28 a (fun (v2_e28 : Int) (C_e28 : Mem) => (some (C_e28, 1))) FU (0) C) (some (C, 0)) := by
      unfold f_X5_isWord
      rw [tEq (by omega), k.2.2, k2]
      rfl
    rw [e1]
    by_cases hl : ad isL t n s = s + wl a
    · rw [tEq (by omega)]
      rcases lp_word (K := (fun (v2_e28 : Int) (C_e28 : Mem) => (some (C_e28, 1)))) h k2 (by omega) hwl hwc (fun _ => rfl) (wl a) FU 0 0 rfl (by omega) (by omega) with ⟨i1, i2⟩ | ⟨i1, i2⟩
      · exact Or.inl ⟨⟨hl, fun q hq => i1 q (by omega) hq⟩, i2⟩
      · exact Or.inr ⟨fun hh => i1 (fun q _ hq => hh.2 q hq), i2⟩
    · rw [fEq (by omega)]
      exact Or.inr ⟨fun hh => hl hh.1, rfl⟩
  · refine Or.inr ⟨?_, ?_⟩
    · intro hh
      have := hh.1
      rw [ad_n (by intro q; rw [k.1] at q; exact absurd q.2 (by decide))] at this
      omega
    · unfold f_X5_isWord
      rw [fEq (by omega)]
theorem sp_put (h : TxC C t n) (hk : Tok1 C t n s) : (Wput t n s ∧ f_X5_isWord 0 C = some (C, 1)) ∨ (¬ Wput t n s ∧ f_X5_isWord 0 C = some (C, 0)) := by
  have hl : wl 0 = 3 := rfl
  have hc : ∀ j, j < wl 0 → 97 ≤ wc 0 j ∧ wc 0 j ≤ 122 := by
    intro j hj
    have : j = 0 ∨ j = 1 ∨ j = 2 := by omega
    rcases this with q | q | q <;> subst q <;> decide
  rcases sp_word (a := 0) h hk (by omega) (by omega) hc with ⟨⟨q1, q2⟩, q3⟩ | ⟨q1, q3⟩
  · exact Or.inl ⟨⟨q1, q2 0 (by omega), q2 1 (by omega), q2 2 (by omega)⟩, q3⟩
  · refine Or.inr ⟨fun hh => q1 ⟨hh.1, ?_⟩, q3⟩
    intro q hq
    have : q = 0 ∨ q = 1 ∨ q = 2 := by omega
    rcases this with p | p | p <;> subst p
    · exact hh.2.1
    · exact hh.2.2.1
    · exact hh.2.2.2
theorem sp_take (h : TxC C t n) (hk : Tok1 C t n s) : (Wt t n s ∧ f_X5_isWord 1 C = some (C, 1)) ∨ (¬ Wt t n s ∧ f_X5_isWord 1 C = some (C, 0)) := by
  have hl : wl 1 = 4 := rfl
  have hc : ∀ j, j < wl 1 → 97 ≤ wc 1 j ∧ wc 1 j ≤ 122 := by
    intro j hj
    have : j = 0 ∨ j = 1 ∨ j = 2 ∨ j = 3 := by omega
    rcases this with q | q | q | q <;> subst q <;> decide
  rcases sp_word (a := 1) h hk (by omega) (by omega) hc with ⟨⟨q1, q2⟩, q3⟩ | ⟨q1, q3⟩
  · exact Or.inl ⟨⟨q1, q2 0 (by omega), q2 1 (by omega), q2 2 (by omega), q2 3 (by omega)⟩, q3⟩
  · refine Or.inr ⟨fun hh => q1 ⟨hh.1, ?_⟩, q3⟩
    intro q hq
    have : q = 0 ∨ q = 1 ∨ q = 2 ∨ q = 3 := by omega
    rcases this with p | p | p | p <;> subst p
    · exact hh.2.1
    · exact hh.2.2.1
    · exact hh.2.2.2.1
    · exact hh.2.2.2.2
theorem sp_load (h : TxC C t n) (hk : Tok1 C t n s) : (Wl t n s ∧ f_X5_isWord 2 C = some (C, 1)) ∨ (¬ Wl t n s ∧ f_X5_isWord 2 C = some (C, 0)) := by
  have hl : wl 2 = 4 := rfl
  have hc : ∀ j, j < wl 2 → 97 ≤ wc 2 j ∧ wc 2 j ≤ 122 := by
    intro j hj
    have : j = 0 ∨ j = 1 ∨ j = 2 ∨ j = 3 := by omega
    rcases this with q | q | q | q <;> subst q <;> decide
  rcases sp_word (a := 2) h hk (by omega) (by omega) hc with ⟨⟨q1, q2⟩, q3⟩ | ⟨q1, q3⟩
  · exact Or.inl ⟨⟨q1, q2 0 (by omega), q2 1 (by omega), q2 2 (by omega), q2 3 (by omega)⟩, q3⟩
  · refine Or.inr ⟨fun hh => q1 ⟨hh.1, ?_⟩, q3⟩
    intro q hq
    have : q = 0 ∨ q = 1 ∨ q = 2 ∨ q = 3 := by omega
    rcases this with p | p | p | p <;> subst p
    · exact hh.2.1
    · exact hh.2.2.1
    · exact hh.2.2.2.1
    · exact hh.2.2.2.2
theorem tx_letter (h : TxX X t n) (hi : X 95 31 = (s : Int)) {j : Nat} (hj : s + j < n) (hz : z = (j : Int)) : f_X8_letterAt z X = some (X, t (s + j)) := by
  have hn := h.2.1
  unfold f_X8_letterAt
  rw [hi, ix_t (by omega), show ((s : Int) + z).toNat = s + j by omega, (h.2.2 _ hj).1]
/-- the model: which command -/
theorem tx_cmd (h : TxX X t n) (hi : X 95 31 = (s : Int)) (hs : s ≤ n) : (Wput t n s ∧ f_X8_commandHere X = some (X, 1)) ∨ (Wt t n s ∧ f_X8_commandHere X = some (X, 2)) ∨ (Wl t n s ∧ f_X8_commandHere X = some (X, 3)) ∨ (¬ Wput t n s ∧ ¬ Wt t n s ∧ ¬ Wl t n s ∧ f_X8_commandHere X = some (X, 0)) := by
  have hn := h.2.1
  have hle : ad isL t n s ≤ n := ad_le hs
  have hge : s ≤ ad isL t n s := ad_ge
  unfold f_X8_commandHere
  rw [tx_letters h hi hs, bd_some]
  by_cases h3 : ad isL t n s = s + 3
  · have hno : ¬ Wt t n s ∧ ¬ Wl t n s := ⟨fun hh => by have := hh.1; omega, fun hh => by have := hh.1; omega⟩
    have r0 := (h.2.2 s (by omega)).2
    have r1 := (h.2.2 (s + 1) (by omega)).2
    have r2 := (h.2.2 (s + 2) (by omega)).2
    rw [tEq (by omega), tx_letter h hi (j := 0) (by omega) (by rfl), bd_some, Nat.add_zero]
    by_cases c0 : t s = 112
    · rw [tEq (by omega), tx_letter h hi (j := 1) (by omega) (by rfl), bd_some]
      by_cases c1 : t (s + 1) = 117
      · rw [tEq (by omega), tx_letter h hi (j := 2) (by omega) (by rfl), bd_some]
        by_cases c2 : t (s + 2) = 116
        · rw [tEq (by omega)]
          exact Or.inl ⟨⟨h3, c0, c1, c2⟩, rfl⟩
        · rw [fEq (by omega)]
          exact Or.inr (Or.inr (Or.inr ⟨fun hh => c2 hh.2.2.2, hno.1, hno.2, rfl⟩))
      · rw [fEq (by omega)]
        exact Or.inr (Or.inr (Or.inr ⟨fun hh => c1 hh.2.2.1, hno.1, hno.2, rfl⟩))
    · rw [fEq (by omega)]
      exact Or.inr (Or.inr (Or.inr ⟨fun hh => c0 hh.2.1, hno.1, hno.2, rfl⟩))
  · rw [fEq (by omega)]
    have hnp : ¬ Wput t n s := fun hh => h3 hh.1
    by_cases h4 : ad isL t n s = s + 4
    · have r0 := (h.2.2 s (by omega)).2
      have r1 := (h.2.2 (s + 1) (by omega)).2
      have r2 := (h.2.2 (s + 2) (by omega)).2
      have r3 := (h.2.2 (s + 3) (by omega)).2
      have ldc : ¬ Wt t n s → ((Wl t n s ∧ (bd (f_X8_letterAt (0) X) (fun C97 r97 => (cEq (r97) (108) (bd (f_X8_letterAt (1) C97) (fun C107 r107 => (cEq (r107) (111) (bd (f_X8_letterAt (2) C107) (fun C117 r117 => (cEq (r117) (97) (bd (f_X8_letterAt (3) C117) (fun C127 r127 => (cEq (r127) (100) (some (C127, (3 : Int))) (some (C127, 0))))) (some (C117, 0))))) (some (C107, 0))))) (some (C97, 0))))) = some (X, 3)) ∨ (¬ Wl t n s ∧ (bd (f_X8_letterAt (0) X) (fun C97 r97 => (cEq (r97) (108) (bd (f_X8_letterAt (1) C97) (fun C107 r107 => (cEq (r107) (111) (bd (f_X8_letterAt (2) C107) (fun C117 r117 => (cEq (r117) (97) (bd (f_X8_letterAt (3) C117) (fun C127 r127 => (cEq (r127) (100) (some (C127, (3 : Int))) (some (C127, 0))))) (some (C117, 0))))) (some (C107, 0))))) (some (C97, 0))))) = some (X, 0))) := by
        intro _
        rw [tx_letter h hi (j := 0) (by omega) (by rfl), bd_some, Nat.add_zero]
        by_cases c0 : t s = 108
        · rw [tEq (by omega), tx_letter h hi (j := 1) (by omega) (by rfl), bd_some]
          by_cases c1 : t (s + 1) = 111
          · rw [tEq (by omega), tx_letter h hi (j := 2) (by omega) (by rfl), bd_some]
            by_cases c2 : t (s + 2) = 97
            · rw [tEq (by omega), tx_letter h hi (j := 3) (by omega) (by rfl), bd_some]
              by_cases c3 : t (s + 3) = 100
              · rw [tEq (by omega)]
                exact Or.inl ⟨⟨h4, c0, c1, c2, c3⟩, rfl⟩
              · rw [fEq (by omega)]
                exact Or.inr ⟨fun hh => c3 hh.2.2.2.2, rfl⟩
            · rw [fEq (by omega)]
              exact Or.inr ⟨fun hh => c2 hh.2.2.2.1, rfl⟩
          · rw [fEq (by omega)]
            exact Or.inr ⟨fun hh => c1 hh.2.2.1, rfl⟩
        · rw [fEq (by omega)]
          exact Or.inr ⟨fun hh => c0 hh.2.1, rfl⟩
      rw [tEq (by omega), tx_letter h hi (j := 0) (by omega) (by rfl), bd_some, Nat.add_zero, jn_eq]
      have fin : ¬ Wt t n s → (Wput t n s ∧ (fun (C_95 : Mem) => (bd (f_X8_letterAt (0) C_95) (fun C97 r97 => (cEq (r97) (108) (bd (f_X8_letterAt (1) C97) (fun C107 r107 => (cEq (r107) (111) (bd (f_X8_letterAt (2) C107) (fun C117 r117 => (cEq (r117) (97) (bd (f_X8_letterAt (3) C117) (fun C127 r127 => (cEq (r127) (100) (some (C127, (3 : Int))) (some (C127, 0))))) (some (C117, 0))))) (some (C107, 0))))) (some (C97, 0)))))) X = some (X, 1)) ∨ (Wt t n s ∧ (fun (C_95 : Mem) => (bd (f_X8_letterAt (0) C_95) (fun C97 r97 => (cEq (r97) (108) (bd (f_X8_letterAt (1) C97) (fun C107 r107 => (cEq (r107) (111) (bd (f_X8_letterAt (2) C107) (fun C117 r117 => (cEq (r117) (97) (bd (f_X8_letterAt (3) C117) (fun C127 r127 => (cEq (r127) (100) (some (C127, (3 : Int))) (some (C127, 0))))) (some (C117, 0))))) (some (C107, 0))))) (some (C97, 0)))))) X = some (X, 2)) ∨ (Wl t n s ∧ (fun (C_95 : Mem) => (bd (f_X8_letterAt (0) C_95) (fun C97 r97 => (cEq (r97) (108) (bd (f_X8_letterAt (1) C97) (fun C107 r107 => (cEq (r107) (111) (bd (f_X8_letterAt (2) C107) (fun C117 r117 => (cEq (r117) (97) (bd (f_X8_letterAt (3) C117) (fun C127 r127 => (cEq (r127) (100) (some (C127, (3 : Int))) (some (C127, 0))))) (some (C117, 0))))) (some (C107, 0))))) (some (C97, 0)))))) X = some (X, 3)) ∨ (¬ Wput t n s ∧ ¬ Wt t n s ∧ ¬ Wl t n s ∧ (fun (C_95 : Mem) => (bd (f_X8_letterAt (0) C_95) (fun C97 r97 => (cEq (r97) (108) (bd (f_X8_letterAt (1) C97) (fun C107 r107 => (cEq (r107) (111) (bd (f_X8_letterAt (2) C107) (fun C117 r117 => (cEq (r117) (97) (bd (f_X8_letterAt (3) C117) (fun C127 r127 => (cEq (r127) (100) (some (C127, (3 : Int))) (some (C127, 0))))) (some (C117, 0))))) (some (C107, 0))))) (some (C97, 0)))))) X = some (X, 0)) := by
        intro hnt
        rcases ldc hnt with ⟨q1, q2⟩ | ⟨q1, q2⟩
        · exact Or.inr (Or.inr (Or.inl ⟨q1, q2⟩))
        · exact Or.inr (Or.inr (Or.inr ⟨hnp, hnt, q1, q2⟩))
      by_cases c0 : t s = 116
      · rw [tEq (by omega), tx_letter h hi (j := 1) (by omega) (by rfl), bd_some]
        by_cases c1 : t (s + 1) = 97
        · rw [tEq (by omega), tx_letter h hi (j := 2) (by omega) (by rfl), bd_some]
          by_cases c2 : t (s + 2) = 107
          · rw [tEq (by omega), tx_letter h hi (j := 3) (by omega) (by rfl), bd_some]
            by_cases c3 : t (s + 3) = 101
            · rw [tEq (by omega)]
              exact Or.inr (Or.inl ⟨⟨h4, c0, c1, c2, c3⟩, rfl⟩)
            · rw [fEq (by omega)]
              exact fin (fun hh => c3 hh.2.2.2.2)
          · rw [fEq (by omega)]
            exact fin (fun hh => c2 hh.2.2.2.1)
        · rw [fEq (by omega)]
          exact fin (fun hh => c1 hh.2.2.1)
      · rw [fEq (by omega)]
        exact fin (fun hh => c0 hh.2.1)
    · rw [fEq (by omega)]
      exact Or.inr (Or.inr (Or.inr ⟨hnp, fun hh => h4 hh.1, fun hh => h4 hh.1, rfl⟩))
end CM

/-! THE INVARIANT; calls that change. -/
def TextOk (C X : Mem) : Prop := ∃ n : Nat, n ≤ 120 ∧ C 4 1 = (n : Int) ∧ X 95 30 = (n : Int) ∧ ∀ j, j < n → C 25 j = X 113 j ∧ 0 ≤ C 25 j ∧ C 25 j ≤ 255
def ImgOk (C X : Mem) (k : Nat) : Prop := (C (6 + k) 3 = 0 ∧ X 112 k = 0) ∨ (C (6 + k) 3 = 1 ∧ ∃ P root L, GoodS P root L ∧ C (6 + k) 1 = (root : Int) ∧ C (6 + k) 2 = (L : Int) ∧ X 111 k = (root : Int) ∧ X 112 k = (L : Int) ∧ (∀ i, i < 32 → ∀ j, j < 64 → C (8 + k) (64 * i + j) = eP (P i) j) ∧ (∀ i, i < 32 → ∀ j, j < 64 → X 110 (2048 * k + (64 * i + j)) = eP (P i) j))
def TreeOk (C X : Mem) : Prop := ∃ P root L c1 c2 c3, RC C P root L c1 c2 c3 ∧ RX X P root L c1 c2 c3 ∧ GoodS P root L
def Inv (C X : Mem) : Prop := TreeOk C X ∧ TextOk C X ∧ ImgOk C X 0 ∧ ImgOk C X 1
section IV
variable {C C' X X' : Mem} {P P' : Nat → Pg} {c1 c2 c3 a b c z : Int} {n k root L : Nat} {w : List Int}
theorem Text_kp (h : TextOk C X) (h1 : KpC C C') (h2 : KpX X X') : TextOk C' X' := by
  obtain ⟨n, n1, n2, n3, n4⟩ := h
  refine ⟨n, n1, ?_, ?_, ?_⟩
  · rw [h1 _ _ (by omega) (by omega) (by omega)]; exact n2
  · rw [h2 _ _ (by omega)]; exact n3
  · intro j hj
    rw [h1 _ _ (by omega) (by omega) (by omega), h2 _ _ (by omega)]; exact n4 j hj
theorem Img_kp (hk : k < 2) (h : ImgOk C X k) (h1 : KpC C C') (h2 : KpX X X') : ImgOk C' X' k := by
  rcases h with ⟨q1, q2⟩ | ⟨q1, P, root, L, g1, g2, g3, g4, g5, g6, g7⟩
  · exact Or.inl ⟨by rw [h1 _ _ (by omega) (by omega) (by omega)]; exact q1, by rw [h2 _ _ (by omega)]; exact q2⟩
  · refine Or.inr ⟨by rw [h1 _ _ (by omega) (by omega) (by omega)]; exact q1, P, root, L, g1, ?_, ?_, ?_, ?_, ?_, ?_⟩
    · rw [h1 _ _ (by omega) (by omega) (by omega)]; exact g2
    · rw [h1 _ _ (by omega) (by omega) (by omega)]; exact g3
    · rw [h2 _ _ (by omega)]; exact g4
    · rw [h2 _ _ (by omega)]; exact g5
    · intro i hi j hj; rw [h1 _ _ (by omega) (by omega) (by omega)]; exact g6 i hi j hj
    · intro i hi j hj; rw [h2 _ _ (by omega)]; exact g7 i hi j hj
theorem Inv_kp (h : Inv C X) (ht : TreeOk C' X') (h1 : KpC C C') (h2 : KpX X X') : Inv C' X' := ⟨ht, Text_kp h.2.1 h1 h2, Img_kp (by omega) h.2.2.1 h1 h2, Img_kp (by omega) h.2.2.2 h1 h2⟩
theorem Fin_Inv {o1 o2 : Option (Mem × Int)} (h : Inv C X) (hf : FinA C X o1 o2 z z) : Agree Inv o1 o2 := by
  obtain ⟨C', X', P', root', L', d1, d2, d3, g1, g2, g3, g4, g5, g6, g7⟩ := hf
  exact ⟨C', X', z, g1, g2, Inv_kp h ⟨P', root', L', d1, d2, d3, g3, g4, g5⟩ g6 g7⟩
/-- only places that don't count -/
theorem Tree_kp (h : TreeOk C X) (h1 : ∀ x y, (x = 1 ∨ x = 2 ∨ (61 ≤ x ∧ x < 93)) → C' x y = C x y) (h2 : ∀ a b, (a = 96 ∨ (a = 95 ∧ b < 6)) → X' a b = X a b) : TreeOk C' X' := by
  obtain ⟨P, root, L, c1, c2, c3, r1, r2, r3⟩ := h
  refine ⟨P, root, L, c1, c2, c3, ⟨?_, ?_, ?_, ?_, ?_, ?_⟩, ⟨?_, ?_, ?_, ?_, ?_, ?_⟩, r3⟩
  · intro i hi j hj; rw [h1 _ _ (by omega)]; exact r1.1 i hi j hj
  · rw [h1 _ _ (by omega)]; exact r1.2.1
  · rw [h1 _ _ (by omega)]; exact r1.2.2.1
  · rw [h1 _ _ (by omega)]; exact r1.2.2.2.1
  · rw [h1 _ _ (by omega)]; exact r1.2.2.2.2.1
  · rw [h1 _ _ (by omega)]; exact r1.2.2.2.2.2
  · intro i hi j hj; rw [h2 _ _ (by omega)]; exact r2.1 i hi j hj
  · rw [h2 _ _ (by omega)]; exact r2.2.1
  · rw [h2 _ _ (by omega)]; exact r2.2.2.1
  · rw [h2 _ _ (by omega)]; exact r2.2.2.2.1
  · rw [h2 _ _ (by omega)]; exact r2.2.2.2.2.1
  · rw [h2 _ _ (by omega)]; exact r2.2.2.2.2.2
theorem sp_within (ha : R32 a) (hb : R32 b) (hc : R32 c) : f_X7_isWithin a b c C = some (C, if b ≤ a ∧ a ≤ c then 1 else 0) := by
  simp only [R32] at ha hb hc
  unfold f_X7_isWithin
  by_cases h1 : a < b
  · rw [tLt (by omega), if_neg (by omega)]
  · rw [fLt (by omega)]
    by_cases h2 : c < a
    · rw [tLt (by omega), if_neg (by omega)]
    · rw [fLt (by omega), if_pos (by omega)]
theorem mx_within (ha : R32 a) (hb : R32 b) (hc : R32 c) : f_X8_in a b c X = some (X, if b ≤ a ∧ a ≤ c then 1 else 0) := by
  simp only [R32] at ha hb hc
  unfold f_X8_in
  by_cases h1 : a < b
  · rw [tLt (by omega), if_neg (by omega)]
  · rw [fLt (by omega)]
    by_cases h2 : c < a
    · rw [tLt (by omega), if_neg (by omega)]
    · rw [fLt (by omega), if_pos (by omega)]
theorem sp_isByte (ha : R32 a) : f_X7_isByte a C = some (C, if 0 ≤ a ∧ a ≤ 255 then 1 else 0) := by
  unfold f_X7_isByte
  rw [sp_within ha (by simp only [R32]; omega) (by simp only [R32]; omega), bd_some, bo_b]
/-- powers of 26 -/
def p26 : Nat → Int
  | 0 => 1
  | n + 1 => p26 n * 26
theorem lp_sp {K : Int → Int → Mem → Option (Mem × Int)} {u0 : Int} : ∀ (m n : Nat) (j : Nat) (v2 v3 : Int), j + m ≤ 5 → v2 = p26 j → v3 = (j : Int) → m < n → f_X7_isSpelled_15 u0 ((j + m : Nat) : Int) K n v2 v3 C = K (p26 (j + m)) ((j + m : Nat) : Int) C
  | _, 0 => by intros; omega
  | 0, n + 1 => by
    intro j v2 v3 h1 h2 h3 _
    unfold f_X7_isSpelled_15
    rw [fLt (by omega), h2, h3]
    rfl
  | m + 1, n + 1 => by
    intro j v2 v3 h1 h2 h3 hn
    have ih := lp_sp (K := K) (u0 := u0) m n (j + 1) (v2 * 26) (v3 + 1) (by omega) (by rw [h2]; rfl) (by omega) (by omega)
    rw [show j + 1 + m = j + (m + 1) by omega] at ih
    unfold f_X7_isSpelled_15
    rw [tLt (by omega)]
    exact ih
def SpOk (a b : Int) : Prop := 1 ≤ b ∧ b ≤ 5 ∧ 0 ≤ a ∧ a ≤ p26 b.toNat - 1
theorem p26_le : ∀ n, n ≤ 5 → 1 ≤ p26 n ∧ p26 n ≤ 11881376 := by
  intro n hn
  have : n = 0 ∨ n = 1 ∨ n = 2 ∨ n = 3 ∨ n = 4 ∨ n = 5 := by omega
  rcases this with h | h | h | h | h | h <;> subst h <;> decide
theorem sp_spelled (ha : R32 a) (hb : R32 b) : f_X7_isSpelled a b C = some (C, 1) ∧ SpOk a b ∨ f_X7_isSpelled a b C = some (C, 0) ∧ ¬ SpOk a b := by
  have hfu := FU_eq
  unfold f_X7_isSpelled
  rw [sp_within hb (by simp only [R32]; omega) (by simp only [R32]; omega), bd_some, cEq_b]
  by_cases h : 1 ≤ b ∧ b ≤ 5
  · rw [if_pos h]
    have hp := p26_le b.toNat (by omega)
    have hbn : ((0 + b.toNat : Nat) : Int) = b := by omega
    have q := lp_sp (C := C) (u0 := a) (K := (fun (v2_e15 : Int) (v3_e15 : Int) (C_e15 : Mem) => (bd (f_X7_isWithin (a) (0) (v2_e15 - 1) C_e15) (fun C36 r36 => (bo (r36) (some (C36, r36))))))) b.toNat FU 0 1 0 (by omega) rfl rfl (by omega)
    rw [hbn, Nat.zero_add] at q
    rw [q, sp_within ha (by simp only [R32]; omega) (by simp only [R32]; omega), bd_some, bo_b]
    by_cases h2 : 0 ≤ a ∧ a ≤ p26 b.toNat - 1
    · rw [if_pos h2]; exact Or.inl ⟨rfl, h.1, h.2, h2⟩
    · rw [if_neg h2]; exact Or.inr ⟨rfl, fun q => h2 q.2.2⟩
  · rw [if_neg h]
    exact Or.inr ⟨rfl, fun q => h ⟨q.1, q.2.1⟩⟩
theorem lm_sp {K : Int → Int → Mem → Option (Mem × Int)} {u0 u1 : Int} (hu : R32 u1) : ∀ (m n : Nat) (j : Nat) (v2 v3 : Int), (j : Int) + m = max 0 (min u1 5) → v2 = p26 j → v3 = (j : Int) → m < n → f_X8_isSpelled_4 u0 u1 K n v2 v3 X = K (p26 (j + m)) ((j + m : Nat) : Int) X
  | _, 0 => by intros; omega
  | 0, n + 1 => by
    intro j v2 v3 h1 h2 h3 _
    simp only [R32] at hu
    unfold f_X8_isSpelled_4
    by_cases h : (j : Int) < u1
    · rw [tLt (by omega), fLt (by omega), h2, h3]
      rfl
    · rw [fLt (by omega), h2, h3]
      rfl
  | m + 1, n + 1 => by
    intro j v2 v3 h1 h2 h3 hn
    have hu' := hu
    simp only [R32] at hu'
    have ih := lm_sp (K := K) (u0 := u0) hu m n (j + 1) (v2 * 26) (v3 + 1) (by omega) (by rw [h2]; rfl) (by omega) (by omega)
    rw [show j + 1 + m = j + (m + 1) by omega] at ih
    unfold f_X8_isSpelled_4
    rw [tLt (by omega), tLt (by omega)]
    exact ih
theorem mx_spelled (ha : R32 a) (hb : R32 b) : f_X8_isSpelled a b X = some (X, 1) ∧ SpOk a b ∨ f_X8_isSpelled a b X = some (X, 0) ∧ ¬ SpOk a b := by
  have hfu := FU_eq
  unfold f_X8_isSpelled
  have hp := p26_le (max 0 (min b 5)).toNat (by omega)
  have q := lm_sp (X := X) (u0 := a) (u1 := b) (K := (fun (v2_e4 : Int) (v3_e4 : Int) (C_e4 : Mem) => (bd (f_X8_in (b) (1) (5) C_e4) (fun C28 r28 => (cEq (r28) 0 (some (C28, 0)) (bd (f_X8_in (a) (0) (v2_e4 - 1) C28) (fun C39 r39 => (cEq (r39) 0 (some (C39, 0)) (some (C39, 1)))))))))) hb (max 0 (min b 5)).toNat FU 0 1 0 (by omega) rfl rfl (by omega)
  rw [Nat.zero_add] at q
  rw [q, mx_within hb (by simp only [R32]; omega) (by simp only [R32]; omega), bd_some, cEq_b]
  by_cases h : 1 ≤ b ∧ b ≤ 5
  · rw [if_pos h, mx_within ha (by simp only [R32]; omega) (by simp only [R32]; omega), bd_some, cEq_b, show (max 0 (min b 5)).toNat = b.toNat by omega]
    by_cases h2 : 0 ≤ a ∧ a ≤ p26 b.toNat - 1
    · rw [if_pos h2]; exact Or.inl ⟨rfl, h.1, h.2, h2⟩
    · rw [if_neg h2]; exact Or.inr ⟨rfl, fun q => h2 q.2.2⟩
  · rw [if_neg h]
    exact Or.inr ⟨rfl, fun q => h ⟨q.1, q.2.1⟩⟩
theorem both_spelled (ha : R32 a) (hb : R32 b) : (f_X7_isSpelled a b C = some (C, 1) ∧ f_X8_isSpelled a b X = some (X, 1) ∧ SpOk a b) ∨ (f_X7_isSpelled a b C = some (C, 0) ∧ f_X8_isSpelled a b X = some (X, 0)) := by
  rcases sp_spelled (C := C) ha hb with ⟨h1, h2⟩ | ⟨h1, h2⟩
  · rcases mx_spelled (X := X) ha hb with ⟨g1, g2⟩ | ⟨g1, g2⟩
    · exact Or.inl ⟨h1, g1, h2⟩
    · exact absurd h2 g2
  · rcases mx_spelled (X := X) ha hb with ⟨g1, g2⟩ | ⟨g1, g2⟩
    · exact absurd g2 h2
    · exact Or.inr ⟨h1, g1⟩
/-- the key is spelled on both sides -/
theorem both_key (hs : SpOk a b) (h : Inv C X) : ∃ X1, f_X3_spell 0 a b C = some (stK C 0 (spl b.toNat a), 0) ∧ f_X8_spells a b X = some (X1, 0) ∧ KyC (stK C 0 (spl b.toNat a)) 0 (spl b.toNat a) ∧ KX X1 (spl b.toNat a) ∧ 1 ≤ (spl b.toNat a).length ∧ TreeOk (stK C 0 (spl b.toNat a)) X1 ∧ KpC C (stK C 0 (spl b.toNat a)) ∧ KpX X X1 ∧ Inv (stK C 0 (spl b.toNat a)) X1 := by
  obtain ⟨h1, h2, h3, h4⟩ := hs
  have hp := p26_le b.toNat (by omega)
  obtain ⟨X1, x1, x2, x3⟩ := mx_spells (X := X) (n := b.toNat) (r := a) (r2 := b) (by omega) (by omega) h3 (by omega)
  have k1 : KpC C (stK C 0 (spl b.toNat a)) := fun x y _ _ hx => stK_o (by omega) (by omega)
  have k2 : KpX X X1 := fun x y hx => x3 x y (by omega) (by omega)
  have ht : TreeOk (stK C 0 (spl b.toNat a)) X1 := Tree_kp h.1 (fun x y hx => stK_o (by omega) (by omega)) (fun x y hx => x3 x y (by omega) (by omega))
  exact ⟨X1, sp_spell (by omega) (by omega) h3 (by omega), x1, stK_KC (spl_LOk (by omega) a), x2, by rw [spl_len]; omega, ht, k1, k2, Inv_kp h ht k1 k2⟩
theorem ag_put (h : Inv C X) (ha : R32 a) (hb : R32 b) (hc : R32 c) : Agree Inv (f_X7_put a b c C) (f_X8_put a b c X) := by
  unfold f_X7_put f_X8_put
  rcases both_spelled (C := C) (X := X) ha hb with ⟨g1, g2, g3⟩ | ⟨g1, g2⟩
  · rw [g1, g2, bd_some, bd_some, fEq (by omega), fEq (by omega), sp_isByte hc, mx_within hc (by simp only [R32]; omega) (by simp only [R32]; omega), bd_some, bd_some, cEq_b, cEq_b]
    by_cases hv : 0 ≤ c ∧ c ≤ 255
    · rw [if_pos hv, if_pos hv]
      obtain ⟨X1, k1, k2, k3, k4, k5, k6, k7, k8, k9⟩ := both_key g3 h
      obtain ⟨P, root, L, d1, d2, d3, r1, r2, r3⟩ := k6
      obtain ⟨y, y1, y2, hf⟩ := put_key r3 r1 r2 k3 (by omega) (by omega) k4 k5 hv
      have := Fin_Inv k9 hf
      obtain ⟨C', X', z, q1, q2, q3⟩ := this
      rw [k1, k2, bd_some, bd_some, q1, q2, bd_some, bd_some]
      exact ⟨C', X', z, rfl, rfl, q3⟩
    · rw [if_neg hv, if_neg hv]
      exact ⟨C, X, -1, rfl, rfl, h⟩
  · rw [g1, g2, bd_some, bd_some, tEq (by omega), tEq (by omega)]
    exact ⟨C, X, -1, rfl, rfl, h⟩
theorem ag_take (h : Inv C X) (ha : R32 a) (hb : R32 b) : Agree Inv (f_X7_take a b C) (f_X8_take a b X) := by
  unfold f_X7_take f_X8_take
  rcases both_spelled (C := C) (X := X) ha hb with ⟨g1, g2, g3⟩ | ⟨g1, g2⟩
  · rw [g1, g2, bd_some, bd_some, fEq (by omega), fEq (by omega)]
    obtain ⟨X1, k1, k2, k3, k4, k5, k6, k7, k8, k9⟩ := both_key g3 h
    obtain ⟨P, root, L, d1, d2, d3, r1, r2, r3⟩ := k6
    obtain ⟨y, y1, y2, hf⟩ := take_key r3 r1 r2 k3 (by omega) k4
    obtain ⟨C', X', z, q1, q2, q3⟩ := Fin_Inv k9 hf
    rw [k1, k2, bd_some, bd_some, q1, q2, bd_some, bd_some]
    exact ⟨C', X', z, rfl, rfl, q3⟩
  · rw [g1, g2, bd_some, bd_some, tEq (by omega), tEq (by omega)]
    exact ⟨C, X, -1, rfl, rfl, h⟩
theorem ag_find (h : Inv C X) (ha : R32 a) (hb : R32 b) : Agree Inv (f_X7_find a b C) (f_X8_find a b X) := by
  unfold f_X7_find f_X8_find
  rcases both_spelled (C := C) (X := X) ha hb with ⟨g1, g2, g3⟩ | ⟨g1, g2⟩
  · rw [g1, g2, bd_some, bd_some, fEq (by omega), fEq (by omega)]
    obtain ⟨X0, k1, k2, k3, k4, k5, k6, k7, k8, k9⟩ := both_key g3 h
    generalize spl b.toNat a = w at *
    obtain ⟨P, root, L, d1, d2, d3, r1, r2, V, lvl, hg⟩ := k6
    obtain ⟨C1, X1, W, T, As, Bs, ss, m, hm, hd, hpth, hcp, hi32, hi1, f1, hRC1, hWC, hKC1, hkc, x1, hRX1, hWX, hKX1, hkx⟩ := both_down hg r1 r2 k3 (by omega) k4
    have hfin : Inv C1 X1 := Inv_kp k9 ⟨P, root, L, d1, d2, d3, hRC1, hRX1, V, lvl, hg⟩ hkc hkx
    have hcore := hg.1
    have hL32 := hg.2.2.2.2.1
    obtain ⟨ea, eb, hes, hal, hea, heb⟩ := leaf_at w (P (W m)).2.2
    have hpC := TC_pg hcore.1 hRC1.1 hi32
    have hpX := TX_pg hcore.1 hRX1.1 hi32
    have hpi : P (W m) = (1, (P (W m)).2.1, ea ++ eb) := by rw [← hes, ← hi1]
    have hpC' : PgC C1 (W m) 1 (P (W m)).2.1 (ea ++ eb) := by rw [hpi] at hpC; exact hpC
    have hpX' : PgX X1 (W m) 1 (P (W m)).2.1 (ea ++ eb) := by rw [hpi] at hpX; exact hpX
    have hpo := sp_pageOn hWC hL32 (t := m) (by omega) hi32 (z := (L : Int) - 1) (by omega)
    have hbl := sp_below (t := 0) (Or.inl rfl) hpC' hKC1
    have hpl := mx_place (p := ((W m : Nat) : Int)) hpX' rfl hKX1
    rw [hes] at hal
    rw [← hal] at hbl hpl
    have hway : X1 102 ((L : Int) - 1).toNat = ((W m : Nat) : Int) := by rw [show ((L : Int) - 1).toNat = m by omega]; exact hWX.1 m (by omega)
    have preC : (bd (f_X6_goDown 0 (stK C 0 w)) (fun C27 _ => (bd (f_X6_pageOn ((C27 1 5) - 1) C27) (fun C43 r43 => (bd (f_X4_entriesBelow r43 0 (0) C43) (fun C53 r53 => (bd (f_X4_isEntry r43 (r53) 0 C53) (fun C65 r65 => (cEq (r65) 0 (some (C65, -9)) (bd (f_X4_tail r43 (r53) C65) (fun C74 r74 => (some (C74, r74))))))))))))) = bd (f_X4_isEntry (W m) (ea.length : Int) 0 C1) (fun C65 r65 => (cEq (r65) 0 (some (C65, -9)) (bd (f_X4_tail (W m) (ea.length : Int) C65) (fun C74 r74 => (some (C74, r74)))))) := by
      rw [f1, bd_some, hRC1.2.2.1, hpo, bd_some, hbl, bd_some]
    have preX : f_X8_valueOf X0 = bd (f_X8_isAt ((W m : Nat) : Int) (ea.length : Int) X1) (fun C25 r25 => (cEq (r25) 0 (some (C25, -9)) (bd (f_X8_tellAt ((W m : Nat) : Int) (ea.length : Int) C25) (fun C38 r38 => (ix (r38) 2048 (some (C38, C38 (96) (r38).toNat))))))) := by
      unfold f_X8_valueOf
      rw [x1, bd_some, hRX1.2.2.1, ix_t (by omega), hway, hpl, bd_some]
    rw [k1, k2, bd_some, bd_some, preC, preX]
    rcases heb with ⟨e, b', hb1, hb2⟩ | heb
    · rw [hb1] at hpC' hpX' hes
      have hsz := hpX'.2.2.1
      rw [szs_app, szs_cons] at hsz
      have hv96 : X1 96 (64 * W m + (3 + szs ea + 1 + e.1.length)) = e.2 := by
        rw [hpX'.1 _ (by omega), enc_tail rfl]
      rw [sp_isEntry hpC' hKC1 rfl, bd_some, if_pos hb2, fEq (by omega), sp_tail hpC' rfl, bd_some, mx_isAt hpX' rfl hKX1 rfl, bd_some, if_pos hb2, fEq (by omega), mx_tell hpX' rfl rfl, bd_some, ix_t (by omega), nat2 rfl, hv96]
      exact ⟨C1, X1, e.2, rfl, rfl, hfin⟩
    · have hisC : f_X4_isEntry (W m) (ea.length : Int) 0 C1 = some (C1, 0) := by
        cases eb with
        | nil =>
          rw [List.append_nil] at hpC'
          exact sp_isEntry_end hpC' rfl
        | cons e b' => rw [sp_isEntry hpC' hKC1 rfl, if_neg (heb e rfl).2]
      have hisX : f_X8_isAt ((W m : Nat) : Int) (ea.length : Int) X1 = some (X1, 0) := by
        cases eb with
        | nil =>
          rw [List.append_nil] at hpX'
          exact mx_isAt_end hpX' rfl rfl
        | cons e b' => rw [mx_isAt hpX' rfl hKX1 rfl, if_neg (heb e rfl).2]
      rw [hisC, bd_some, tEq (by omega), hisX, bd_some, tEq (by omega)]
      exact ⟨C1, X1, -9, rfl, rfl, hfin⟩
  · rw [g1, g2, bd_some, bd_some, tEq (by omega), tEq (by omega)]
    exact ⟨C, X, -1, rfl, rfl, h⟩
theorem ag_path (h : Inv C X) (ha : R32 a) (hb : R32 b) (hc : R32 c) : Agree Inv (f_X7_path a b c C) (f_X8_path a b c X) := by
  simp only [R32] at hc
  unfold f_X7_path f_X8_path
  rcases both_spelled (C := C) (X := X) ha hb with ⟨g1, g2, g3⟩ | ⟨g1, g2⟩
  · rw [g1, g2, bd_some, bd_some, fEq (by omega), fEq (by omega)]
    by_cases hc0 : c < 0
    · rw [tLt (by omega), tLt (by omega)]
      exact ⟨C, X, -1, rfl, rfl, h⟩
    · rw [fLt (a := c) (b := 0) (by omega), fLt (a := c) (b := 0) (by omega)]
      obtain ⟨X0, k1, k2, k3, k4, k5, k6, k7, k8, k9⟩ := both_key g3 h
      generalize spl b.toNat a = w at *
      obtain ⟨P, root, L, d1, d2, d3, r1, r2, V, lvl, hg⟩ := k6
      obtain ⟨C1, X1, W, T, As, Bs, ss, m, hm, hd, hpth, hcp, hi32, hi1, f1, hRC1, hWC, hKC1, hkc, x1, hRX1, hWX, hKX1, hkx⟩ := both_down hg r1 r2 k3 (by omega) k4
      have hfin : Inv C1 X1 := Inv_kp k9 ⟨P, root, L, d1, d2, d3, hRC1, hRX1, V, lvl, hg⟩ hkc hkx
      have hL32 := hg.2.2.2.2.1
      have hCL : C 1 5 = (L : Int) := by have := r1.2.2.1; rw [stK_o (by omega) (by omega)] at this; exact this
      rw [k2, bd_some, x1, bd_some, hCL, hRX1.2.2.1]
      by_cases hcl : c < (L : Int)
      · rw [tLt (by omega), tLt (by omega), k1, bd_some, f1, bd_some, ix_t (by omega)]
        unfold f_X6_numberOn
        rw [fLt (by omega), tLt (by omega), ix_t (by omega), bd_some, hWC.1 _ (by omega), hWX.1 _ (by omega)]
        exact ⟨C1, X1, _, rfl, rfl, hfin⟩
      · rw [fLt (by omega), fLt (by omega)]
        refine ⟨C, X1, -9, rfl, rfl, ?_⟩
        obtain ⟨P0, root0, L0, e1, e2, e3, q1, q2, q3⟩ := h.1
        refine Inv_kp h ?_ KpC_refl (KpX_tr k8 hkx)
        refine ⟨P, root, L, d1, d2, d3, ⟨?_, ?_, hCL, ?_, ?_, ?_⟩, hRX1, V, lvl, hg⟩
        · exact TC_fr r1.1 (fun x y hx => (stK_o (by omega) (by omega)).symm)
        · have := r1.2.1; rw [stK_o (by omega) (by omega)] at this; exact this
        · have := r1.2.2.2.1; rw [stK_o (by omega) (by omega)] at this; exact this
        · have := r1.2.2.2.2.1; rw [stK_o (by omega) (by omega)] at this; exact this
        · have := r1.2.2.2.2.2; rw [stK_o (by omega) (by omega)] at this; exact this
  · rw [g1, g2, bd_some, bd_some, tEq (by omega), tEq (by omega)]
    exact ⟨C, X, -1, rfl, rfl, h⟩
end IV

/-! CLASS: mending, whole; the root goes. -/
section M2
variable {C C' : Mem} {P : Nat → Pg} {i j k q A L c t : Nat} {s l ll lr la : Int} {es a b x y le re ws : List Ent} {p : Pg} {e u v : Ent} {w : List Int} {W T : Nat → Nat} {root : Nat}
/-- which entry stands between a page and the neighbour that it is mended with -/
def Btw (T n c : Nat) : Prop := (T < n ∧ c = T) ∨ (n ≤ T ∧ c + 1 = T)
theorem sp_mend0 (ho : TOk P) (hT : TC C P) (hW : WayC C L W T) (hL32 : L ≤ 32) (ht : t + 1 < L) (hA : W t = A) (hA32 : A < 32) (hp : P A = (2, la, [])) (hTt : T t = 0) {z : Int} (hz : z = (t : Int) + 1) : f_X0_mend z C = some (C, 0) := by
  have hpA := TC_pg ho hT hA32
  rw [hp] at hpA
  have hpA : PgC C A 2 la [] := hpA
  have e0 := hW.2 t ht
  rw [hTt] at e0
  unfold f_X0_mend
  rw [sp_pageOn (t := t) hW hL32 (by omega) (by omega) (by omega), hA, bd_some, sp_slotOn (t := t + 1) (by omega) (by omega), bd_some, e0, sp_entries hpA, bd_some, jn_eq, fLt (by simp)]
  dsimp only
  rw [tLt (by omega)]
theorem sp_mend1 (ho : TOk P) (hT : TC C P) (hW : WayC C L W T) (hL32 : L ≤ 32) (ht : t + 1 < L) (hA : W t = A) (hA32 : A < 32) (hp : P A = (2, la, a ++ e :: b)) (hb : Btw (T t) (a ++ e :: b).length a.length) (hi : chd (P A) a.length = (i : Int)) (hi32 : i < 32) (hj : e.2 = (j : Int)) (hj32 : j < 32) (hpi : P i = (s, ll, le)) (hpj : P j = (s, lr, re)) (hs : s = 1 ∨ s = 2) (hw : Ws s e lr le re ws) {z : Int} (hz : z = (t : Int) + 1) : ∃ C1, PgC C1 33 s ll ws ∧ Fw C C1 ∧ f_X0_mend z C = cLt 64 ((3 + szs ws : Nat) : Int) (bd (f_X0_shareAnew A (a.length : Int) i j C1) (fun C123 _ => (some (C123, 0)))) (bd (f_X0_join i j C1) (fun C104 _ => (bd (f_X4_remove A (a.length : Int) C104) (fun C110 _ => (some (C110, 1)))))) := by
  have hpA := TC_pg ho hT hA32
  rw [hp] at hpA
  have hpA : PgC C A 2 la (a ++ e :: b) := hpA
  have hgi := TC_pg ho hT hi32
  rw [hpi] at hgi
  have hgi : PgC C i s ll le := hgi
  have hgj := TC_pg ho hT hj32
  rw [hpj] at hgj
  have hgj : PgC C j s lr re := hgj
  have si : szs le ≤ 61 := by have := (ho i hi32).2.1; rw [hpi] at this; exact this
  have sj : szs re ≤ 61 := by have := (ho j hj32).2.1; rw [hpj] at this; exact this
  have hlen := PgC_len hpA
  have hln : (a ++ e :: b).length = a.length + (b.length + 1) := by simp
  obtain ⟨C1, g1, g2, g3⟩ := sp_gather hpA (by omega) hgi (by omega) hgj (by omega) hw si sj (z := (a.length : Int)) rfl
  have hch := sp_child hpA (n := a.length) (by omega) (z := (a.length : Int)) rfl
  rw [hp] at hi
  rw [hi] at hch
  have hsw : szs ws ≤ 253 := (PgC_len g2).1
  refine ⟨C1, g2, g3, ?_⟩
  have e0 := hW.2 t ht
  unfold f_X0_mend
  rw [sp_pageOn (t := t) hW hL32 (by omega) (by omega) (by omega), hA, bd_some, sp_slotOn (t := t + 1) (by omega) (by omega), bd_some, e0, sp_entries hpA, bd_some, jn_eq]
  rcases hb with ⟨b1, b2⟩ | ⟨b1, b2⟩
  · rw [tLt (by omega)]
    dsimp only
    rw [show ((T t : Nat) : Int) = (a.length : Int) by omega, fLt (by omega), hch, bd_some, sp_pageOf rfl hi32, bd_some, sp_child1 hpA rfl, bd_some, sp_pageOf hj hj32, bd_some, g1, bd_some, sp_used g2 (by omega), bd_some]
  · rw [fLt (by omega)]
    dsimp only
    rw [show ((T t : Nat) : Int) - 1 = (a.length : Int) by omega, fLt (by omega), hch, bd_some, sp_pageOf rfl hi32, bd_some, sp_child1 hpA rfl, bd_some, sp_pageOf hj hj32, bd_some, g1, bd_some, sp_used g2 (by omega), bd_some]
theorem sp_mendJ (ho : TOk P) (hT : TC C P) (hW : WayC C L W T) (hL32 : L ≤ 32) (ht : t + 1 < L) (hA : W t = A) (hA32 : A < 32) (hp : P A = (2, la, a ++ e :: b)) (hb : Btw (T t) (a ++ e :: b).length a.length) (hi : chd (P A) a.length = (i : Int)) (hi32 : i < 32) (hj : e.2 = (j : Int)) (hj32 : j < 32) (hpi : P i = (s, ll, le)) (hpj : P j = (s, lr, re)) (hs : s = 1 ∨ s = 2) (hw : Ws s e lr le re ws) (h61 : szs ws ≤ 61) (hiA : i ≠ A) (hjA : j ≠ A) (hij : i ≠ j) {z : Int} (hz : z = (t : Int) + 1) : ∃ C', f_X0_mend z C = some (C', 1) ∧ TC C' (uP (uP (uP P i (s, if s = 1 then lr else ll, ws)) j (0, 0, [])) A (2, la, a ++ b)) ∧ Fc C C' ∧ C' 2 4 = C 2 4 ∧ C' 2 5 = C 2 5 + 1 ∧ C' 2 6 = C 2 6 := by
  obtain ⟨C1, g1, g2, g3⟩ := sp_mend1 ho hT hW hL32 ht hA hA32 hp hb hi hi32 hj hj32 hpi hpj hs hw hz
  have hpA := TC_pg ho hT hA32
  rw [hp] at hpA
  have hpA : PgC C A 2 la (a ++ e :: b) := hpA
  have hgj := TC_pg ho hT hj32
  rw [hpj] at hgj
  have hgj : PgC C j s lr re := hgj
  have lj : C1 (61 + j) 2 = lr := by rw [g2 _ _ (by omega) (by omega)]; exact hgj.1 2 (by rw [pl_32 hj32]; omega)
  have gA : PgC (up (stP (stP C1 i (enc s (if s = 1 then lr else ll) ws)) j (enc 0 0 [])) 2 5 (C1 2 5 + 1)) A 2 la (a ++ e :: b) := PgC_up (by omega) (PgC_k (by omega) (PgC_k (by omega) (Fw_PgC hpA (by omega) g2)))
  rw [g3, fLt (by omega), sp_join g1 hs h61 hi32 hj32 hij lj, bd_some, sp_remove gA rfl, bd_some]
  refine ⟨_, rfl, ?_, ?_, ?_, ?_, ?_⟩
  · exact TC_st (TC_up (TC_st (TC_st (Fw_TC hT g2) hi32 ⟨rfl, rfl, rfl⟩) hj32 ⟨rfl, rfl, rfl⟩) (by omega)) hA32 ⟨rfl, rfl, rfl⟩
  · exact Fc_st (Fc_up2 (Fc_st (Fc_st (Fw_Fc g2))))
  · rw [stP_k (by omega), up_j (by omega), stP_k (by omega), stP_k (by omega), g2 _ _ (by omega) (by omega)]
  · rw [stP_k (by omega), up_same, g2 _ _ (by omega) (by omega)]
  · rw [stP_k (by omega), up_j (by omega), stP_k (by omega), stP_k (by omega), g2 _ _ (by omega) (by omega)]
theorem sp_mendL (ho : TOk P) (hT : TC C P) (hW : WayC C L W T) (hL32 : L ≤ 32) (ht : t + 1 < L) (hA : W t = A) (hA32 : A < 32) (hp : P A = (2, la, a ++ e :: b)) (hb : Btw (T t) (a ++ e :: b).length a.length) (hi : chd (P A) a.length = (i : Int)) (hi32 : i < 32) (hj : e.2 = (j : Int)) (hj32 : j < 32) (hpi : P i = (1, ll, le)) (hpj : P j = (1, lr, re)) (h61 : 61 < szs (le ++ re)) (hiA : i ≠ A) (hjA : j ≠ A) (hij : i ≠ j) (hws : le ++ re = (x ++ [u]) ++ v :: y) (hh : hf (le ++ re) = (x ++ [u]).length) (hc : cmp u.1 v.1 < 0) (hx : szs (x ++ [u]) ≤ 61) (hy : szs (v :: y) ≤ 61) {z : Int} (hz : z = (t : Int) + 1) : ∃ C', f_X0_mend z C = some (C', 0) ∧ Fc C C' ∧ C' 2 4 = C 2 4 ∧ C' 2 5 = C 2 5 ∧ ((61 < szs (a ++ (sep u.1 v.1, e.2) :: b) ∧ TC C' P ∧ C' 2 6 = C 2 6) ∨ (szs (a ++ (sep u.1 v.1, e.2) :: b) ≤ 61 ∧ TC C' (uP (uP (uP P A (2, la, a ++ (sep u.1 v.1, e.2) :: b)) i (1, ll, x ++ [u])) j (1, lr, v :: y)) ∧ C' 2 6 = C 2 6 + 1)) := by
  obtain ⟨C1, g1, g2, g3⟩ := sp_mend1 ho hT hW hL32 ht hA hA32 hp hb hi hi32 hj hj32 hpi hpj (Or.inl rfl) (Or.inl ⟨rfl, rfl⟩) hz
  have hlen := PgC_len g1
  obtain ⟨C2, s1, s2, s3, s4, s5⟩ := sp_shareL ho (Fw_TC hT g2) hp hA32 hi32 hj32 hiA hjA hij g1 hws hh hc hx hy (z := (a.length : Int)) rfl
  rw [hpi, hpj] at s5
  rw [g2 _ _ (by omega) (by omega)] at s3 s4
  rw [g2 2 6 (by omega) (by omega)] at s5
  refine ⟨C2, ?_, Fc_tr (Fw_Fc g2) s2, s3, s4, s5⟩
  rw [g3, tLt (by omega), s1, bd_some]
theorem sp_mendI (ho : TOk P) (hT : TC C P) (hW : WayC C L W T) (hL32 : L ≤ 32) (ht : t + 1 < L) (hA : W t = A) (hA32 : A < 32) (hp : P A = (2, la, a ++ e :: b)) (hb : Btw (T t) (a ++ e :: b).length a.length) (hi : chd (P A) a.length = (i : Int)) (hi32 : i < 32) (hj : e.2 = (j : Int)) (hj32 : j < 32) (hpi : P i = (2, ll, le)) (hpj : P j = (2, lr, re)) (hws0 : ws = le ++ (e.1, lr) :: re) (h61 : 61 < szs ws) (hiA : i ≠ A) (hjA : j ≠ A) (hij : i ≠ j) (hws : ws = x ++ v :: y) (hh : hf ws = x.length) (hx : szs x ≤ 61) (hy : szs y ≤ 61) {z : Int} (hz : z = (t : Int) + 1) : ∃ C', f_X0_mend z C = some (C', 0) ∧ Fc C C' ∧ C' 2 4 = C 2 4 ∧ C' 2 5 = C 2 5 ∧ ((61 < szs (a ++ (v.1, e.2) :: b) ∧ TC C' P ∧ C' 2 6 = C 2 6) ∨ (szs (a ++ (v.1, e.2) :: b) ≤ 61 ∧ TC C' (uP (uP (uP P A (2, la, a ++ (v.1, e.2) :: b)) i (2, ll, x)) j (2, v.2, y)) ∧ C' 2 6 = C 2 6 + 1)) := by
  obtain ⟨C1, g1, g2, g3⟩ := sp_mend1 ho hT hW hL32 ht hA hA32 hp hb hi hi32 hj hj32 hpi hpj (Or.inr rfl) (Or.inr ⟨rfl, hws0⟩) hz
  have hlen := PgC_len g1
  obtain ⟨C2, s1, s2, s3, s4, s5⟩ := sp_shareI ho (Fw_TC hT g2) hp hA32 hi32 hj32 hiA hjA hij g1 hws hh hx hy (z := (a.length : Int)) rfl
  rw [hpi] at s5
  rw [g2 _ _ (by omega) (by omega)] at s3 s4
  rw [g2 2 6 (by omega) (by omega)] at s5
  refine ⟨C2, ?_, Fc_tr (Fw_Fc g2) s2, s3, s4, s5⟩
  rw [g3, tLt (by omega), s1, bd_some]
theorem sp_lower (ho : TOk P) (hT : TC C P) (hR : C 1 4 = (root : Int)) (hr : root < 32) (hp : P root = (2, l, [])) : ∃ C', f_X0_lowerRoot C = some (C', 0) ∧ TC C' (uP P root (0, 0, [])) ∧ C' 1 4 = l ∧ C' 1 5 = C 1 5 - 1 ∧ (∀ x y, x ≠ 1 → x < 61 → C' x y = C x y) := by
  have hpA := TC_pg ho hT hr
  rw [hp] at hpA
  have hpA : PgC C root 2 l [] := hpA
  refine ⟨stP (up (up C 1 4 l) 1 5 (C 1 5 - 1)) root (enc 0 0 []), ?_, ?_, ?_, ?_, ?_⟩
  · unfold f_X0_lowerRoot
    rw [hR, sp_pageOf rfl hr, bd_some, sp_sort hpA, bd_some, tEq (by omega), sp_entries hpA, bd_some, tEq (by simp), sp_link hpA, bd_some, sp_release, bd_some, up_j (by omega)]
  · exact TC_st (TC_up (TC_up hT (by omega)) (by omega)) hr ⟨rfl, rfl, rfl⟩
  · rw [stP_k (by omega), up_j (by omega), up_same]
  · rw [stP_k (by omega), up_same]
  · intro x y hx hy
    rw [stP_k (by omega), up_k hx, up_k hx]
theorem sp_lower0 (ho : TOk P) (hT : TC C P) (hR : C 1 4 = (root : Int)) (hr : root < 32) (hp : (P root).1 = 2 → (P root).2.2 ≠ []) : f_X0_lowerRoot C = some (C, 0) := by
  have hpA := TC_pg ho hT hr
  have hs := (ho root hr).2.2.1
  unfold f_X0_lowerRoot
  rw [hR, sp_pageOf rfl hr, bd_some, sp_sort hpA, bd_some]
  by_cases h2 : (P root).1 = 2
  · have hn := hp h2
    have hl := PgC_len hpA
    have : (P root).2.2.length ≠ 0 := fun h => hn (List.length_eq_zero_iff.mp h)
    rw [tEq (by omega), sp_entries hpA, bd_some, fEq (by omega)]
  · rw [fEq (by omega)]
/-- how many pages are of a sort -/
def nS (P : Nat → Pg) (s : Int) : Nat → Nat
  | 0 => 0
  | n + 1 => nS P s n + (if (P n).1 = s then 1 else 0)
theorem nS_le (P : Nat → Pg) (s : Int) : ∀ n, nS P s n ≤ n
  | 0 => by simp [nS]
  | n + 1 => by have := nS_le P s n; unfold nS; split <;> omega
theorem lp_pos {K : Int → Int → Mem → Option (Mem × Int)} (ho : TOk P) (hT : TC C P) (hs : 0 ≤ s ∧ s ≤ 2) : ∀ (m n : Nat) (v2 v3 : Int), m ≤ 32 → v2 = ((nS P s (32 - m) : Nat) : Int) → v3 = ((32 - m : Nat) : Int) → m < n → f_X6_pagesOfSort_4 s K n v2 v3 C = K ((nS P s 32 : Nat) : Int) 32 C
  | _, 0 => by intros; omega
  | 0, n + 1 => by
    intro v2 v3 _ h2 h3 _
    unfold f_X6_pagesOfSort_4
    rw [fLt (by omega), h2, h3]
    rfl
  | m + 1, n + 1 => by
    intro v2 v3 hm h2 h3 hn
    have hp := sp_sort (TC_pg ho hT (show 32 - (m + 1) < 32 by omega))
    have hsr := (ho (32 - (m + 1)) (by omega)).2.2.1
    have hst : nS P s (32 - m) = nS P s (32 - (m + 1)) + (if (P (32 - (m + 1))).1 = s then 1 else 0) := by
      rw [show 32 - m = (32 - (m + 1)) + 1 by omega]; rfl
    unfold f_X6_pagesOfSort_4
    rw [tLt (by omega), sp_pageOf h3 (by omega), bd_some, hp, bd_some]
    by_cases h : (P (32 - (m + 1))).1 = s
    · rw [if_pos h] at hst
      rw [tEq (by omega)]
      exact lp_pos ho hT hs m n _ _ (by omega) (by omega) (by omega) (by omega)
    · rw [if_neg h] at hst
      rw [fEq (by omega)]
      exact lp_pos ho hT hs m n _ _ (by omega) (by omega) (by omega) (by omega)
theorem sp_pos (ho : TOk P) (hT : TC C P) (hs : 0 ≤ s ∧ s ≤ 2) : f_X6_pagesOfSort s C = some (C, ((nS P s 32 : Nat) : Int)) := by
  have hfu := FU_eq
  unfold f_X6_pagesOfSort
  rw [lp_pos ho hT hs 32 FU 0 0 (by omega) rfl rfl (by omega)]
end M2

/-! ENTRIES in bytes. An entry: its letters, its tail. -/
abbrev Ent : Type := List Int × Int
def e1 (e : Ent) : List Int := (e.1.length : Int) :: (e.1 ++ [e.2])
def flat (es : List Ent) : List Int := es.flatMap e1
def szs : List Ent → Nat
  | [] => 0
  | e :: r => e.1.length + 2 + szs r
def enc (s l : Int) (es : List Ent) (j : Nat) : Int := if j = 0 then s else if j = 1 then (es.length : Int) else if j = 2 then l else (flat es).getD (j - 3) 0
theorem flat_nil : flat [] = [] := rfl
theorem flat_cons (e : Ent) (r : List Ent) : flat (e :: r) = e1 e ++ flat r := rfl
theorem flat_app (a b : List Ent) : flat (a ++ b) = flat a ++ flat b := by unfold flat; exact List.flatMap_append
theorem szs_nil : szs [] = 0 := rfl
theorem szs_cons (e : Ent) (r : List Ent) : szs (e :: r) = e.1.length + 2 + szs r := rfl
theorem szs_app : ∀ (a b : List Ent), szs (a ++ b) = szs a + szs b
  | [], b => by simp [szs]
  | e :: r, b => by simp [szs, szs_app r b]; omega
theorem e1_len (e : Ent) : (e1 e).length = e.1.length + 2 := by simp [e1]
theorem flat_len : ∀ (es : List Ent), (flat es).length = szs es
  | [] => rfl
  | e :: r => by rw [flat_cons, List.length_append, flat_len r, e1_len]; rfl
theorem len_szs : ∀ (es : List Ent), 2 * es.length ≤ szs es
  | [] => by simp [szs]
  | e :: r => by have := len_szs r; simp [szs]; omega
theorem gd_l {a b : List Int} {j : Nat} (h : j < a.length) : (a ++ b).getD j 0 = a.getD j 0 := by
  rw [List.getD_eq_getElem?_getD, List.getElem?_append_left h, ← List.getD_eq_getElem?_getD]
theorem gd_r {a b : List Int} {j : Nat} (h : a.length ≤ j) : (a ++ b).getD j 0 = b.getD (j - a.length) 0 := by
  rw [List.getD_eq_getElem?_getD, List.getElem?_append_right h, ← List.getD_eq_getElem?_getD]
theorem gd_out {a : List Int} {j : Nat} (h : a.length ≤ j) : a.getD j 0 = 0 := by
  rw [List.getD_eq_getElem?_getD, List.getElem?_eq_none h]; rfl
theorem gd_mem {a : List Int} {j : Nat} (h : j < a.length) : a.getD j 0 ∈ a := by
  rw [List.getD_eq_getElem?_getD, List.getElem?_eq_getElem h]; exact List.getElem_mem h
theorem e1_0 (e : Ent) : (e1 e).getD 0 0 = (e.1.length : Int) := rfl
theorem e1_l (e : Ent) {j : Nat} (h : j < e.1.length) : (e1 e).getD (1 + j) 0 = e.1.getD j 0 := by
  rw [Nat.add_comm]
  show (e.1 ++ [e.2]).getD j 0 = _
  exact gd_l h
theorem e1_t (e : Ent) : (e1 e).getD (1 + e.1.length) 0 = e.2 := by
  rw [Nat.add_comm]
  show (e.1 ++ [e.2]).getD e.1.length 0 = _
  simp
section EN
variable {s l : Int} {es a b : List Ent} {e : Ent} {j : Nat}
theorem enc_0 : enc s l es 0 = s := rfl
theorem enc_1 : enc s l es 1 = (es.length : Int) := rfl
theorem enc_2 : enc s l es 2 = l := rfl
theorem enc_3 : enc s l es (3 + j) = (flat es).getD j 0 := by
  unfold enc
  rw [if_neg (by omega), if_neg (by omega), if_neg (by omega), show 3 + j - 3 = j by omega]
theorem enc_g (h : 3 ≤ j) : enc s l es j = (flat es).getD (j - 3) 0 := by
  unfold enc
  rw [if_neg (by omega), if_neg (by omega), if_neg (by omega)]
/-- a byte of an entry -/
theorem enc_e (hj : j < e.1.length + 2) : enc s l (a ++ e :: b) (3 + (szs a + j)) = (e1 e).getD j 0 := by
  rw [enc_3, flat_app, gd_r (by rw [flat_len]; omega), flat_len, show szs a + j - szs a = j by omega, flat_cons, gd_l (by rw [e1_len]; omega)]
theorem enc_len {z : Nat} (hz : z = 3 + szs a) : enc s l (a ++ e :: b) z = (e.1.length : Int) := by
  rw [hz, show 3 + szs a = 3 + (szs a + 0) by omega, enc_e (by omega), e1_0]
theorem enc_let {z : Nat} (hj : j < e.1.length) (hz : z = 3 + szs a + 1 + j) : enc s l (a ++ e :: b) z = e.1.getD j 0 := by
  rw [hz, show 3 + szs a + 1 + j = 3 + (szs a + (1 + j)) by omega, enc_e (by omega), e1_l e hj]
theorem enc_tail {z : Nat} (hz : z = 3 + szs a + 1 + e.1.length) : enc s l (a ++ e :: b) z = e.2 := by
  rw [hz, show 3 + szs a + 1 + e.1.length = 3 + (szs a + (1 + e.1.length)) by omega, enc_e (by omega), e1_t e]
theorem enc_out (h : 3 + szs es ≤ j) : enc s l es j = 0 := by
  rw [enc_g (by omega), gd_out (by rw [flat_len]; omega)]
/-- entries that may stand in a page -/
def EOk (e : Ent) : Prop := 1 ≤ e.1.length ∧ e.1.length ≤ 8 ∧ (∀ x ∈ e.1, 97 ≤ x ∧ x ≤ 122) ∧ 0 ≤ e.2 ∧ e.2 ≤ 255
def EsOk (es : List Ent) : Prop := ∀ e ∈ es, EOk e
theorem EsOk_app : EsOk (a ++ b) ↔ EsOk a ∧ EsOk b := by
  unfold EsOk
  constructor
  · intro h
    exact ⟨fun x hx => h x (List.mem_append_left _ hx), fun x hx => h x (List.mem_append_right _ hx)⟩
  · rintro ⟨h1, h2⟩ x hx
    rcases List.mem_append.mp hx with h | h
    · exact h1 x h
    · exact h2 x h
theorem EsOk_cons : EsOk (e :: b) ↔ EOk e ∧ EsOk b := by
  unfold EsOk
  simp
theorem EsOk_mid (h : EsOk (a ++ e :: b)) : EOk e := (EsOk_cons.mp (EsOk_app.mp h).2).1
theorem e1_rng (h : EOk e) {x : Int} (hx : x ∈ e1 e) : 0 ≤ x ∧ x ≤ 255 := by
  obtain ⟨h1, h2, h3, h4, h5⟩ := h
  unfold e1 at hx
  rcases List.mem_cons.mp hx with h | h
  · omega
  · rcases List.mem_append.mp h with h | h
    · have := h3 x h; omega
    · have := List.mem_singleton.mp h; omega
theorem flat_rng (h : EsOk es) {x : Int} (hx : x ∈ flat es) : 0 ≤ x ∧ x ≤ 255 := by
  unfold flat at hx
  obtain ⟨e, he, hx⟩ := List.mem_flatMap.mp hx
  exact e1_rng (h e he) hx
theorem enc_rng (h : EsOk es) (hs : 0 ≤ s ∧ s ≤ 255) (hl : 0 ≤ l ∧ l ≤ 255) (hz : szs es ≤ 253) : 0 ≤ enc s l es j ∧ enc s l es j ≤ 255 := by
  unfold enc
  have hn := len_szs es
  split
  · exact hs
  · split
    · omega
    · split
      · exact hl
      · by_cases hk : j - 3 < (flat es).length
        · exact flat_rng h (gd_mem hk)
        · rw [gd_out (by omega)]; omega
theorem len_szs3 : ∀ (es : List Ent), EsOk es → 3 * es.length ≤ szs es
  | [], _ => by simp [szs]
  | e :: r, h => by have h1 := EsOk_cons.mp h; have := len_szs3 r h1.2; have := h1.1.1; simp [szs]; omega
end EN
/-! ORDER of letters -/
def cmp : List Int → List Int → Int
  | [], [] => 0
  | [], _ :: _ => -1
  | _ :: _, [] => 1
  | a :: r, b :: t => if a = b then cmp r t else if a < b then -1 else 1
theorem cmp_rng : ∀ (u v : List Int), cmp u v = -1 ∨ cmp u v = 0 ∨ cmp u v = 1
  | [], [] => by simp [cmp]
  | [], _ :: _ => by simp [cmp]
  | _ :: _, [] => by simp [cmp]
  | a :: r, b :: t => by
    unfold cmp
    split
    · exact cmp_rng r t
    · split <;> simp
theorem cmp_anti : ∀ (u v : List Int), cmp u v = - cmp v u
  | [], [] => by simp [cmp]
  | [], _ :: _ => by simp [cmp]
  | _ :: _, [] => by simp [cmp]
  | a :: r, b :: t => by
    unfold cmp
    by_cases h : a = b
    · rw [if_pos h, if_pos h.symm]; exact cmp_anti r t
    · rw [if_neg h, if_neg (Ne.symm h)]
      by_cases h2 : a < b
      · rw [if_pos h2, if_neg (by omega)]
      · rw [if_neg h2, if_pos (by omega)]; rfl
theorem cmp_eq : ∀ (u v : List Int), cmp u v = 0 ↔ u = v
  | [], [] => by simp [cmp]
  | [], _ :: _ => by simp [cmp]
  | _ :: _, [] => by simp [cmp]
  | a :: r, b :: t => by
    unfold cmp
    by_cases h : a = b
    · rw [if_pos h, cmp_eq r t]; simp [h]
    · rw [if_neg h]
      split <;> simp [h]
theorem cmp_refl (u : List Int) : cmp u u = 0 := (cmp_eq u u).mpr rfl
theorem cmp_trans : ∀ (u v w : List Int), cmp u v < 0 → cmp v w < 0 → cmp u w < 0
  | [], [], w => by intro h; simp [cmp] at h
  | [], b :: t, [] => by intro _ h; simp [cmp] at h
  | [], b :: t, c :: q => by intro _ _; simp [cmp]
  | a :: r, [], w => by intro h; simp [cmp] at h
  | a :: r, b :: t, [] => by intro _ h; simp [cmp] at h
  | a :: r, b :: t, c :: q => by
    unfold cmp
    by_cases h1 : a = b
    · subst h1
      rw [if_pos rfl]
      by_cases h2 : a = c
      · subst h2
        rw [if_pos rfl, if_pos rfl]
        exact cmp_trans r t q
      · rw [if_neg h2, if_neg h2]
        intro _ h
        exact h
    · rw [if_neg h1]
      by_cases h2 : a < b
      · rw [if_pos h2]
        intro _
        by_cases h3 : b = c
        · subst h3
          rw [if_neg h1, if_pos h2]
          intro _
          decide
        · rw [if_neg h3]
          by_cases h4 : b < c
          · intro _
            rw [if_neg (by omega), if_pos (by omega)]
            decide
          · rw [if_neg h4]; intro h; exact absurd h (by decide)
      · rw [if_neg h2]; intro h; exact absurd h (by decide)
theorem cmp_nil_le (u : List Int) : cmp [] u ≤ 0 := by cases u <;> simp [cmp]
/-- u not above v, v below w -/
theorem cmp_le_lt {u v w : List Int} (h1 : cmp u v ≤ 0) (h2 : cmp v w < 0) : cmp u w < 0 := by
  by_cases h : cmp u v = 0
  · rw [(cmp_eq u v).mp h]; exact h2
  · exact cmp_trans u v w (by omega) h2
theorem cmp_lt_le {u v w : List Int} (h1 : cmp u v < 0) (h2 : cmp v w ≤ 0) : cmp u w < 0 := by
  by_cases h : cmp v w = 0
  · rw [← (cmp_eq v w).mp h]; exact h1
  · exact cmp_trans u v w h1 (by omega)
theorem cmp_le_le {u v w : List Int} (h1 : cmp u v ≤ 0) (h2 : cmp v w ≤ 0) : cmp u w ≤ 0 := by
  by_cases h : cmp u v = 0
  · rw [(cmp_eq u v).mp h]; exact h2
  · have := cmp_lt_le (u := u) (v := v) (w := w) (by omega) h2
    omega
/-- one letter of a comparison: letters are above 0 -/
theorem cmp_drop {u v : List Int} (hu : ∀ x ∈ u, 0 < x) (hv : ∀ x ∈ v, 0 < x) (j : Nat) : cmp (u.drop j) (v.drop j) = if u.getD j 0 = v.getD j 0 then cmp (u.drop (j + 1)) (v.drop (j + 1)) else if u.getD j 0 < v.getD j 0 then -1 else 1 := by
  by_cases h1 : j < u.length
  · have e1 : u.getD j 0 = u[j] := by rw [List.getD_eq_getElem?_getD, List.getElem?_eq_getElem h1]; rfl
    have p1 := hu _ (List.getElem_mem h1)
    rw [List.drop_eq_getElem_cons h1]
    by_cases h2 : j < v.length
    · have e2 : v.getD j 0 = v[j] := by rw [List.getD_eq_getElem?_getD, List.getElem?_eq_getElem h2]; rfl
      rw [List.drop_eq_getElem_cons h2, e1, e2]
      rfl
    · rw [List.drop_eq_nil_of_le (show v.length ≤ j by omega), gd_out (show v.length ≤ j by omega), e1, if_neg (by omega), if_neg (by omega)]
      rfl
  · rw [List.drop_eq_nil_of_le (show u.length ≤ j by omega), gd_out (show u.length ≤ j by omega), List.drop_eq_nil_of_le (show u.length ≤ j + 1 by omega)]
    by_cases h2 : j < v.length
    · have e2 : v.getD j 0 = v[j] := by rw [List.getD_eq_getElem?_getD, List.getElem?_eq_getElem h2]; rfl
      have p2 := hv _ (List.getElem_mem h2)
      rw [List.drop_eq_getElem_cons h2, e2, if_neg (by omega), if_pos p2]
      rfl
    · rw [List.drop_eq_nil_of_le (show v.length ≤ j by omega), gd_out (show v.length ≤ j by omega), if_pos rfl, List.drop_eq_nil_of_le (show v.length ≤ j + 1 by omega)]
/-- how far two go alike -/
def cp : List Int → List Int → Nat
  | a :: r, b :: t => if a = b then cp r t + 1 else 0
  | _, _ => 0
theorem cp_le : ∀ (u v : List Int), cp u v ≤ u.length ∧ cp u v ≤ v.length
  | [], v => by simp [cp]
  | _ :: _, [] => by simp [cp]
  | a :: r, b :: t => by
    unfold cp
    have := cp_le r t
    split <;> simp <;> omega
theorem cp_lt : ∀ (u v : List Int), cmp u v < 0 → cp u v < v.length
  | [], [] => by intro h; simp [cmp] at h
  | [], b :: t => by simp [cp]
  | a :: r, [] => by intro h; simp [cmp] at h
  | a :: r, b :: t => by
    unfold cmp cp
    by_cases h : a = b
    · rw [if_pos h, if_pos h]; intro q; have := cp_lt r t q; simp; omega
    · rw [if_neg h, if_neg h]; simp
/-- the shortest head of v that is above u -/
def sep (u v : List Int) : List Int := v.take (cp u v + 1)
theorem sep_gt : ∀ (u v : List Int), cmp u v < 0 → cmp u (sep u v) < 0
  | [], [] => by intro h; simp [cmp] at h
  | [], b :: t => by intro _; simp [sep, cp, cmp]
  | a :: r, [] => by intro h; simp [cmp] at h
  | a :: r, b :: t => by
    intro h
    have ih := sep_gt r t
    unfold sep cp
    unfold cmp at h
    by_cases q : a = b
    · rw [if_pos q] at h
      rw [if_pos q, List.take_succ_cons]
      unfold cmp
      rw [if_pos q]
      exact ih h
    · rw [if_neg q] at h
      rw [if_neg q, List.take_succ_cons]
      unfold cmp
      rw [if_neg q]
      exact h
theorem cmp_take : ∀ (v : List Int) (k : Nat), cmp (v.take k) v ≤ 0
  | [], k => by simp [cmp]
  | b :: t, 0 => by simp [cmp]
  | b :: t, k + 1 => by
    rw [List.take_succ_cons]
    unfold cmp
    rw [if_pos rfl]
    exact cmp_take t k
theorem sep_le (u v : List Int) : cmp (sep u v) v ≤ 0 := cmp_take v _
theorem sep_len {u v : List Int} (h : cmp u v < 0) : (sep u v).length = cp u v + 1 := by
  unfold sep
  rw [List.length_take]
  have := cp_lt u v h
  omega

/-! ENTRIES in bytes. An entry: its letters, its tail. -/
abbrev Ent : Type := List Int × Int
def e1 (e : Ent) : List Int := (e.1.length : Int) :: (e.1 ++ [e.2])
def flat (es : List Ent) : List Int := es.flatMap e1
def szs : List Ent → Nat
  | [] => 0
  | e :: r => e.1.length + 2 + szs r
def enc (s l : Int) (es : List Ent) (j : Nat) : Int := if j = 0 then s else if j = 1 then (es.length : Int) else if j = 2 then l else (flat es).getD (j - 3) 0
theorem flat_nil : flat [] = [] := rfl
theorem flat_cons (e : Ent) (r : List Ent) : flat (e :: r) = e1 e ++ flat r := rfl
theorem flat_app (a b : List Ent) : flat (a ++ b) = flat a ++ flat b := by unfold flat; exact List.flatMap_append
theorem szs_app : ∀ (a b : List Ent), szs (a ++ b) = szs a + szs b
  | [], b => by simp [szs]
  | e :: r, b => by simp [szs, szs_app r b]; omega
theorem flat_len : ∀ (es : List Ent), (flat es).length = szs es
  | [] => rfl
  | e :: r => by rw [flat_cons, List.length_append, flat_len r]; simp [e1, szs]
theorem szs_take_le (es : List Ent) (k : Nat) : szs (es.take k) ≤ szs es := by
  have h := szs_app (es.take k) (es.drop k)
  rw [List.take_append_drop] at h
  omega
theorem szs_take_succ {es : List Ent} {k : Nat} {e : Ent} (h : es[k]? = some e) : szs (es.take (k + 1)) = szs (es.take k) + (e.1.length + 2) := by
  rw [List.take_add_one, h, szs_app]
  simp [szs]
theorem es_split {es : List Ent} {k : Nat} {e : Ent} (h : es[k]? = some e) : es = es.take k ++ e :: es.drop (k + 1) := by
  obtain ⟨hk, he⟩ := List.getElem?_eq_some_iff.mp h
  rw [← he, List.getElem_cons_drop, List.take_append_drop]
/-- reading a byte of entry k -/
theorem flat_at {es : List Ent} {k : Nat} {e : Ent} (h : es[k]? = some e) {j : Nat} (hj : j < e.1.length + 2) : (flat es).getD (szs (es.take k) + j) 0 = (e1 e).getD j 0 := by
  have h1 := es_split h
  have h2 : flat es = flat (es.take k) ++ (e1 e ++ flat (es.drop (k + 1))) := by
    conv => lhs; rw [h1]
    rw [flat_app, flat_cons]
  rw [h2, List.getD_eq_getElem?_getD, List.getElem?_append_right (by rw [flat_len]; omega), flat_len, show szs (es.take k) + j - szs (es.take k) = j by omega, List.getElem?_append_left (by simp [e1]; omega), ← List.getD_eq_getElem?_getD]
theorem e1_0 (e : Ent) : (e1 e).getD 0 0 = (e.1.length : Int) := rfl
theorem e1_l (e : Ent) {j : Nat} (h : j < e.1.length) : (e1 e).getD (1 + j) 0 = e.1.getD j 0 := by
  rw [Nat.add_comm]
  show (e.1 ++ [e.2]).getD j 0 = _
  rw [List.getD_eq_getElem?_getD, List.getElem?_append_left h, ← List.getD_eq_getElem?_getD]
theorem e1_t (e : Ent) : (e1 e).getD (1 + e.1.length) 0 = e.2 := by
  rw [Nat.add_comm]
  show (e.1 ++ [e.2]).getD e.1.length 0 = _
  simp
theorem enc_3 {s l : Int} {es : List Ent} {j : Nat} : enc s l es (3 + j) = (flat es).getD j 0 := by
  unfold enc
  rw [if_neg (by omega), if_neg (by omega), if_neg (by omega), show 3 + j - 3 = j by omega]
theorem enc_len {s l : Int} {es : List Ent} {k : Nat} {e : Ent} (h : es[k]? = some e) : enc s l es (3 + szs (es.take k)) = (e.1.length : Int) := by
  rw [enc_3]
  exact (flat_at h (j := 0) (by omega)).trans (e1_0 e)
theorem enc_let {s l : Int} {es : List Ent} {k j : Nat} {e : Ent} (h : es[k]? = some e) (hj : j < e.1.length) : enc s l es (3 + szs (es.take k) + 1 + j) = e.1.getD j 0 := by
  rw [show 3 + szs (es.take k) + 1 + j = 3 + (szs (es.take k) + (1 + j)) by omega, enc_3, flat_at h (by omega), e1_l e hj]
theorem enc_tail {s l : Int} {es : List Ent} {k : Nat} {e : Ent} (h : es[k]? = some e) : enc s l es (3 + szs (es.take k) + 1 + e.1.length) = e.2 := by
  rw [show 3 + szs (es.take k) + 1 + e.1.length = 3 + (szs (es.take k) + (1 + e.1.length)) by omega, enc_3, flat_at h (by omega), e1_t e]
theorem enc_out {s l : Int} {es : List Ent} {j : Nat} (h : 3 + szs es ≤ j) : enc s l es j = 0 := by
  unfold enc
  rw [if_neg (by omega), if_neg (by omega), if_neg (by omega), List.getD_eq_getElem?_getD, List.getElem?_eq_none (by rw [flat_len]; omega)]
  rfl

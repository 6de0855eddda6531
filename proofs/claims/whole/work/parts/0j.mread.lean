/-! MODEL: what reads a page. -/
def PgX (X : Mem) (i : Nat) (s l : Int) (es : List Ent) : Prop := (∀ j, j < 64 → X 96 (64 * i + j) = enc s l es j) ∧ EsOk es ∧ szs es ≤ 61 ∧ (0 ≤ s ∧ s ≤ 255) ∧ (0 ≤ l ∧ l ≤ 255) ∧ i < 32
def KX (X : Mem) (w : List Int) : Prop := X 95 12 = (w.length : Int) ∧ (∀ j, j < w.length → X 101 j = w.getD j 0) ∧ LOk w
section MR
variable {X : Mem} {i : Nat} {s l p : Int} {es a b : List Ent} {e : Ent} {w : List Int}
theorem PgX_len (h : PgX X i s l es) : 2 * es.length ≤ 61 := by
  have h1 := h.2.2.1
  have h3 := len_szs es
  omega
theorem mx_at (h : PgX X i s l es) (hp : p = (i : Int)) {z : Int} (hz : 0 ≤ z ∧ z < 64) : f_X8_at p z X = some (X, enc s l es z.toNat) := by
  have hi := h.2.2.2.2.2
  unfold f_X8_at
  rw [ix_t (by omega), show (64 * p + z).toNat = 64 * i + z.toNat by omega, h.1 _ (by omega)]
theorem mx_0 (h : PgX X i s l es) (hp : p = (i : Int)) : f_X8_at p 0 X = some (X, s) := mx_at h hp (by omega)
theorem mx_1 (h : PgX X i s l es) (hp : p = (i : Int)) : f_X8_at p 1 X = some (X, (es.length : Int)) := mx_at h hp (by omega)
theorem mx_2 (h : PgX X i s l es) (hp : p = (i : Int)) : f_X8_at p 2 X = some (X, l) := mx_at h hp (by omega)
theorem mx_len (h : PgX X i s l (a ++ e :: b)) (hp : p = (i : Int)) {z : Int} (hz : z = ((3 + szs a : Nat) : Int)) : f_X8_at p z X = some (X, (e.1.length : Int)) := by
  have h1 := h.2.2.1
  rw [szs_app, szs_cons] at h1
  rw [mx_at h hp (by omega), nat2 hz, enc_len rfl]
theorem mx_let (h : PgX X i s l (a ++ e :: b)) (hp : p = (i : Int)) {z : Int} {j : Nat} (hj : j < e.1.length) (hz : z = ((3 + szs a + 1 + j : Nat) : Int)) : f_X8_at p z X = some (X, e.1.getD j 0) := by
  have h1 := h.2.2.1
  rw [szs_app, szs_cons] at h1
  rw [mx_at h hp (by omega), nat2 hz, enc_let hj rfl]
theorem mx_tail (h : PgX X i s l (a ++ e :: b)) (hp : p = (i : Int)) {z : Int} (hz : z = ((3 + szs a + 1 + e.1.length : Nat) : Int)) : f_X8_at p z X = some (X, e.2) := by
  have h1 := h.2.2.1
  rw [szs_app, szs_cons] at h1
  rw [mx_at h hp (by omega), nat2 hz, enc_tail rfl]
theorem lm_start {K : Int → Int → Mem → Option (Mem × Int)} {u : Int} (h : PgX X i s l es) (hp : p = (i : Int)) : ∀ (b a c : List Ent) (n : Nat) (v2 v3 : Int), es = a ++ b ++ c → u = ((a ++ b).length : Int) → b.length < n → v2 = (3 + szs a : Nat) → v3 = (a.length : Int) → f_X8_startOf_5 p u K n v2 v3 X = K ((3 + szs (a ++ b) : Nat) : Int) u X
  | _, _, _, 0 => by intros; omega
  | [], a, c, n + 1 => by
    intro v2 v3 h1 h2 h3 h4 h5
    have h6 := PgX_len h
    rw [List.append_nil] at h2 ⊢
    have h7 : a.length ≤ es.length := by rw [h1]; simp
    unfold f_X8_startOf_5
    rw [fLt (by omega), h4, h5, h2]
  | e :: b, a, c, n + 1 => by
    intro v2 v3 h1 h2 h3 h4 h5
    have h6 := PgX_len h
    have h9 : es.length = a.length + (b.length + 1) + c.length := by rw [h1]; simp; omega
    have hu : u = ((a.length + (b.length + 1) : Nat) : Int) := by rw [h2]; simp
    have h' : PgX X i s l (a ++ e :: (b ++ c)) := by rw [h1, List.append_assoc] at h; exact h
    unfold f_X8_startOf_5
    rw [tLt (by omega), mx_len h' hp h4, bd_some]
    have q := lm_start (K := K) (u := u) h hp b (a ++ [e]) c n (v2 + ((e.1.length : Int) + 2)) (v3 + 1) (by rw [h1]; simp) (by rw [h2]; simp) (by simp at h3; omega) (by rw [szs_app, szs_cons, szs_nil]; omega) (by simp; omega)
    rw [q, List.append_assoc]
    rfl
theorem mx_start (h : PgX X i s l (a ++ b)) (hp : p = (i : Int)) {z : Int} (hz : z = (a.length : Int)) : f_X8_startOf p z X = some (X, ((3 + szs a : Nat) : Int)) := by
  unfold f_X8_startOf
  have h6 := PgX_len h
  have hf := FU_eq
  have q := lm_start (K := fun (v2_e4 : Int) (v3_e4 : Int) (C_e4 : Mem) => (some (C_e4, v2_e4))) (u := z) h hp a [] b FU 3 0 (by simp) (by rw [hz]; simp) (by simp at h6; omega) (by rw [szs_nil]; rfl) rfl
  rw [q]
  rfl
theorem mx_used (h : PgX X i s l es) (hp : p = (i : Int)) (hs : s ≠ 0) : f_X8_usedOf p X = some (X, ((3 + szs es : Nat) : Int)) := by
  have h1 := h.2.2.2.1
  have h' : PgX X i s l (es ++ []) := by rw [List.append_nil]; exact h
  unfold f_X8_usedOf
  rw [mx_0 h hp, bd_some, fEq (by omega), mx_1 h hp, bd_some, mx_start h' hp rfl, bd_some]
theorem mx_used0 (h : PgX X i 0 l es) (hp : p = (i : Int)) : f_X8_usedOf p X = some (X, 0) := by
  unfold f_X8_usedOf
  rw [mx_0 h hp, bd_some, tEq (by omega)]
theorem mx_child (h : PgX X i s l es) (hp : p = (i : Int)) {n : Nat} (hn : n ≤ es.length) {z : Int} (hz : z = (n : Int)) : f_X8_childOf p z X = some (X, chd (s, l, es) n) := by
  unfold f_X8_childOf
  have h6 := PgX_len h
  cases n with
  | zero =>
    rw [hz, tEq (by simp), mx_2 h hp, bd_some]
    rfl
  | succ m =>
    have hm : m < es.length := by omega
    have he : es = es.take m ++ es[m] :: es.drop (m + 1) := by rw [List.getElem_cons_drop, List.take_append_drop]
    have hl : (es.take m).length = m := by rw [List.length_take]; omega
    have h' := h
    rw [he] at h'
    have c := chd_s (p := (s, l, es)) he
    rw [hl] at c
    rw [c, fEq (by omega), mx_start h' hp (by rw [hl, hz]; simp), bd_some, mx_len h' hp rfl, bd_some, mx_tail h' hp (by omega), bd_some]
/-- a number that stands to 0 as letters stand to others -/
def Sg (r c : Int) : Prop := -1000 ≤ r ∧ r ≤ 1000 ∧ ((r < 0 ∧ c = -1) ∨ (r = 0 ∧ c = 0) ∨ (0 < r ∧ c = 1))
theorem lm_against {K : Int → Mem → Option (Mem × Int)} (h : PgX X i s l (a ++ e :: b)) (hp : p = (i : Int)) (hk : KX X w) : ∀ (m n : Nat) (v : Int), v = ((8 - m : Nat) : Int) → m ≤ 8 → m < n → ∃ j : Nat, f_X8_against_10 p ((3 + szs a : Nat) : Int) (e.1.length : Int) K n v X = K (j : Int) X ∧ cmp (w.drop (8 - m)) (e.1.drop (8 - m)) = cmp (w.drop j) (e.1.drop j) ∧ j ≤ 8 ∧ (w.length ≤ j ∨ e.1.length ≤ j ∨ w.getD j 0 ≠ e.1.getD j 0)
  | _, 0 => by intros; omega
  | 0, n + 1 => by
    intro v hv _ _
    have hw := hk.2.2.1
    refine ⟨8, ?_, rfl, by omega, Or.inl hw⟩
    unfold f_X8_against_10
    rw [hk.1, fLt (by omega), hv]
  | m + 1, n + 1 => by
    intro v hv hm hn
    have he := EsOk_mid h.2.1
    have h1 := h.2.2.1
    rw [szs_app, szs_cons] at h1
    have hw := hk.2.2.1
    have hkl := LOk_gd hk.2.2 (8 - (m + 1))
    have hel := LOk_gd (EOk_L he) (8 - (m + 1))
    obtain ⟨j, q1, q2, q3, q4⟩ := lm_against (K := K) h hp hk m n (v + 1) (by omega) (by omega) (by omega)
    have hstep := cmp_drop (LOk_pos hk.2.2) (LOk_pos (EOk_L he)) (8 - (m + 1))
    rw [show 8 - (m + 1) + 1 = 8 - m by omega] at hstep
    unfold f_X8_against_10
    rw [hk.1]
    by_cases c1 : 8 - (m + 1) < w.length
    · rw [tLt (by omega)]
      by_cases c2 : 8 - (m + 1) < e.1.length
      · rw [tLt (by omega), ix_t (by omega), mx_let h hp c2 (by omega), bd_some, nat2 hv, hk.2.1 _ c1]
        by_cases c3 : w.getD (8 - (m + 1)) 0 = e.1.getD (8 - (m + 1)) 0
        · rw [tEq (by omega)]
          rw [if_pos c3] at hstep
          exact ⟨j, q1, by rw [hstep]; exact q2, q3, q4⟩
        · rw [fEq (by omega)]
          exact ⟨8 - (m + 1), by rw [hv], rfl, by omega, Or.inr (Or.inr c3)⟩
      · rw [fLt (by have := he.2.1; omega)]
        exact ⟨8 - (m + 1), by rw [hv], rfl, by omega, Or.inr (Or.inl (by omega))⟩
    · rw [fLt (by omega)]
      exact ⟨8 - (m + 1), by rw [hv], rfl, by omega, Or.inl (by omega)⟩
theorem mx_against (h : PgX X i s l (a ++ e :: b)) (hp : p = (i : Int)) (hk : KX X w) {z : Int} (hz : z = ((3 + szs a : Nat) : Int)) : ∃ r, f_X8_against p z X = some (X, r) ∧ Sg r (cmp w e.1) := by
  have hf := FU_eq
  have he := EsOk_mid h.2.1
  have he2 := he.2.1
  have hw := hk.2.2.1
  subst hz
  unfold f_X8_against
  rw [mx_len h hp rfl, bd_some]
  obtain ⟨j, q1, q2, q3, q4⟩ := lm_against (K := (fun (v4_e10 : Int) (C_e10 : Mem) => (cLt (v4_e10) (C_e10 95 12) (cLt (v4_e10) (e.1.length : Int) (ix (v4_e10) 8 (bd (f_X8_at (p) ((((3 + szs a : Nat) : Int) + 1) + v4_e10) C_e10) (fun C82 r82 => (some (C82, (C_e10 (101) (v4_e10).toNat) - r82))))) (some (C_e10, (C_e10 95 12) - (e.1.length : Int)))) (some (C_e10, (C_e10 95 12) - (e.1.length : Int)))))) h hp hk 8 FU 0 rfl (by omega) (by omega)
  rw [q1]
  rw [Nat.sub_self, List.drop_zero, List.drop_zero] at q2
  rw [q2]
  have hkl := LOk_gd hk.2.2 j
  have hel := LOk_gd (EOk_L he) j
  have hstep := cmp_drop (LOk_pos hk.2.2) (LOk_pos (EOk_L he)) j
  rw [hk.1]
  by_cases c1 : j < w.length
  · rw [tLt (by omega)]
    by_cases c2 : j < e.1.length
    · rw [tLt (by omega), ix_t (by omega), mx_let h hp c2 (by omega), bd_some, nat2 rfl, hk.2.1 _ c1]
      refine ⟨_, rfl, by omega, by omega, ?_⟩
      have c3 : w.getD j 0 ≠ e.1.getD j 0 := by rcases q4 with q | q | q <;> omega
      rw [hstep, if_neg c3]
      by_cases c4 : w.getD j 0 < e.1.getD j 0
      · rw [if_pos c4]; exact Or.inl ⟨by omega, rfl⟩
      · rw [if_neg c4]; exact Or.inr (Or.inr ⟨by omega, rfl⟩)
    · rw [fLt (by omega)]
      refine ⟨_, rfl, by omega, by omega, ?_⟩
      rw [List.drop_eq_nil_of_le (show e.1.length ≤ j by omega), List.drop_eq_getElem_cons c1]
      exact Or.inr (Or.inr ⟨by omega, rfl⟩)
  · rw [fLt (by omega)]
    refine ⟨_, rfl, by omega, by omega, ?_⟩
    rw [List.drop_eq_nil_of_le (show w.length ≤ j by omega)]
    by_cases c2 : j < e.1.length
    · rw [List.drop_eq_getElem_cons c2]
      exact Or.inl ⟨by omega, rfl⟩
    · have hq2 : cmp w e.1 = 0 := by
        rw [q2, List.drop_eq_nil_of_le (show w.length ≤ j by omega), List.drop_eq_nil_of_le (show e.1.length ≤ j by omega)]; rfl
      have hq3 := (cmp_eq w e.1).mp hq2
      rw [List.drop_eq_nil_of_le (show e.1.length ≤ j by omega), hq3]
      exact Or.inr (Or.inl ⟨by omega, rfl⟩)
/-- the place of a key in a leaf -/
theorem lm_place {K : Int → Int → Mem → Option (Mem × Int)} (h : PgX X i s l es) (hp : p = (i : Int)) (hk : KX X w) : ∀ (b a : List Ent) (n : Nat) (v2 v3 : Int), es = a ++ b → v2 = (a.length : Int) → v3 = ((3 + szs a : Nat) : Int) → b.length < n → ∃ z, f_X8_placeIn_4 p K n v2 v3 X = K ((a.length + cb 0 w b : Nat) : Int) z X
  | _, _, 0 => by intros; omega
  | [], a, n + 1 => by
    intro v2 v3 h1 hv h3 _
    have h6 := PgX_len h
    unfold f_X8_placeIn_4
    rw [mx_1 h hp, bd_some, fLt (by rw [h1] at h6 ⊢; simp at h6 ⊢; omega), hv]
    exact ⟨v3, rfl⟩
  | e :: b, a, n + 1 => by
    intro v2 v3 h1 hv h3 hn
    have h6 := PgX_len h
    have h9 : es.length = a.length + (b.length + 1) := by rw [h1]; simp
    have h' : PgX X i s l (a ++ e :: b) := by rw [← h1]; exact h
    obtain ⟨r, r1, r2, r3, r4⟩ := mx_against h' hp hk h3
    have ha := cmp_anti e.1 w
    obtain ⟨z, ih⟩ := lm_place (K := K) h hp hk b (a ++ [e]) n (v2 + 1) (v3 + ((e.1.length : Int) + 2)) (by rw [h1]; simp) (by simp; omega) (by rw [szs_app, szs_cons, szs_nil]; omega) (by simp at hn; omega)
    unfold f_X8_placeIn_4 cb
    rw [mx_1 h hp, bd_some, tLt (by omega), r1, bd_some]
    by_cases hd : cmp e.1 w < 0
    · rw [tLt (by omega), mx_len h' hp h3, bd_some, ih, if_pos hd]
      refine ⟨z, ?_⟩
      congr 1
      simp
      omega
    · rw [fLt (by omega), if_neg hd, hv]
      exact ⟨v3, rfl⟩
theorem mx_place (h : PgX X i s l es) (hp : p = (i : Int)) (hk : KX X w) : f_X8_placeIn p X = some (X, (cb 0 w es : Int)) := by
  have h6 := PgX_len h
  have hf := FU_eq
  unfold f_X8_placeIn
  obtain ⟨z, q⟩ := lm_place (K := (fun (v2_e4 : Int) (v3_e4 : Int) (C_e4 : Mem) => (some (C_e4, v2_e4)))) h hp hk es [] FU 0 3 rfl rfl rfl (by omega)
  rw [q]
  simp
theorem mx_isAt (h : PgX X i s l (a ++ e :: b)) (hp : p = (i : Int)) (hk : KX X w) {z : Int} (hz : z = (a.length : Int)) : f_X8_isAt p z X = some (X, if cmp e.1 w = 0 then 1 else 0) := by
  have h6 := PgX_len h
  have h7 : (a ++ e :: b).length = a.length + (b.length + 1) := by simp
  obtain ⟨r, r1, r2, r3, r4⟩ := mx_against h hp hk rfl
  have ha := cmp_anti e.1 w
  unfold f_X8_isAt
  rw [mx_1 h hp, bd_some, tLt (by omega), mx_start h hp hz, bd_some, r1, bd_some]
  by_cases hd : cmp e.1 w = 0
  · rw [tEq (by omega), if_pos hd]
  · rw [fEq (by omega), if_neg hd]
theorem mx_isAt_end (h : PgX X i s l es) (hp : p = (i : Int)) {z : Int} (hz : z = (es.length : Int)) : f_X8_isAt p z X = some (X, 0) := by
  have h6 := PgX_len h
  unfold f_X8_isAt
  rw [mx_1 h hp, bd_some, fLt (by omega)]
theorem mx_tell (h : PgX X i s l (a ++ e :: b)) (hp : p = (i : Int)) {z : Int} (hz : z = (a.length : Int)) : f_X8_tellAt p z X = some (X, ((64 * i + (3 + szs a + 1 + e.1.length) : Nat) : Int)) := by
  unfold f_X8_tellAt
  rw [mx_start h hp hz, bd_some, mx_len h hp rfl, bd_some]
  congr 2
  omega
end MR

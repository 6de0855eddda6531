/-! CHECK 2: the model compares two entries; keys that rise; keys within bounds. -/
section K2
variable {C X : Mem} {B : By} {p q : Nat} {es a b a' b' : List Ent} {e f : Ent} {z pz qz : Int}
theorem ca_len (h : RdX X B) (hp : p < 32) (hr : Rb B p (a ++ e :: b)) (hpz : pz = (p : Int)) (hz : z = ((3 + szs a : Nat) : Int)) : f_X8_as pz z X = some (X, (e.1.length : Int)) := by
  have h1 := hr.2.2
  rw [szs_app, szs_cons] at h1
  rw [h p hp (3 + szs a) (by omega) _ _ hpz hz, hr.1 _ (by omega), enc_len rfl]
theorem ca_let (h : RdX X B) (hp : p < 32) (hr : Rb B p (a ++ e :: b)) (hpz : pz = (p : Int)) {j : Nat} (hj : j < e.1.length) (hz : z = ((3 + szs a + 1 + j : Nat) : Int)) : f_X8_as pz z X = some (X, e.1.getD j 0) := by
  have h1 := hr.2.2
  rw [szs_app, szs_cons] at h1
  rw [h p hp (3 + szs a + 1 + j) (by omega) _ _ hpz hz, hr.1 _ (by omega), enc_let hj rfl]
theorem ca_tail (h : RdX X B) (hp : p < 32) (hr : Rb B p (a ++ e :: b)) (hpz : pz = (p : Int)) (hz : z = ((3 + szs a + 1 + e.1.length : Nat) : Int)) : f_X8_as pz z X = some (X, e.2) := by
  have h1 := hr.2.2
  rw [szs_app, szs_cons] at h1
  rw [h p hp (3 + szs a + 1 + e.1.length) (by omega) _ _ hpz hz, hr.1 _ (by omega), enc_tail rfl]
theorem ca_1 (h : RdX X B) (hp : p < 32) (hr : Rb B p es) (hpz : pz = (p : Int)) : f_X8_as pz 1 X = some (X, (es.length : Int)) := by
  rw [h p hp 1 (by omega) pz 1 hpz (by rfl), hr.1 1 (by omega), enc_1]
theorem Rb_len (hr : Rb B p es) : 3 * es.length ≤ 61 := by
  have := len_szs3 es hr.2.1
  have := hr.2.2
  omega
theorem lm_cmp {K : Int → Mem → Option (Mem × Int)} (h : RdX X B) (hp : p < 32) (hq : q < 32) (hr : Rb B p (a ++ e :: b)) (hr' : Rb B q (a' ++ f :: b')) {u1 u2 : Int} (h1 : u1 = ((64 * p + (3 + szs a) : Nat) : Int)) (h2 : u2 = ((64 * q + (3 + szs a') : Nat) : Int)) : ∀ (m n : Nat) (v : Int), v = ((8 - m : Nat) : Int) → m ≤ 8 → m < n → ∃ j : Nat, f_X8_compares_37 u1 u2 (u1 / 64) (u2 / 64) (e.1.length : Int) (f.1.length : Int) K n v X = K (j : Int) X ∧ cmp (e.1.drop (8 - m)) (f.1.drop (8 - m)) = cmp (e.1.drop j) (f.1.drop j) ∧ j ≤ 8 ∧ (e.1.length ≤ j ∨ f.1.length ≤ j ∨ e.1.getD j 0 ≠ f.1.getD j 0)
  | _, 0 => by intros; omega
  | 0, n + 1 => by
    intro v hv _ _
    have he := (EsOk_mid hr.2.1).2.1
    refine ⟨8, ?_, rfl, by omega, Or.inl he⟩
    unfold f_X8_compares_37
    rw [fLt (by omega), hv]
  | m + 1, n + 1 => by
    intro v hv hm hn
    have he := EsOk_mid hr.2.1
    have hf := EsOk_mid hr'.2.1
    have he2 := he.2.1
    have hf2 := hf.2.1
    have s1 := hr.2.2
    rw [szs_app, szs_cons] at s1
    have s2 := hr'.2.2
    rw [szs_app, szs_cons] at s2
    have hkl := LOk_gd (EOk_L he) (8 - (m + 1))
    have hel := LOk_gd (EOk_L hf) (8 - (m + 1))
    obtain ⟨j, q1, q2, q3, q4⟩ := lm_cmp (K := K) h hp hq hr hr' h1 h2 m n (v + 1) (by omega) (by omega) (by omega)
    have hstep := cmp_drop (LOk_pos (EOk_L he)) (LOk_pos (EOk_L hf)) (8 - (m + 1))
    rw [show 8 - (m + 1) + 1 = 8 - m by omega] at hstep
    unfold f_X8_compares_37
    by_cases c1 : 8 - (m + 1) < e.1.length
    · rw [tLt (by omega)]
      by_cases c2 : 8 - (m + 1) < f.1.length
      · rw [tLt (by omega), dv_t (by omega), ca_let h hp hr (by omega) c1 (by omega), bd_some, dv_t (by omega), ca_let h hq hr' (by omega) c2 (by omega), bd_some]
        by_cases c3 : e.1.getD (8 - (m + 1)) 0 = f.1.getD (8 - (m + 1)) 0
        · rw [tEq (by omega)]
          rw [if_pos c3] at hstep
          exact ⟨j, q1, by rw [hstep]; exact q2, q3, q4⟩
        · rw [fEq (by omega)]
          exact ⟨8 - (m + 1), by rw [hv], rfl, by omega, Or.inr (Or.inr c3)⟩
      · rw [fLt (by omega)]
        exact ⟨8 - (m + 1), by rw [hv], rfl, by omega, Or.inr (Or.inl (by omega))⟩
    · rw [fLt (by omega)]
      exact ⟨8 - (m + 1), by rw [hv], rfl, by omega, Or.inl (by omega)⟩
theorem ca_cmp (h : RdX X B) (hp : p < 32) (hq : q < 32) (hr : Rb B p (a ++ e :: b)) (hr' : Rb B q (a' ++ f :: b')) {u1 u2 : Int} (h1 : u1 = ((64 * p + (3 + szs a) : Nat) : Int)) (h2 : u2 = ((64 * q + (3 + szs a') : Nat) : Int)) : ∃ r, f_X8_compares u1 u2 X = some (X, r) ∧ Sg r (cmp e.1 f.1) := by
  have hfu := FU_eq
  have he := EsOk_mid hr.2.1
  have hf := EsOk_mid hr'.2.1
  have he2 := he.2.1
  have hf2 := hf.2.1
  have s1 := hr.2.2
  rw [szs_app, szs_cons] at s1
  have s2 := hr'.2.2
  rw [szs_app, szs_cons] at s2
  unfold f_X8_compares
  rw [dv_t (by omega), dv_t (by omega), dv_t (by omega), ca_len h hp hr (by omega) (by omega), bd_some, dv_t (by omega), ca_len h hq hr' (by omega) (by omega), bd_some]
  obtain ⟨j, q1, q2, q3, q4⟩ := lm_cmp (K := (fun (v7_e37 : Int) (C_e37 : Mem) => (cLt (v7_e37) (e.1.length : Int) (cLt (v7_e37) (f.1.length : Int) (dv (u1) (bd (f_X8_as (u1 / 64) (((u1 % 64) + 1) + v7_e37) C_e37) (fun C114 r114 => (dv (u2) (bd (f_X8_as (u2 / 64) (((u2 % 64) + 1) + v7_e37) C114) (fun C129 r129 => (some (C129, r114 - r129)))))))) (some (C_e37, (e.1.length : Int) - (f.1.length : Int)))) (some (C_e37, (e.1.length : Int) - (f.1.length : Int)))))) h hp hq hr hr' h1 h2 8 FU 0 rfl (by omega) (by omega)
  rw [q1]
  rw [Nat.sub_self, List.drop_zero, List.drop_zero] at q2
  have hkl := LOk_gd (EOk_L he) j
  have hel := LOk_gd (EOk_L hf) j
  have hstep := cmp_drop (LOk_pos (EOk_L he)) (LOk_pos (EOk_L hf)) j
  by_cases c1 : j < e.1.length
  · rw [tLt (by omega)]
    by_cases c2 : j < f.1.length
    · rw [tLt (by omega), dv_t (by omega), ca_let h hp hr (by omega) c1 (by omega), bd_some, dv_t (by omega), ca_let h hq hr' (by omega) c2 (by omega), bd_some]
      refine ⟨_, rfl, by omega, by omega, ?_⟩
      have c3 : e.1.getD j 0 ≠ f.1.getD j 0 := by rcases q4 with q | q | q <;> omega
      rw [q2, hstep, if_neg c3]
      by_cases c4 : e.1.getD j 0 < f.1.getD j 0
      · rw [if_pos c4]; exact Or.inl ⟨by omega, rfl⟩
      · rw [if_neg c4]; exact Or.inr (Or.inr ⟨by omega, rfl⟩)
    · rw [fLt (by omega)]
      refine ⟨_, rfl, by omega, by omega, ?_⟩
      rw [q2, List.drop_eq_nil_of_le (show f.1.length ≤ j by omega), List.drop_eq_getElem_cons c1]
      exact Or.inr (Or.inr ⟨by omega, rfl⟩)
  · rw [fLt (by omega)]
    refine ⟨_, rfl, by omega, by omega, ?_⟩
    by_cases c2 : j < f.1.length
    · rw [q2, List.drop_eq_nil_of_le (show e.1.length ≤ j by omega), List.drop_eq_getElem_cons c2]
      exact Or.inl ⟨by omega, rfl⟩
    · have hq2 : cmp e.1 f.1 = 0 := by
        rw [q2, List.drop_eq_nil_of_le (show e.1.length ≤ j by omega), List.drop_eq_nil_of_le (show f.1.length ≤ j by omega)]; rfl
      have hq3 := (cmp_eq e.1 f.1).mp hq2
      rw [hq2, hq3]
      exact Or.inr (Or.inl ⟨by omega, rfl⟩)
/-- neighbours rise -/
def Up : List Ent → Prop
  | [] => True
  | e :: r => (∀ f r', r = f :: r' → cmp e.1 f.1 < 0) ∧ Up r
/-- only the checker's key changes -/
def F3 (C C' : Mem) : Prop := ∀ x y, x ≠ 16 → x ≠ 17 → C' x y = C x y
theorem F3_refl : F3 C C := fun _ _ _ _ => rfl
theorem F3_tr {C1 C2 : Mem} (h1 : F3 C C1) (h2 : F3 C1 C2) : F3 C C2 := fun x y a b => by rw [h2 x y a b, h1 x y a b]
theorem F3_stK {w : List Int} : F3 C (stK C 3 w) := fun x y a b => stK_o (by omega) (by omega)
theorem F3_Rd {C' : Mem} (h : RdC C B) (hf : F3 C C') : RdC C' B := fun p hp j hj => by rw [hf _ _ (by omega) (by omega)]; exact h p hp j hj
theorem cx_rises (hB : ByOk B) (hp : p < 32) (hr : Rb B p es) : ∀ (b a : List Ent) (e : Ent) (n : Nat) (v : Int) (C : Mem), RdC C B → es = a ++ e :: b → v = (a.length : Int) + 1 → b.length < n → ∃ C', F3 C C' ∧ ((Up (e :: b) ∧ f_X1_rises_2 p (fun (v2_e2 : Int) (C_e2 : Mem) => (some (C_e2, 1))) n v C = some (C', 1)) ∨ (¬ Up (e :: b) ∧ f_X1_rises_2 p (fun (v2_e2 : Int) (C_e2 : Mem) => (some (C_e2, 1))) n v C = some (C', 0)))
  | _, _, _, 0 => by intros; omega
  | [], a, e, n + 1 => by
    intro v C h h1 hv hn
    have hl := Rb_len hr
    have h9 : es.length = a.length + 1 := by rw [h1]; simp
    have hpg := ck_pg h hB hp hr
    refine ⟨C, F3_refl, Or.inl ⟨⟨fun f r' q => by simp at q, trivial⟩, ?_⟩⟩
    unfold f_X1_rises_2
    rw [sp_entries hpg, bd_some, fLt (by omega)]
  | f :: b, a, e, n + 1 => by
    intro v C h h1 hv hn
    have hl := Rb_len hr
    have h9 : es.length = a.length + (b.length + 2) := by rw [h1]; simp
    have hpg := ck_pg h hB hp hr
    have hpg1 : PgC C p (B p 0) (B p 2) (a ++ e :: (f :: b)) := by rw [← h1]; exact hpg
    have h1' : es = (a ++ [e]) ++ f :: b := by rw [h1]; simp
    have h2 : RdC (stK C 3 e.1) B := F3_Rd h F3_stK
    have hpg2 : PgC (stK C 3 e.1) p (B p 0) (B p 2) ((a ++ [e]) ++ f :: b) := by rw [← h1']; exact ck_pg h2 hB hp hr
    have hk : KyC (stK C 3 e.1) 3 e.1 := stK_KC (EOk_L (EsOk_mid hpg1.2.1))
    have hc := cmp_rng f.1 e.1
    have ha := cmp_anti e.1 f.1
    obtain ⟨C', hf, ih⟩ := cx_rises hB hp hr b (a ++ [e]) f n (v + 1) (stK C 3 e.1) h2 h1' (by simp; omega) (by simp at hn; omega)
    unfold f_X1_rises_2
    rw [sp_entries hpg, bd_some, tLt (by omega), sp_readKey (by omega) hpg1 (by omega), bd_some, sp_compare hpg2 hk (by simp; omega), bd_some]
    by_cases c : cmp e.1 f.1 < 0
    · rw [tLt (by omega)]
      refine ⟨C', F3_tr F3_stK hf, ?_⟩
      rcases ih with ⟨u, i⟩ | ⟨u, i⟩
      · exact Or.inl ⟨⟨fun g r' q => by injection q with q1 q2; rw [← q1]; exact c, u⟩, i⟩
      · exact Or.inr ⟨fun q => u q.2, i⟩
    · rw [fLt (by omega)]
      exact ⟨_, F3_stK, Or.inr ⟨fun q => c (q.1 f b rfl), rfl⟩⟩
theorem ck_rises (h : RdC C B) (hB : ByOk B) (hp : p < 32) (hr : Rb B p es) : ∃ C', F3 C C' ∧ ((Up es ∧ f_X1_rises p C = some (C', 1)) ∨ (¬ Up es ∧ f_X1_rises p C = some (C', 0))) := by
  have hf := FU_eq
  have hl := Rb_len hr
  cases es with
  | nil =>
    refine ⟨C, F3_refl, Or.inl ⟨trivial, ?_⟩⟩
    have hpg := ck_pg h hB hp hr
    unfold f_X1_rises
    rw [show FU = 4999 + 1 from rfl, f_X1_rises_2, sp_entries hpg, bd_some, fLt (by simp)]
  | cons e b =>
    exact cx_rises hB hp hr b [] e FU 1 C h rfl rfl (by simp at hl; omega)
theorem cm_flag0 (h : RdX X B) (hp : p < 32) (hr : Rb B p es) (hpz : pz = (p : Int)) {K : Int → Int → Int → Mem → Option (Mem × Int)} : ∀ (b a : List Ent) (n : Nat) (v3 v4 : Int), es = a ++ b → v3 = ((3 + szs a : Nat) : Int) → v4 = (a.length : Int) → b.length < n → ∃ z1 z2, f_X8_rises_7 pz K n 0 v3 v4 X = K 0 z1 z2 X
  | _, _, 0 => by intros; omega
  | [], a, n + 1 => by
    intro v3 v4 h1 h3 h4 _
    have hl := Rb_len hr
    have h9 : es.length = a.length := by rw [h1]; simp
    unfold f_X8_rises_7
    rw [ca_1 h hp hr hpz, bd_some, fLt (by omega)]
    exact ⟨_, _, rfl⟩
  | e :: b, a, n + 1 => by
    intro v3 v4 h1 h3 h4 hn
    have hl := Rb_len hr
    have h9 : es.length = a.length + (b.length + 1) := by rw [h1]; simp
    have hr1 : Rb B p (a ++ e :: b) := by rw [← h1]; exact hr
    unfold f_X8_rises_7
    rw [ca_1 h hp hr hpz, bd_some]
    by_cases c : v4 + 1 < (es.length : Int)
    · rw [tLt (by omega), ca_len h hp hr1 hpz h3, bd_some, tEq (by omega)]
      exact cm_flag0 h hp hr hpz b (a ++ [e]) n _ _ (by rw [h1]; simp) (by rw [szs_app, szs_cons, szs_nil]; omega) (by simp; omega) (by simp at hn; omega)
    · rw [fLt (by omega)]
      exact ⟨_, _, rfl⟩
theorem cm_rises (h : RdX X B) (hp : p < 32) (hr : Rb B p es) (hpz : pz = (p : Int)) {K : Int → Int → Int → Mem → Option (Mem × Int)} : ∀ (b a : List Ent) (e : Ent) (n : Nat) (v3 v4 : Int), es = a ++ e :: b → v3 = ((3 + szs a : Nat) : Int) → v4 = (a.length : Int) → b.length + 1 < n → ∃ z1 z2, (Up (e :: b) ∧ f_X8_rises_7 pz K n 1 v3 v4 X = K 1 z1 z2 X) ∨ (¬ Up (e :: b) ∧ f_X8_rises_7 pz K n 1 v3 v4 X = K 0 z1 z2 X)
  | _, _, _, 0 => by intros; omega
  | [], a, e, n + 1 => by
    intro v3 v4 h1 h3 h4 _
    have hl := Rb_len hr
    have h9 : es.length = a.length + 1 := by rw [h1]; simp
    unfold f_X8_rises_7
    rw [ca_1 h hp hr hpz, bd_some, fLt (by omega)]
    exact ⟨_, _, Or.inl ⟨⟨fun f r' q => by simp at q, trivial⟩, rfl⟩⟩
  | f :: b, a, e, n + 1 => by
    intro v3 v4 h1 h3 h4 hn
    have hl := Rb_len hr
    have h9 : es.length = a.length + (b.length + 2) := by rw [h1]; simp
    have h1' : es = (a ++ [e]) ++ f :: b := by rw [h1]; simp
    have hr1 : Rb B p (a ++ e :: (f :: b)) := by rw [← h1]; exact hr
    have hr2 : Rb B p ((a ++ [e]) ++ f :: b) := by rw [← h1']; exact hr
    have hs : szs (a ++ [e]) = szs a + (e.1.length + 2) := by rw [szs_app, szs_cons, szs_nil]
    obtain ⟨r, r1, r2, r3, r4⟩ := ca_cmp h hp hp hr1 hr2 (u1 := 64 * pz + v3) (u2 := 64 * pz + (v3 + (e.1.length : Int) + 2)) (by omega) (by omega)
    unfold f_X8_rises_7
    rw [ca_1 h hp hr hpz, bd_some, tLt (by omega), ca_len h hp hr1 hpz h3, bd_some, fEq (by omega), r1, bd_some]
    by_cases c : cmp e.1 f.1 < 0
    · rw [tLt (by omega)]
      obtain ⟨z1, z2, ih⟩ := cm_rises h hp hr hpz (K := K) b (a ++ [e]) f n (v3 + (e.1.length : Int) + 2) (v4 + 1) h1' (by omega) (by simp; omega) (by simp at hn; omega)
      refine ⟨z1, z2, ?_⟩
      rcases ih with ⟨u, i⟩ | ⟨u, i⟩
      · exact Or.inl ⟨⟨fun g r' q => by injection q with q1 q2; rw [← q1]; exact c, u⟩, i⟩
      · exact Or.inr ⟨fun q => u q.2, i⟩
    · rw [fLt (by omega)]
      obtain ⟨z1, z2, ih⟩ := cm_flag0 h hp hr hpz (K := K) (f :: b) (a ++ [e]) n (v3 + (e.1.length : Int) + 2) (v4 + 1) h1' (by omega) (by simp; omega) (by simp at hn ⊢; omega)
      exact ⟨z1, z2, Or.inr ⟨fun q => c (q.1 f b rfl), ih⟩⟩
theorem ca_rises (h : RdX X B) (hp : p < 32) (hr : Rb B p es) (hpz : pz = (p : Int)) : (Up es ∧ f_X8_rises pz X = some (X, 1)) ∨ (¬ Up es ∧ f_X8_rises pz X = some (X, 0)) := by
  have hf := FU_eq
  have hl := Rb_len hr
  unfold f_X8_rises
  cases es with
  | nil =>
    refine Or.inl ⟨trivial, ?_⟩
    rw [show FU = 4999 + 1 from rfl, f_X8_rises_7, ca_1 h hp hr hpz, bd_some, fLt (by simp), bo_t (by omega)]
  | cons e b =>
    obtain ⟨z1, z2, ih⟩ := cm_rises h hp hr hpz (K := (fun (v2_e7 : Int) (v3_e7 : Int) (v4_e7 : Int) (C_e7 : Mem) => (bo (v2_e7) (some (C_e7, v2_e7))))) b [] e FU 3 0 rfl rfl rfl (by simp at hl; omega)
    rcases ih with ⟨u, i⟩ | ⟨u, i⟩
    · refine Or.inl ⟨u, ?_⟩
      rw [i]
      rw [bo_t (by omega)]
    · refine Or.inr ⟨u, ?_⟩
      rw [i]
      rw [bo_t (by omega)]
end K2

/-! CHECK 3: keys within bounds; children. -/
def Bnd (B : By) (o : Option (List Int)) (c m : Int) : Prop := (o = none ∧ c = -1 ∧ m = -9) ∨ ∃ (q : Nat) (a : List Ent) (e : Ent) (b : List Ent), o = some e.1 ∧ q < 32 ∧ Rb B q (a ++ e :: b) ∧ c = ((64 * q + a.length : Nat) : Int) ∧ m = ((64 * q + (3 + szs a) : Nat) : Int)
def InB (lo hi : Option (List Int)) (e : Ent) : Prop := (∀ w, lo = some w → ¬ cmp e.1 w < 0) ∧ (∀ w, hi = some w → cmp e.1 w < 0)
section K3
variable {C X : Mem} {B : By} {p q : Nat} {es a b r0 r1 : List Ent} {e f e0 eL : Ent} {z pz cl ch ml mh : Int} {lo hi : Option (List Int)}
theorem Up_all : ∀ (r : List Ent) (e : Ent), Up (e :: r) → ∀ f ∈ r, cmp e.1 f.1 < 0
  | [], _ => by intro _ f hf; exact absurd hf List.not_mem_nil
  | g :: r, e => by
    intro h f hf
    have h1 := h.1 g r rfl
    rcases List.mem_cons.mp hf with q | q
    · rw [q]; exact h1
    · exact cmp_trans _ _ _ h1 (Up_all r g h.2 f q)
theorem Up_last : ∀ (r : List Ent) (e : Ent), Up (r ++ [e]) → ∀ f ∈ r, cmp f.1 e.1 < 0
  | [], _ => by intro _ f hf; exact absurd hf List.not_mem_nil
  | g :: r, e => by
    intro h f hf
    rcases List.mem_cons.mp hf with q | q
    · rw [q]; exact Up_all (r ++ [e]) g h e (by simp)
    · exact Up_last r e h.2 f q
theorem InB_all (hu : Up es) (h0 : es = e0 :: r0) (h1 : es = r1 ++ [eL]) : ((∀ w, lo = some w → ¬ cmp e0.1 w < 0) ∧ (∀ w, hi = some w → cmp eL.1 w < 0)) ↔ ∀ e ∈ es, InB lo hi e := by
  constructor
  · rintro ⟨g1, g2⟩ e he
    constructor
    · intro w hw hc
      rw [h0] at he hu
      rcases List.mem_cons.mp he with q | q
      · rw [q] at hc; exact g1 w hw hc
      · exact g1 w hw (cmp_trans _ _ _ (Up_all r0 e0 hu e q) hc)
    · intro w hw
      rw [h1] at he hu
      rcases List.mem_append.mp he with q | q
      · exact cmp_trans _ _ _ (Up_last r1 eL hu e q) (g2 w hw)
      · rw [List.mem_singleton.mp q]; exact g2 w hw
  · intro h
    exact ⟨fun w hw => (h e0 (by rw [h0]; simp)).1 w hw, fun w hw => (h eL (by rw [h1]; simp)).2 w hw⟩
theorem ck_between (h : RdC C B) (hB : ByOk B) (hp : p < 32) (hr : Rb B p es) (h0 : es = e0 :: r0) (h1 : es = r1 ++ [eL]) (hlo : Bnd B lo cl ml) (hhi : Bnd B hi ch mh) : ∃ C', F3 C C' ∧ ((((∀ w, lo = some w → ¬ cmp e0.1 w < 0) ∧ (∀ w, hi = some w → cmp eL.1 w < 0)) ∧ f_X1_isBetween p cl ch C = some (C', 1)) ∨ (¬ ((∀ w, lo = some w → ¬ cmp e0.1 w < 0) ∧ (∀ w, hi = some w → cmp eL.1 w < 0)) ∧ f_X1_isBetween p cl ch C = some (C', 0))) := by
  have hl := Rb_len hr
  have hl1 : es.length = r1.length + 1 := by rw [h1]; simp
  have hj : ∀ C1, RdC C1 B → ∃ C', F3 C1 C' ∧ (((∀ w, hi = some w → cmp eL.1 w < 0) ∧ (cEq (ch) (-1) (some (C1, (1 : Int))) (dv (ch) (bd (f_X6_pageOf (ch / 64) C1) (fun C54 r54 => (dv (ch) (bd (f_X4_readKey r54 (ch % 64) 3 C54) (fun C65 _ => (bd (f_X4_entries p C65) (fun C70 r70 => (bd (f_X4_compare p (r70 - 1) 3 C70) (fun C79 r79 => (cLt (r79) 0 (some (C79, 1)) (some (C79, 0)))))))))))))) = some (C', 1)) ∨ (¬ (∀ w, hi = some w → cmp eL.1 w < 0) ∧ (cEq (ch) (-1) (some (C1, (1 : Int))) (dv (ch) (bd (f_X6_pageOf (ch / 64) C1) (fun C54 r54 => (dv (ch) (bd (f_X4_readKey r54 (ch % 64) 3 C54) (fun C65 _ => (bd (f_X4_entries p C65) (fun C70 r70 => (bd (f_X4_compare p (r70 - 1) 3 C70) (fun C79 r79 => (cLt (r79) 0 (some (C79, 1)) (some (C79, 0)))))))))))))) = some (C', 0))) := by
    intro C1 hC
    rcases hhi with ⟨g1, g2, _⟩ | ⟨q, a, e, b, g1, g2, g3, g4, _⟩
    · refine ⟨C1, F3_refl, Or.inl ⟨fun w hw => by rw [g1] at hw; exact absurd hw (by simp), ?_⟩⟩
      rw [tEq (by omega)]
    · have gl := Rb_len g3
      have gl2 : (a ++ e :: b).length = a.length + (b.length + 1) := by simp
      have hC2 : RdC (stK C1 3 e.1) B := F3_Rd hC F3_stK
      have pg := ck_pg hC2 hB hp hr
      have pg1 : PgC (stK C1 3 e.1) p (B p 0) (B p 2) (r1 ++ eL :: []) := by rw [← h1]; exact pg
      have hc := cmp_rng eL.1 e.1
      refine ⟨stK C1 3 e.1, F3_stK, ?_⟩
      rw [fEq (by omega), dv_t (by omega), sp_pageOf (i := q) (by omega) g2, bd_some, dv_t (by omega), sp_readKey (by omega) (ck_pg hC hB g2 g3) (by omega), bd_some, sp_entries pg, bd_some, sp_compare pg1 (stK_KC (EOk_L (EsOk_mid g3.2.1))) (by omega), bd_some]
      by_cases c : cmp eL.1 e.1 < 0
      · rw [tLt (by omega)]
        exact Or.inl ⟨fun w hw => by rw [g1] at hw; injection hw with hw; rw [← hw]; exact c, rfl⟩
      · rw [fLt (by omega)]
        exact Or.inr ⟨fun k => c (k e.1 g1), rfl⟩
  unfold f_X1_isBetween
  simp only [jn_eq]
  rcases hlo with ⟨g1, g2, _⟩ | ⟨q, a, e, b, g1, g2, g3, g4, _⟩
  · rw [tEq (a := cl) (by omega)]
    obtain ⟨C', f1, f2⟩ := hj C h
    refine ⟨C', f1, ?_⟩
    rcases f2 with ⟨k, f2⟩ | ⟨k, f2⟩
    · exact Or.inl ⟨⟨fun w hw => by rw [g1] at hw; exact absurd hw (by simp), k⟩, f2⟩
    · exact Or.inr ⟨fun k' => k k'.2, f2⟩
  · have gl := Rb_len g3
    have gl2 : (a ++ e :: b).length = a.length + (b.length + 1) := by simp
    have hC2 : RdC (stK C 3 e.1) B := F3_Rd h F3_stK
    have pg := ck_pg hC2 hB hp hr
    have pg1 : PgC (stK C 3 e.1) p (B p 0) (B p 2) ([] ++ e0 :: r0) := by rw [List.nil_append, ← h0]; exact pg
    have hc := cmp_rng e0.1 e.1
    rw [fEq (a := cl) (by omega), dv_t (a := cl) (by omega), sp_pageOf (i := q) (z := cl / 64) (by omega) g2, bd_some, dv_t (a := cl) (by omega), sp_readKey (by omega) (ck_pg h hB g2 g3) (z := cl % 64) (by omega), bd_some, sp_compare pg1 (stK_KC (EOk_L (EsOk_mid g3.2.1))) (by rfl), bd_some]
    by_cases c : cmp e0.1 e.1 < 0
    · rw [tLt (a := cmp e0.1 e.1) (by omega)]
      exact ⟨_, F3_stK, Or.inr ⟨fun k => k.1 e.1 g1 c, rfl⟩⟩
    · rw [fLt (a := cmp e0.1 e.1) (by omega)]
      obtain ⟨C', f1, f2⟩ := hj _ hC2
      refine ⟨C', F3_tr F3_stK f1, ?_⟩
      rcases f2 with ⟨k, f2⟩ | ⟨k, f2⟩
      · exact Or.inl ⟨⟨fun w hw => by rw [g1] at hw; injection hw with hw; rw [← hw]; exact c, k⟩, f2⟩
      · exact Or.inr ⟨fun k' => k k'.2, f2⟩
theorem cm_within (h : RdX X B) (hp : p < 32) (hr : Rb B p es) (hpz : pz = (p : Int)) (hlo : Bnd B lo cl ml) (hhi : Bnd B hi ch mh) {K : Int → Int → Int → Mem → Option (Mem × Int)} : ∀ (b a : List Ent) (n : Nat) (v4 v5 v6 : Int), es = a ++ b → v5 = ((3 + szs a : Nat) : Int) → v6 = (a.length : Int) → v4 = 0 ∨ v4 = 1 → b.length < n → ∃ z1 z2, ((v4 = 1 ∧ ∀ e ∈ b, InB lo hi e) ∧ f_X8_isWithin_9 pz ml mh K n v4 v5 v6 X = K 1 z1 z2 X) ∨ (¬ (v4 = 1 ∧ ∀ e ∈ b, InB lo hi e) ∧ f_X8_isWithin_9 pz ml mh K n v4 v5 v6 X = K 0 z1 z2 X)
  | _, _, 0 => by intros; omega
  | [], a, n + 1 => by
    intro v4 v5 v6 h1 h3 h4 h5 _
    have hl := Rb_len hr
    have h9 : es.length = a.length := by rw [h1]; simp
    unfold f_X8_isWithin_9
    rw [ca_1 h hp hr hpz, bd_some, fLt (by omega)]
    rcases h5 with h5 | h5
    · exact ⟨_, _, Or.inr ⟨fun q => by omega, by rw [h5]⟩⟩
    · exact ⟨_, _, Or.inl ⟨⟨h5, fun e he => absurd he List.not_mem_nil⟩, by rw [h5]⟩⟩
  | e :: b, a, n + 1 => by
    intro v4 v5 v6 h1 h3 h4 h5 hn
    have hl := Rb_len hr
    have h9 : es.length = a.length + (b.length + 1) := by rw [h1]; simp
    have hr1 : Rb B p (a ++ e :: b) := by rw [← h1]; exact hr
    have ih : ∀ s : Int, s = 0 ∨ s = 1 → ∃ z1 z2, ((s = 1 ∧ ∀ e ∈ b, InB lo hi e) ∧ bd (f_X8_as pz v5 X) (fun C79 r79 => f_X8_isWithin_9 pz ml mh K n s (v5 + (r79 + 2)) (v6 + 1) C79) = K 1 z1 z2 X) ∨ (¬ (s = 1 ∧ ∀ e ∈ b, InB lo hi e) ∧ bd (f_X8_as pz v5 X) (fun C79 r79 => f_X8_isWithin_9 pz ml mh K n s (v5 + (r79 + 2)) (v6 + 1) C79) = K 0 z1 z2 X) := by
      intro s hs
      rw [ca_len h hp hr1 hpz h3, bd_some]
      exact cm_within h hp hr hpz hlo hhi b (a ++ [e]) n s (v5 + ((e.1.length : Int) + 2)) (v6 + 1) (by rw [h1]; simp) (by rw [szs_app, szs_cons, szs_nil]; omega) (by simp; omega) hs (by simp at hn; omega)
    have ih0 : ¬ (v4 = 1 ∧ InB lo hi e) → ∃ z1 z2, ((v4 = 1 ∧ ∀ e' ∈ e :: b, InB lo hi e') ∧ bd (f_X8_as pz v5 X) (fun C79 r79 => f_X8_isWithin_9 pz ml mh K n 0 (v5 + (r79 + 2)) (v6 + 1) C79) = K 1 z1 z2 X) ∨ (¬ (v4 = 1 ∧ ∀ e' ∈ e :: b, InB lo hi e') ∧ bd (f_X8_as pz v5 X) (fun C79 r79 => f_X8_isWithin_9 pz ml mh K n 0 (v5 + (r79 + 2)) (v6 + 1) C79) = K 0 z1 z2 X) := by
      intro hne
      obtain ⟨z1, z2, q⟩ := ih 0 (Or.inl rfl)
      rcases q with ⟨q, _⟩ | ⟨_, q⟩
      · exact absurd q.1 (by omega)
      · exact ⟨z1, z2, Or.inr ⟨fun k => hne ⟨k.1, k.2 e (by simp)⟩, q⟩⟩
    have ih1 : v4 = 1 → InB lo hi e → ∃ z1 z2, ((v4 = 1 ∧ ∀ e' ∈ e :: b, InB lo hi e') ∧ bd (f_X8_as pz v5 X) (fun C79 r79 => f_X8_isWithin_9 pz ml mh K n 1 (v5 + (r79 + 2)) (v6 + 1) C79) = K 1 z1 z2 X) ∨ (¬ (v4 = 1 ∧ ∀ e' ∈ e :: b, InB lo hi e') ∧ bd (f_X8_as pz v5 X) (fun C79 r79 => f_X8_isWithin_9 pz ml mh K n 1 (v5 + (r79 + 2)) (v6 + 1) C79) = K 0 z1 z2 X) := by
      intro hv hin
      obtain ⟨z1, z2, q⟩ := ih 1 (Or.inr rfl)
      rcases q with ⟨q1, q⟩ | ⟨q1, q⟩
      · exact ⟨z1, z2, Or.inl ⟨⟨hv, fun e' he' => by
          rcases List.mem_cons.mp he' with k | k
          · rw [k]; exact hin
          · exact q1.2 e' k⟩, q⟩⟩
      · exact ⟨z1, z2, Or.inr ⟨fun k => q1 ⟨rfl, fun e' he' => k.2 e' (List.mem_cons_of_mem _ he')⟩, q⟩⟩
    unfold f_X8_isWithin_9
    rw [ca_1 h hp hr hpz, bd_some, tLt (by omega)]
    simp only [jn_eq]
    rcases h5 with h5 | h5
    · rw [tEq (a := v4) (by omega)]
      exact ih0 (fun q => by omega)
    · rw [fEq (a := v4) (by omega)]
      have hhi2 : (∀ w, lo = some w → ¬ cmp e.1 w < 0) → ∃ z1 z2, ((v4 = 1 ∧ ∀ e' ∈ e :: b, InB lo hi e') ∧ (cEq mh (-9) (bd (f_X8_as pz v5 X) (fun C79 r79 => f_X8_isWithin_9 pz ml mh K n 1 (v5 + (r79 + 2)) (v6 + 1) C79)) (bd (f_X8_compares (64 * pz + v5) mh X) (fun C60 r60 => cLt r60 0 (bd (f_X8_as pz v5 C60) (fun C79 r79 => f_X8_isWithin_9 pz ml mh K n 1 (v5 + (r79 + 2)) (v6 + 1) C79)) (bd (f_X8_as pz v5 C60) (fun C79 r79 => f_X8_isWithin_9 pz ml mh K n 0 (v5 + (r79 + 2)) (v6 + 1) C79))))) = K 1 z1 z2 X) ∨ (¬ (v4 = 1 ∧ ∀ e' ∈ e :: b, InB lo hi e') ∧ (cEq mh (-9) (bd (f_X8_as pz v5 X) (fun C79 r79 => f_X8_isWithin_9 pz ml mh K n 1 (v5 + (r79 + 2)) (v6 + 1) C79)) (bd (f_X8_compares (64 * pz + v5) mh X) (fun C60 r60 => cLt r60 0 (bd (f_X8_as pz v5 C60) (fun C79 r79 => f_X8_isWithin_9 pz ml mh K n 1 (v5 + (r79 + 2)) (v6 + 1) C79)) (bd (f_X8_as pz v5 C60) (fun C79 r79 => f_X8_isWithin_9 pz ml mh K n 0 (v5 + (r79 + 2)) (v6 + 1) C79))))) = K 0 z1 z2 X) := by
        intro hlo1
        rcases hhi with ⟨g1, _, g2⟩ | ⟨q, a2, e2, b2, g1, g2, g3, _, g4⟩
        · rw [tEq (a := mh) (by omega)]
          exact ih1 h5 ⟨hlo1, fun w hw => by rw [g1] at hw; exact absurd hw (by simp)⟩
        · obtain ⟨r, r1, r2, r3, r4⟩ := ca_cmp h hp g2 hr1 g3 (u1 := 64 * pz + v5) (by omega) g4
          have gz := g3.2.2
          rw [szs_app] at gz
          rw [fEq (a := mh) (by omega), r1, bd_some]
          by_cases c : cmp e.1 e2.1 < 0
          · rw [tLt (a := r) (by omega)]
            exact ih1 h5 ⟨hlo1, fun w hw => by rw [g1] at hw; injection hw with hw; rw [← hw]; exact c⟩
          · rw [fLt (a := r) (by omega)]
            exact ih0 (fun k => c (k.2.2 e2.1 g1))
      rcases hlo with ⟨g1, _, g2⟩ | ⟨q, a2, e2, b2, g1, g2, g3, _, g4⟩
      · rw [tEq (a := ml) (by omega)]
        exact hhi2 (fun w hw => by rw [g1] at hw; exact absurd hw (by simp))
      · obtain ⟨r, r1, r2, r3, r4⟩ := ca_cmp h hp g2 hr1 g3 (u1 := 64 * pz + v5) (by omega) g4
        have gz := g3.2.2
        rw [szs_app] at gz
        rw [fEq (a := ml) (by omega), r1, bd_some]
        by_cases c : cmp e.1 e2.1 < 0
        · rw [tLt (a := r) (by omega)]
          exact ih0 (fun k => k.2.1 e2.1 g1 c)
        · rw [fLt (a := r) (by omega)]
          exact hhi2 (fun w hw => by rw [g1] at hw; injection hw with hw; rw [← hw]; exact c)
theorem ca_within (h : RdX X B) (hp : p < 32) (hr : Rb B p es) (hpz : pz = (p : Int)) (hlo : Bnd B lo cl ml) (hhi : Bnd B hi ch mh) : ((∀ e ∈ es, InB lo hi e) ∧ f_X8_isWithin pz ml mh X = some (X, 1)) ∨ (¬ (∀ e ∈ es, InB lo hi e) ∧ f_X8_isWithin pz ml mh X = some (X, 0)) := by
  have hf := FU_eq
  have hl := Rb_len hr
  unfold f_X8_isWithin
  obtain ⟨z1, z2, q⟩ := cm_within h hp hr hpz hlo hhi (K := (fun (v4_e9 : Int) (v5_e9 : Int) (v6_e9 : Int) (C_e9 : Mem) => (bo (v4_e9) (some (C_e9, v4_e9))))) es [] FU 1 3 0 rfl rfl rfl (Or.inr rfl) (by omega)
  rcases q with ⟨q1, q⟩ | ⟨q1, q⟩
  · exact Or.inl ⟨q1.2, by rw [q, bo_t (by omega)]⟩
  · exact Or.inr ⟨fun k => q1 ⟨rfl, k⟩, by rw [q, bo_t (by omega)]⟩
end K3

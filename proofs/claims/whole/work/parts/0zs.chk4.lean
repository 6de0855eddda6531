/-! CHECK 4: children; why a page is wrong. -/
def GoodCh (S : Nat → Int) (R : List Ent) : Prop := (∀ c ∈ R, 0 ≤ c.2 ∧ c.2 < 32 ∧ S c.2.toNat = 0) ∧ (R.map Prod.snd).Nodup
section K4
variable {C X : Mem} {B : By} {p q : Nat} {es a b r0 r1 d r : List Ent} {e f c : Ent} {z pz cl ch ml mh l s : Int} {lo hi : Option (List Int)} {S : Nat → Int}
theorem chd_at (h : ([], l) :: es = d ++ c :: r) : chd (s, l, es) d.length = c.2 := by
  unfold chd
  show ((([], l) :: es).getD d.length ([], 0)).2 = c.2
  rw [h, List.getD_eq_getElem?_getD, List.getElem?_append_right (by omega), Nat.sub_self]
  rfl
theorem chd_le (h : ([], l) :: es = d ++ c :: r) : es.length = d.length + r.length := by
  have := congrArg List.length h
  simp at this
  omega
theorem cm_child (h : RdX X B) (hp : p < 32) (hr : Rb B p es) (hpz : pz = (p : Int)) {K : Int → Int → Mem → Option (Mem × Int)} {u : Int} : ∀ (b a c : List Ent) (n : Nat) (v2 v3 : Int), es = a ++ b ++ c → u = ((a ++ b).length : Int) + 1 → b.length < n → v2 = (3 + szs a : Nat) → v3 = (a.length : Int) + 1 → f_X8_childAs_16 pz u K n v2 v3 X = K ((3 + szs (a ++ b) : Nat) : Int) u X
  | _, _, _, 0 => by intros; omega
  | [], a, c, n + 1 => by
    intro v2 v3 h1 h2 h3 h4 h5
    have h6 := Rb_len hr
    rw [List.append_nil] at h2 ⊢
    have h7 : a.length ≤ es.length := by rw [h1]; simp
    unfold f_X8_childAs_16
    rw [fLt (by omega), h4, h5, h2]
  | e :: b, a, c, n + 1 => by
    intro v2 v3 h1 h2 h3 h4 h5
    have h6 := Rb_len hr
    have h9 : es.length = a.length + (b.length + 1) + c.length := by rw [h1]; simp; omega
    have hu : u = ((a.length + (b.length + 1) : Nat) : Int) + 1 := by rw [h2]; simp
    have h' : Rb B p (a ++ e :: (b ++ c)) := by rw [h1, List.append_assoc] at hr; exact hr
    unfold f_X8_childAs_16
    rw [tLt (by omega), ca_len h hp h' hpz h4, bd_some]
    have q := cm_child h hp hr hpz (K := K) (u := u) b (a ++ [e]) c n (v2 + ((e.1.length : Int) + 2)) (v3 + 1) (by rw [h1]; simp) (by rw [h2]; simp) (by simp at h3; omega) (by rw [szs_app, szs_cons, szs_nil]; omega) (by simp; omega)
    rw [q, List.append_assoc]
    rfl
theorem ca_child (h : RdX X B) (hp : p < 32) (hr : Rb B p es) (hpz : pz = (p : Int)) (hd : ([], B p 2) :: es = d ++ c :: r) (hz : z = (d.length : Int)) : f_X8_childAs pz z X = some (X, c.2) := by
  have hf := FU_eq
  have hl := Rb_len hr
  have hle := chd_le hd
  unfold f_X8_childAs
  cases d with
  | nil =>
    rw [tEq (by simp at hz; omega), h p hp 2 (by omega) pz 2 hpz (by rfl), bd_some]
    rw [List.nil_append] at hd
    injection hd with q1 q2
    rw [← q1]
  | cons g d =>
    rw [List.cons_append] at hd
    injection hd with q1 q2
    simp at hz hle
    have hr1 : Rb B p (d ++ c :: r) := by rw [← q2]; exact hr
    rw [fEq (by omega), cm_child h hp hr hpz d [] (c :: r) FU 3 1 (by rw [q2]; simp) (by rw [hz]; simp) (by omega) (by rw [szs_nil]; rfl) (by rfl)]
    rw [List.nil_append, ca_len h hp hr1 hpz (by rfl), bd_some, ca_tail h hp hr1 hpz (by omega), bd_some]
theorem ck_child (h : RdC C B) (hB : ByOk B) (hp : p < 32) (hr : Rb B p es) (hd : ([], B p 2) :: es = d ++ c :: r) (hz : z = (d.length : Int)) : f_X4_child p z C = some (C, c.2) := by
  have hle := chd_le hd
  rw [sp_child (ck_pg h hB hp hr) (n := d.length) (by omega) hz, chd_at hd]
/-- a child that stands there before -/
theorem cx_same (h : RdC C B) (hB : ByOk B) (hp : p < 32) (hr : Rb B p es) (hd : ([], B p 2) :: es = d ++ r) {u2 u3 : Int} (h2 : u2 = (d.length : Int)) (h3 : 0 ≤ u3 ∧ u3 ≤ 255) {K : Int → Mem → Option (Mem × Int)} : ∀ (d2 d1 : List Ent) (n : Nat) (v : Int), d = d1 ++ d2 → v = (d1.length : Int) → d2.length < n → (u3 ∉ d2.map Prod.snd ∧ f_X1_hasWrongChild_43 p u2 u3 K n v C = K u2 C) ∨ (u3 ∈ d2.map Prod.snd ∧ f_X1_hasWrongChild_43 p u2 u3 K n v C = some (C, 1))
  | _, _, 0 => by intros; omega
  | [], d1, n + 1 => by
    intro v h1 hv _
    have hl := Rb_len hr
    have h9 : d.length = d1.length := by rw [h1]; simp
    have h8 := congrArg List.length hd
    simp at h8
    refine Or.inl ⟨by simp, ?_⟩
    unfold f_X1_hasWrongChild_43
    rw [fLt (by omega), show v = u2 by omega]
  | g :: d2, d1, n + 1 => by
    intro v h1 hv hn
    have hl := Rb_len hr
    have h9 : d.length = d1.length + (d2.length + 1) := by rw [h1]; simp
    have h8 := congrArg List.length hd
    simp at h8
    have hd1 : ([], B p 2) :: es = d1 ++ g :: (d2 ++ r) := by rw [hd, h1]; simp
    have hg : 0 ≤ g.2 ∧ g.2 ≤ 255 := by
      have hm : g ∈ ([], B p 2) :: es := by rw [hd1]; simp
      rcases List.mem_cons.mp hm with q | q
      · rw [q]; exact hB p 2
      · exact (hr.2.1 g q).2.2.2
    unfold f_X1_hasWrongChild_43
    rw [tLt (by omega), ck_child h hB hp hr hd1 hv, bd_some]
    by_cases k : g.2 = u3
    · rw [tEq (by omega)]
      exact Or.inr ⟨by simp [k], rfl⟩
    · rw [fEq (by omega)]
      rcases cx_same h hB hp hr hd h2 h3 (K := K) d2 (d1 ++ [g]) n (v + 1) (by rw [h1]; simp) (by simp; omega) (by simp at hn; omega) with ⟨q1, q2⟩ | ⟨q1, q2⟩
      · refine Or.inl ⟨?_, q2⟩
        rw [List.map_cons, List.mem_cons]
        rintro (q | q)
        · exact k q.symm
        · exact q1 q
      · exact Or.inr ⟨by rw [List.map_cons]; exact List.mem_cons_of_mem _ q1, q2⟩
theorem GoodCh_ext (h : GoodCh S d) (h1 : 0 ≤ c.2 ∧ c.2 < 32 ∧ S c.2.toNat = 0) (h2 : c.2 ∉ d.map Prod.snd) : GoodCh S (d ++ [c]) := by
  refine ⟨fun x hx => ?_, ?_⟩
  · rcases List.mem_append.mp hx with q | q
    · exact h.1 x q
    · rw [List.mem_singleton.mp q]; exact h1
  · rw [List.map_append, List.nodup_append]
    refine ⟨h.2, by simp, ?_⟩
    intro x hx y hy
    simp at hy
    rintro rfl
    rw [hy] at hx
    exact h2 hx
theorem GoodCh_not (h : c.2 ∈ d.map Prod.snd) : ¬ GoodCh S (d ++ c :: r) := by
  rintro ⟨_, k⟩
  rw [List.map_append, List.nodup_append] at k
  exact k.2.2 c.2 h c.2 (by simp) rfl
theorem cx_children (h : RdC C B) (hB : ByOk B) (hp : p < 32) (hr : Rb B p es) (hS : ∀ k, k < 32 → C 23 k = S k ∧ (S k = 0 ∨ S k = 1)) : ∀ (r d : List Ent) (n : Nat) (v : Int), ([], B p 2) :: es = d ++ r → v = (d.length : Int) → GoodCh S d → r.length < n → (GoodCh S (d ++ r) ∧ f_X1_hasWrongChild_2 p (fun (v2_e2 : Int) (C_e2 : Mem) => (some (C_e2, 0))) n v C = some (C, 0)) ∨ (¬ GoodCh S (d ++ r) ∧ f_X1_hasWrongChild_2 p (fun (v2_e2 : Int) (C_e2 : Mem) => (some (C_e2, 0))) n v C = some (C, 1))
  | _, _, 0 => by intros; omega
  | [], d, n + 1 => by
    intro v hd hv hg _
    have hl := Rb_len hr
    have h8 := congrArg List.length hd
    simp at h8
    refine Or.inl ⟨by rw [List.append_nil]; exact hg, ?_⟩
    unfold f_X1_hasWrongChild_2
    rw [sp_entries (ck_pg h hB hp hr), bd_some, tLt (by omega)]
  | c :: r, d, n + 1 => by
    intro v hd hv hg hn
    have hf := FU_eq
    have hl := Rb_len hr
    have h8 := congrArg List.length hd
    simp at h8
    have hc : 0 ≤ c.2 ∧ c.2 ≤ 255 := by
      have hm : c ∈ ([], B p 2) :: es := by rw [hd]; simp
      rcases List.mem_cons.mp hm with q | q
      · rw [q]; exact hB p 2
      · exact (hr.2.1 c q).2.2.2
    unfold f_X1_hasWrongChild_2
    rw [sp_entries (ck_pg h hB hp hr), bd_some, fLt (by omega), ck_child h hB hp hr hd hv, bd_some, fLt (by omega)]
    by_cases k1 : c.2 < 32
    · rw [tLt (by omega), ix_t (by omega), (hS _ (by omega)).1]
      have hs := (hS c.2.toNat (by omega)).2
      by_cases k2 : S c.2.toNat = 0
      · rw [tEq (by omega)]
        rcases cx_same h hB hp hr hd hv (u3 := c.2) hc (K := (fun (v4_e43 : Int) (C_e43 : Mem) => (f_X1_hasWrongChild_2 p (fun (v2_e2 : Int) (C_e2 : Mem) => (some (C_e2, 0))) n (v + 1) C_e43))) d [] FU 0 rfl rfl (by omega) with ⟨q1, q2⟩ | ⟨q1, q2⟩
        · rw [q2]
          have ih := cx_children h hB hp hr hS r (d ++ [c]) n (v + 1) (by rw [hd]; simp) (by simp; omega) (GoodCh_ext hg ⟨hc.1, k1, k2⟩ q1) (by simp at hn; omega)
          rw [List.append_assoc] at ih
          exact ih
        · rw [q2]
          exact Or.inr ⟨GoodCh_not q1, rfl⟩
      · rw [fEq (by omega)]
        exact Or.inr ⟨fun k => k2 (k.1 c (by simp)).2.2, rfl⟩
    · rw [fLt (by omega)]
      exact Or.inr ⟨fun k => k1 (k.1 c (by simp)).2.1, rfl⟩
theorem ck_children (h : RdC C B) (hB : ByOk B) (hp : p < 32) (hr : Rb B p es) (hS : ∀ k, k < 32 → C 23 k = S k ∧ (S k = 0 ∨ S k = 1)) : (GoodCh S (([], B p 2) :: es) ∧ f_X1_hasWrongChild p C = some (C, 0)) ∨ (¬ GoodCh S (([], B p 2) :: es) ∧ f_X1_hasWrongChild p C = some (C, 1)) := by
  have hf := FU_eq
  have hl := Rb_len hr
  exact cx_children h hB hp hr hS (([], B p 2) :: es) [] FU 0 rfl rfl ⟨fun _ q => absurd q List.not_mem_nil, by simp⟩ (by simp; omega)
theorem cm_same (h : RdX X B) (hB : ByOk B) (hp : p < 32) (hr : Rb B p es) (hpz : pz = (p : Int)) (hd : ([], B p 2) :: es = d ++ r) {u3 u4 : Int} (h2 : u3 = (d.length : Int)) (h3 : 0 ≤ u4 ∧ u4 ≤ 255) {K : Int → Int → Mem → Option (Mem × Int)} : ∀ (d2 d1 : List Ent) (n : Nat) (v2 v : Int), d = d1 ++ d2 → v = (d1.length : Int) → v2 = 0 ∨ v2 = 1 → d2.length < n → ((v2 = 1 ∧ u4 ∉ d2.map Prod.snd) ∧ f_X8_hasChildren_53 pz u3 u4 K n v2 v X = K 1 u3 X) ∨ (¬ (v2 = 1 ∧ u4 ∉ d2.map Prod.snd) ∧ f_X8_hasChildren_53 pz u3 u4 K n v2 v X = K 0 u3 X)
  | _, _, 0 => by intros; omega
  | [], d1, n + 1 => by
    intro v2 v h1 hv hw _
    have hl := Rb_len hr
    have h9 : d.length = d1.length := by rw [h1]; simp
    have h8 := congrArg List.length hd
    simp at h8
    unfold f_X8_hasChildren_53
    rw [fLt (by omega), show v = u3 by omega]
    rcases hw with hw | hw
    · exact Or.inr ⟨fun q => by omega, by rw [hw]⟩
    · exact Or.inl ⟨⟨hw, by simp⟩, by rw [hw]⟩
  | g :: d2, d1, n + 1 => by
    intro v2 v h1 hv hw hn
    have hl := Rb_len hr
    have h9 : d.length = d1.length + (d2.length + 1) := by rw [h1]; simp
    have h8 := congrArg List.length hd
    simp at h8
    have hd1 : ([], B p 2) :: es = d1 ++ g :: (d2 ++ r) := by rw [hd, h1]; simp
    have hg : 0 ≤ g.2 ∧ g.2 ≤ 255 := by
      have hm : g ∈ ([], B p 2) :: es := by rw [hd1]; simp
      rcases List.mem_cons.mp hm with q | q
      · rw [q]; exact hB p 2
      · exact (hr.2.1 g q).2.2.2
    have ih : ∀ s : Int, s = 0 ∨ s = 1 → ((s = 1 ∧ u4 ∉ d2.map Prod.snd) ∧ f_X8_hasChildren_53 pz u3 u4 K n s (v + 1) X = K 1 u3 X) ∨ (¬ (s = 1 ∧ u4 ∉ d2.map Prod.snd) ∧ f_X8_hasChildren_53 pz u3 u4 K n s (v + 1) X = K 0 u3 X) := fun s hs => cm_same h hB hp hr hpz hd h2 h3 (K := K) d2 (d1 ++ [g]) n s (v + 1) (by rw [h1]; simp) (by simp; omega) hs (by simp at hn; omega)
    have ih0 : ¬ (v2 = 1 ∧ u4 ∉ (g :: d2).map Prod.snd) → f_X8_hasChildren_53 pz u3 u4 K n 0 (v + 1) X = K 0 u3 X := by
      intro _
      rcases ih 0 (Or.inl rfl) with ⟨q, _⟩ | ⟨_, q⟩
      · exact absurd q.1 (by omega)
      · exact q
    unfold f_X8_hasChildren_53
    rw [tLt (by omega)]
    rcases hw with hw | hw
    · rw [tEq (by omega), ih0 (fun q => by omega)]
      exact Or.inr ⟨fun q => by omega, rfl⟩
    · rw [fEq (by omega), ca_child h hp hr hpz hd1 hv, bd_some]
      by_cases k : g.2 = u4
      · have hne : ¬ (v2 = 1 ∧ u4 ∉ (g :: d2).map Prod.snd) := fun q => q.2 (by simp [k])
        rw [tEq (by omega), ih0 hne]
        exact Or.inr ⟨hne, rfl⟩
      · rw [fEq (by omega)]
        rcases ih 1 (Or.inr rfl) with ⟨q1, q2⟩ | ⟨q1, q2⟩
        · refine Or.inl ⟨⟨hw, ?_⟩, q2⟩
          rw [List.map_cons, List.mem_cons]
          rintro (q | q)
          · exact k q.symm
          · exact q1.2 q
        · exact Or.inr ⟨fun q => q1 ⟨rfl, fun w => q.2 (by rw [List.map_cons]; exact List.mem_cons_of_mem _ w)⟩, q2⟩
theorem cm_children (h : RdX X B) (hB : ByOk B) (hp : p < 32) (hr : Rb B p es) (hpz : pz = (p : Int)) (hS : ∀ k, k < 32 → X 104 k = S k ∧ (S k = 0 ∨ S k = 1)) {K : Int → Int → Mem → Option (Mem × Int)} : ∀ (r d : List Ent) (n : Nat) (v2 v : Int), ([], B p 2) :: es = d ++ r → v = (d.length : Int) → v2 = 0 ∨ v2 = 1 → (v2 = 1 → GoodCh S d) → (v2 = 0 → ¬ GoodCh S (d ++ r)) → r.length < n → ∃ z, (GoodCh S (d ++ r) ∧ f_X8_hasChildren_4 pz K n v2 v X = K 1 z X) ∨ (¬ GoodCh S (d ++ r) ∧ f_X8_hasChildren_4 pz K n v2 v X = K 0 z X)
  | _, _, 0 => by intros; omega
  | [], d, n + 1 => by
    intro v2 v hd hv hw hg hg0 _
    have hl := Rb_len hr
    have h8 := congrArg List.length hd
    simp at h8
    unfold f_X8_hasChildren_4
    rw [ca_1 h hp hr hpz, bd_some, tLt (by omega)]
    rcases hw with hw | hw
    · exact ⟨v, Or.inr ⟨hg0 hw, by rw [hw]⟩⟩
    · exact ⟨v, Or.inl ⟨by rw [List.append_nil]; exact hg hw, by rw [hw]⟩⟩
  | c :: r, d, n + 1 => by
    intro v2 v hd hv hw hg hg0 hn
    have hf := FU_eq
    have hl := Rb_len hr
    have h8 := congrArg List.length hd
    simp at h8
    have hc : 0 ≤ c.2 ∧ c.2 ≤ 255 := by
      have hm : c ∈ ([], B p 2) :: es := by rw [hd]; simp
      rcases List.mem_cons.mp hm with q | q
      · rw [q]; exact hB p 2
      · exact (hr.2.1 c q).2.2.2
    have step : ∀ s : Int, s = 0 ∨ s = 1 → (s = 1 → GoodCh S d ∧ 0 ≤ c.2 ∧ c.2 < 32 ∧ S c.2.toNat = 0) → (s = 0 → ¬ GoodCh S (d ++ c :: r)) → ∃ z, (GoodCh S (d ++ c :: r) ∧ f_X8_hasChildren_53 pz v c.2 (fun (v2_e53 : Int) (v5_e53 : Int) (C_e53 : Mem) => (f_X8_hasChildren_4 pz K n (v2_e53) (v + 1) C_e53)) FU s 0 X = K 1 z X) ∨ (¬ GoodCh S (d ++ c :: r) ∧ f_X8_hasChildren_53 pz v c.2 (fun (v2_e53 : Int) (v5_e53 : Int) (C_e53 : Mem) => (f_X8_hasChildren_4 pz K n (v2_e53) (v + 1) C_e53)) FU s 0 X = K 0 z X) := by
      intro s hs g1 g0
      have e : d ++ c :: r = (d ++ [c]) ++ r := by simp
      rcases cm_same h hB hp hr hpz hd hv (u4 := c.2) hc (K := (fun (v2_e53 : Int) (v5_e53 : Int) (C_e53 : Mem) => (f_X8_hasChildren_4 pz K n (v2_e53) (v + 1) C_e53))) d [] FU s 0 rfl rfl hs (by omega) with ⟨q1, q2⟩ | ⟨q1, q2⟩
      · rw [q2]
        have g := g1 q1.1
        have ih := cm_children h hB hp hr hpz hS (K := K) r (d ++ [c]) n 1 (v + 1) (by rw [hd]; simp) (by simp; omega) (Or.inr rfl) (fun _ => GoodCh_ext g.1 g.2 q1.2) (fun q => absurd q (by omega)) (by simp at hn; omega)
        rw [← e] at ih
        exact ih
      · rw [q2]
        have hne : ¬ GoodCh S (d ++ c :: r) := by
          rcases hs with hs | hs
          · exact g0 hs
          · refine GoodCh_not ?_
            by_cases k : c.2 ∈ d.map Prod.snd
            · exact k
            · exact absurd ⟨hs, k⟩ q1
        have ih := cm_children h hB hp hr hpz hS (K := K) r (d ++ [c]) n 0 (v + 1) (by rw [hd]; simp) (by simp; omega) (Or.inl rfl) (fun q => absurd q (by omega)) (fun _ => by rw [← e]; exact hne) (by simp at hn; omega)
        rw [← e] at ih
        exact ih
    unfold f_X8_hasChildren_4
    rw [ca_1 h hp hr hpz, bd_some, fLt (by omega), ca_child h hp hr hpz hd hv, bd_some]
    simp only [jn_eq]
    rcases hw with hw | hw
    · rw [tEq (a := v2) (by omega)]
      exact step 0 (Or.inl rfl) (fun q => absurd q (by omega)) (fun _ => hg0 hw)
    · rw [fEq (a := v2) (by omega)]
      unfold f_X8_isPage
      rw [mx_within (by constructor <;> omega) (by constructor <;> omega) (by constructor <;> omega), bd_some, bo_b, bd_some, cEq_b]
      by_cases k1 : c.2 < 32
      · rw [if_pos (by omega), ix_t (by omega), (hS _ (by omega)).1]
        have hs := (hS c.2.toNat (by omega)).2
        by_cases k2 : S c.2.toNat = 0
        · rw [tEq (a := S c.2.toNat) (by omega)]
          exact step 1 (Or.inr rfl) (fun _ => ⟨hg hw, hc.1, k1, k2⟩) (fun q => absurd q (by omega))
        · rw [fEq (a := S c.2.toNat) (by omega)]
          exact step 0 (Or.inl rfl) (fun q => absurd q (by omega)) (fun _ k => k2 (k.1 c (by simp)).2.2)
      · rw [if_neg (by omega)]
        exact step 0 (Or.inl rfl) (fun q => absurd q (by omega)) (fun _ k => k1 (k.1 c (by simp)).2.1)
theorem ca_children (h : RdX X B) (hB : ByOk B) (hp : p < 32) (hr : Rb B p es) (hpz : pz = (p : Int)) (hS : ∀ k, k < 32 → X 104 k = S k ∧ (S k = 0 ∨ S k = 1)) : (GoodCh S (([], B p 2) :: es) ∧ f_X8_hasChildren pz X = some (X, 1)) ∨ (¬ GoodCh S (([], B p 2) :: es) ∧ f_X8_hasChildren pz X = some (X, 0)) := by
  have hf := FU_eq
  have hl := Rb_len hr
  unfold f_X8_hasChildren
  obtain ⟨z, q⟩ := cm_children h hB hp hr hpz hS (K := (fun (v2_e4 : Int) (v3_e4 : Int) (C_e4 : Mem) => (bo (v2_e4) (some (C_e4, v2_e4))))) (([], B p 2) :: es) [] FU 1 0 rfl rfl (Or.inr rfl) (fun _ => ⟨fun _ q => absurd q List.not_mem_nil, by simp⟩) (fun q => absurd q (by omega)) (by simp; omega)
  rcases q with ⟨q1, q⟩ | ⟨q1, q⟩
  · exact Or.inl ⟨q1, by rw [q, bo_t (by omega)]⟩
  · exact Or.inr ⟨q1, by rw [q, bo_t (by omega)]⟩
end K4

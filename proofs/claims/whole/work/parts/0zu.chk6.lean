/-! CHECK 6: the walk, its stack. -/
def Rw (X : Mem) (B : By) : Prop := R32 (X 95 16) ∧ ∀ p, p < 32 → ∀ j, j < 64 → B p j = if ((64 * p + j : Nat) : Int) = X 95 16 then X 95 17 else X 96 (64 * p + j)
abbrev Frm : Type := Int × Int × Int × Int
def Stk (X : Mem) : List Frm → Prop
  | [] => True
  | f :: r => X 105 r.length = f.1 ∧ X 106 r.length = f.2.1 ∧ X 107 r.length = f.2.2.1 ∧ X 108 r.length = f.2.2.2 ∧ Stk X r
def FrS (X X' : Mem) : Prop := ∀ a b, ¬ (a = 95 ∧ b = 19) → a ≠ 105 → a ≠ 106 → a ≠ 107 → a ≠ 108 → X' a b = X a b
def FrW (C C' : Mem) : Prop := ∀ x y, x ≠ 16 → x ≠ 17 → x ≠ 23 → x ≠ 24 → ¬ (x = 3 ∧ y = 4) → C' x y = C x y
def FrV (X X' : Mem) : Prop := ∀ a b, ¬ (a = 95 ∧ b = 19) → ¬ (a = 95 ∧ b = 24) → (a < 104 ∨ 109 < a) → X' a b = X a b
section K6
variable {C X X' : Mem} {B : By} {p q : Nat} {es : List Ent} {r : List Frm}
theorem Rw_Rd (h : Rw X B) : RdX X B := by
  intro p hp j hj a b ha hb
  have h1 := h.1
  unfold f_X8_as
  rw [h.2 p hp j hj]
  by_cases k : ((64 * p + j : Nat) : Int) = X 95 16
  · rw [tEq (by omega), if_pos k]
  · rw [fEq (by omega), if_neg k, ix_t (by omega), show (64 * a + b).toNat = 64 * p + j by omega]
theorem Rw_fr (h : Rw X B) (h1 : ∀ b, X' 96 b = X 96 b) (h2 : X' 95 16 = X 95 16) (h3 : X' 95 17 = X 95 17) : Rw X' B := ⟨by rw [h2]; exact h.1, fun p hp j hj => by rw [h1, h2, h3]; exact h.2 p hp j hj⟩
theorem Stk_fr : ∀ (r : List Frm), Stk X r → (∀ a k, 105 ≤ a → a ≤ 108 → k < r.length → X' a k = X a k) → Stk X' r
  | [], _, _ => trivial
  | f :: r, h, g => by
    have hl : r.length < (f :: r).length := by simp
    refine ⟨by rw [g 105 _ (by omega) (by omega) hl]; exact h.1, by rw [g 106 _ (by omega) (by omega) hl]; exact h.2.1, by rw [g 107 _ (by omega) (by omega) hl]; exact h.2.2.1, by rw [g 108 _ (by omega) (by omega) hl]; exact h.2.2.2.1, ?_⟩
    exact Stk_fr r h.2.2.2.2 (fun a k h1 h2 h3 => g a k h1 h2 (by omega))
theorem FrS_refl : FrS X X := fun _ _ _ _ _ _ _ => rfl
theorem FrS_tr {X1 : Mem} (h1 : FrS X X1) (h2 : FrS X1 X') : FrS X X' := fun a b q1 q2 q3 q4 q5 => by rw [h2 a b q1 q2 q3 q4 q5, h1 a b q1 q2 q3 q4 q5]
theorem ca_waits (h : Stk X r) (hl : X 95 19 = (r.length : Int)) (h8 : r.length < 800) (a b c d : Int) : ∃ X', f_X8_waits a b c d X = some (X', 0) ∧ Stk X' ((a, b, c, d) :: r) ∧ X' 95 19 = (r.length : Int) + 1 ∧ FrS X X' := by
  unfold f_X8_waits
  have u : ∀ (M : Mem) (k j : Nat) (z : Int), k ≠ 95 → up M k j z 95 19 = M 95 19 := fun M k j z hk => up_k (by omega)
  have tn : ((r.length : Nat) : Int).toNat = r.length := by omega
  simp only [u _ 105 _ _ (by omega), u _ 106 _ _ (by omega), u _ 107 _ _ (by omega), u _ 108 _ _ (by omega), hl, tn]
  rw [ix_t (by omega), ix_t (by omega), ix_t (by omega), ix_t (by omega)]
  refine ⟨_, rfl, ⟨?_, ?_, ?_, ?_, ?_⟩, ?_, ?_⟩
  · rw [up_k (by omega), up_k (by omega), up_k (by omega), up_k (by omega), up_same]
  · rw [up_k (by omega), up_k (by omega), up_k (by omega), up_same]
  · rw [up_k (by omega), up_k (by omega), up_same]
  · rw [up_k (by omega), up_same]
  · refine Stk_fr r h (fun x k h1 h2 h3 => ?_)
    rw [up_k (by omega), up_j (by omega), up_j (by omega), up_j (by omega), up_j (by omega)]
  · rw [up_same]
  · intro x y q1 q2 q3 q4 q5
    have e : ∀ (M : Mem) (z : Int), up M 95 19 z x y = M x y := fun M z => by unfold up; rw [if_neg q1]
    rw [e, up_k q5, up_k q4, up_k q3, up_k q2]
def frs (p dz mh : Int) : Int → Int → Nat → List Ent → List Frm
  | low, c, _, [] => [(c, dz, low, mh)]
  | low, c, o, e :: b => (c, dz, low, 64 * p + (o : Int)) :: frs p dz mh (64 * p + (o : Int)) e.2 (o + (e.1.length + 2)) b
theorem frs_len {pz dz mh : Int} : ∀ (b : List Ent) (low c : Int) (o : Nat), (frs pz dz mh low c o b).length = b.length + 1
  | [], _, _, _ => rfl
  | e :: b, _, _, _ => by unfold frs; rw [List.length_cons, frs_len b]; rfl
def pend (p dz mh : Int) (o : Nat) : List Ent → List Frm
  | [] => []
  | e :: b => frs p dz mh (64 * p + (o : Int)) e.2 (o + (e.1.length + 2)) b
theorem pend_len {pz dz mh : Int} {o : Nat} (b : List Ent) : (pend pz dz mh o b).length = b.length := by
  cases b with
  | nil => rfl
  | cons e b => unfold pend; rw [frs_len]; rfl
theorem cm_start (h : RdX X B) (hp : p < 32) (hr : Rb B p es) {pz : Int} (hpz : pz = (p : Int)) {K : Int → Int → Mem → Option (Mem × Int)} {u : Int} : ∀ (b a c : List Ent) (n : Nat) (v2 v3 : Int), es = a ++ b ++ c → u = ((a ++ b).length : Int) → b.length < n → v2 = (3 + szs a : Nat) → v3 = (a.length : Int) → f_X8_startAs_5 pz u K n v2 v3 X = K ((3 + szs (a ++ b) : Nat) : Int) u X
  | _, _, _, 0 => by intros; omega
  | [], a, c, n + 1 => by
    intro v2 v3 h1 h2 h3 h4 h5
    have h6 := Rb_len hr
    rw [List.append_nil] at h2 ⊢
    have h7 : a.length ≤ es.length := by rw [h1]; simp
    unfold f_X8_startAs_5
    rw [fLt (by omega), h4, h5, h2]
  | e :: b, a, c, n + 1 => by
    intro v2 v3 h1 h2 h3 h4 h5
    have h6 := Rb_len hr
    have h9 : es.length = a.length + (b.length + 1) + c.length := by rw [h1]; simp; omega
    have hu : u = ((a.length + (b.length + 1) : Nat) : Int) := by rw [h2]; simp
    have h' : Rb B p (a ++ e :: (b ++ c)) := by rw [h1, List.append_assoc] at hr; exact hr
    unfold f_X8_startAs_5
    rw [tLt (by omega), ca_len h hp h' hpz h4, bd_some]
    have q := cm_start h hp hr hpz (K := K) (u := u) b (a ++ [e]) c n (v2 + ((e.1.length : Int) + 2)) (v3 + 1) (by rw [h1]; simp) (by rw [h2]; simp) (by simp at h3; omega) (by rw [szs_app, szs_cons, szs_nil]; omega) (by simp; omega)
    rw [q, List.append_assoc]
    rfl
theorem ca_start (h : RdX X B) (hp : p < 32) {a b : List Ent} (hr : Rb B p (a ++ b)) {pz z : Int} (hpz : pz = (p : Int)) (hz : z = (a.length : Int)) : f_X8_startAs pz z X = some (X, ((3 + szs a : Nat) : Int)) := by
  have hf := FU_eq
  have hl := Rb_len hr
  unfold f_X8_startAs
  rw [cm_start h hp hr hpz (u := z) a [] b FU 3 0 (by simp) (by rw [hz]; simp) (by simp at hl; omega) (by rw [szs_nil]; rfl) (by rfl)]
  rfl
theorem FrS_Rw (h : Rw X B) (hf : FrS X X') : Rw X' B := Rw_fr h (fun b => hf _ _ (by omega) (by omega) (by omega) (by omega) (by omega)) (hf _ _ (by omega) (by omega) (by omega) (by omega) (by omega)) (hf _ _ (by omega) (by omega) (by omega) (by omega) (by omega))
theorem cm_push (hB : ByOk B) (hp : p < 32) (hr : Rb B p es) {pz dz ml mh u5 : Int} (hpz : pz = (p : Int)) (h5 : u5 = (es.length : Int)) (h8 : es.length + 1 + r.length < 800) : ∀ (m : Nat) (a b : List Ent) (n : Nat) (v : Int) (X : Mem), a.length = m → es = a ++ b → v = (m : Int) → m + 1 < n → Rw X B → Stk X (pend pz (dz + 1) mh (3 + szs a) b ++ r) → X 95 19 = (b.length : Int) + r.length → ∃ X', f_X8_childrenWait_12 pz dz ml mh u5 (fun (v6_e12 : Int) (C_e12 : Mem) => (some (C_e12, 0))) n v X = some (X', 0) ∧ Stk X' (frs pz (dz + 1) mh ml (B p 2) 3 es ++ r) ∧ X' 95 19 = (es.length : Int) + 1 + r.length ∧ FrS X X'
  | m, a, b, 0 => by intros; omega
  | m, a, b, n + 1 => by
    intro v X ha he hv hn hw hs h19
    have hl := Rb_len hr
    have hx := Rw_Rd hw
    have hel : es.length = a.length + b.length := by rw [he]; simp
    have hrab : Rb B p (a ++ b) := by rw [← he]; exact hr
    have hlen : (pend pz (dz + 1) mh (3 + szs a) b ++ r).length = b.length + r.length := by rw [List.length_append, pend_len]
    have h19' : X 95 19 = ((pend pz (dz + 1) mh (3 + szs a) b ++ r).length : Int) := by rw [hlen, h19]; simp
    -- the bound above
    have hhigh : ∀ (k : Int → Mem → Option (Mem × Int)), ∃ hh : Int, cEq v u5 (k mh X) (bd (f_X8_startAs pz v X) (fun C62 r62 => k (64 * pz + r62) C62)) = k hh X ∧ ∀ low c : Int, (c, dz + 1, low, hh) :: (pend pz (dz + 1) mh (3 + szs a) b ++ r) = frs pz (dz + 1) mh low c (3 + szs a) b ++ r := by
      intro k
      cases b with
      | nil =>
        refine ⟨mh, by rw [tEq (by simp at hel; omega)], fun low c => rfl⟩
      | cons e b =>
        refine ⟨64 * pz + ((3 + szs a : Nat) : Int), ?_, fun low c => rfl⟩
        rw [fEq (by simp at hel; omega), ca_start hx hp hrab hpz (by omega), bd_some]
    unfold f_X8_childrenWait_12
    rw [fLt (by omega)]
    simp only [jn_eq]
    cases m with
    | zero =>
      have ha0 : a = [] := List.eq_nil_of_length_eq_zero ha
      subst ha0
      obtain ⟨hh, e1, e2⟩ := hhigh (fun s0 C => bd (f_X8_childAs pz v C) (fun C73 r73 => bd (f_X8_waits r73 (dz + 1) ml s0 C73) (fun C83 _ => f_X8_childrenWait_12 pz dz ml mh u5 (fun (v6_e12 : Int) (C_e12 : Mem) => (some (C_e12, 0))) n (v + (-1)) C83)))
      rw [tEq (a := v) (b := 0) (by simp at hv; omega)]
      rw [e1, ca_child hx hp hr hpz (d := []) (c := ([], B p 2)) (r := es) rfl (by simp at hv ⊢; exact hv), bd_some]
      obtain ⟨X1, w1, w2, w3, w4⟩ := ca_waits hs h19' (by rw [hlen]; omega) (B p 2) (dz + 1) ml hh
      rw [w1, bd_some]
      cases n with
      | zero => omega
      | succ n =>
        rw [f_X8_childrenWait_12, tLt (by simp at hv; omega)]
        refine ⟨X1, rfl, ?_, ?_, w4⟩
        · rw [e2] at w2
          rw [List.nil_append] at he
          rw [← he] at w2
          exact w2
        · rw [w3, hlen, hel]; simp; omega
    | succ m =>
      obtain ⟨a', g, hag⟩ : ∃ a' g, a = a' ++ [g] := ⟨a.dropLast, a.getLast (by intro q; rw [q] at ha; simp at ha), by rw [List.dropLast_concat_getLast]⟩
      subst hag
      have ha' : a'.length = m := by simp at ha; omega
      have he' : es = a' ++ (g :: b) := by rw [he]; simp
      have hs' : szs (a' ++ [g]) = szs a' + (g.1.length + 2) := by rw [szs_app, szs_cons, szs_nil]
      obtain ⟨hh, e1, e2⟩ := hhigh (fun s0 C => bd (f_X8_childAs pz v C) (fun C73 r73 => bd (f_X8_waits r73 (dz + 1) (64 * pz + ((3 + szs a' : Nat) : Int)) s0 C73) (fun C83 _ => f_X8_childrenWait_12 pz dz ml mh u5 (fun (v6_e12 : Int) (C_e12 : Mem) => (some (C_e12, 0))) n (v + (-1)) C83)))
      rw [fEq (a := v) (b := 0) (by omega), ca_start hx hp (a := a') (b := g :: b) (by rw [← he']; exact hr) hpz (z := v - 1) (by omega), bd_some]
      rw [e1, ca_child hx hp hr hpz (d := ([], B p 2) :: a') (c := g) (r := b) (by rw [he']; rfl) (by simp; omega), bd_some]
      obtain ⟨X1, w1, w2, w3, w4⟩ := ca_waits hs h19' (by rw [hlen]; omega) g.2 (dz + 1) (64 * pz + ((3 + szs a' : Nat) : Int)) hh
      rw [w1, bd_some]
      obtain ⟨X2, x1, x2, x3, x4⟩ := cm_push hB hp hr (dz := dz) (ml := ml) (mh := mh) hpz h5 h8 m a' (g :: b) n (v + (-1)) X1 ha' he' (by omega) (by omega) (FrS_Rw hw w4) (by
        rw [e2, hs'] at w2
        show Stk X1 (frs pz (dz + 1) mh (64 * pz + ((3 + szs a' : Nat) : Int)) g.2 (3 + szs a' + (g.1.length + 2)) b ++ r)
        rw [show 3 + szs a' + (g.1.length + 2) = 3 + (szs a' + (g.1.length + 2)) by omega]
        exact w2) (by rw [w3, hlen]; simp; omega)
      exact ⟨X2, x1, x2, x3, FrS_tr w4 x4⟩
theorem ca_push (hB : ByOk B) (hp : p < 32) (hr : Rb B p es) {pz dz ml mh : Int} (hpz : pz = (p : Int)) (h8 : es.length + 1 + r.length < 800) (hw : Rw X B) (hs : Stk X r) (h19 : X 95 19 = (r.length : Int)) : ∃ X', f_X8_childrenWait pz dz ml mh X = some (X', 0) ∧ Stk X' (frs pz (dz + 1) mh ml (B p 2) 3 es ++ r) ∧ X' 95 19 = (es.length : Int) + 1 + r.length ∧ FrS X X' := by
  have hf := FU_eq
  have hl := Rb_len hr
  unfold f_X8_childrenWait
  rw [ca_1 (Rw_Rd hw) hp hr hpz, bd_some]
  exact cm_push hB hp hr hpz rfl h8 es.length es [] FU _ X rfl (by simp) rfl (by omega) hw hs (by rw [h19]; simp)
end K6

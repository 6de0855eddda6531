/-! CHECK 1: what a page's bytes say; is it readable. -/
abbrev By : Type := Nat → Nat → Int
def RdC (C : Mem) (B : By) : Prop := ∀ p, p < 32 → ∀ j, j < 64 → C (61 + p) j = B p j
def RdX (X : Mem) (B : By) : Prop := ∀ p : Nat, p < 32 → ∀ j : Nat, j < 64 → ∀ a b : Int, a = (p : Int) → b = (j : Int) → f_X8_as a b X = some (X, B p j)
def ByOk (B : By) : Prop := ∀ p j, 0 ≤ B p j ∧ B p j ≤ 255
def Rb (B : By) (p : Nat) (es : List Ent) : Prop := (∀ j, j < 64 → B p j = enc (B p 0) (B p 2) es j) ∧ EsOk es ∧ szs es ≤ 61
section K1
variable {C X : Mem} {B : By} {p : Nat} {es a b : List Ent} {e : Ent} {z : Int}
theorem ck_at (h : RdC C B) (hp : p < 32) {j : Nat} (hj : j < 64) (hz : z = (j : Int)) : f_X4_at p z C = some (C, B p j) := by
  have h2 := pl_32 hp
  unfold f_X4_at
  rw [h2, fLt (by omega), tLt (by omega), ix_t (by omega), nat2 hz, h p hp j hj]
theorem ck_at0 (hp : p < 32) (hz : 64 ≤ z) (hz2 : z < 2147483648) : f_X4_at p z C = some (C, 0) := by
  have h2 := pl_32 hp
  unfold f_X4_at
  rw [h2, fLt (by omega), fLt (by omega)]
theorem ck_ent (h : RdC C B) (hp : p < 32) : f_X4_entries p C = some (C, B p 1) := by
  have h2 := pl_32 hp
  unfold f_X4_entries
  rw [h2, ix_t (by omega), h p hp 1 (by omega)]
theorem ck_sort (h : RdC C B) (hp : p < 32) : f_X4_sort p C = some (C, B p 0) := by
  have h2 := pl_32 hp
  unfold f_X4_sort
  rw [h2, ix_t (by omega), h p hp 0 (by omega)]
theorem ck_link (h : RdC C B) (hp : p < 32) : f_X4_link p C = some (C, B p 2) := by
  have h2 := pl_32 hp
  unfold f_X4_link
  rw [h2, ix_t (by omega), h p hp 2 (by omega)]
theorem ck_pg (h : RdC C B) (hB : ByOk B) (hp : p < 32) (hr : Rb B p es) : PgC C p (B p 0) (B p 2) es := by
  have h2 := pl_32 hp
  refine ⟨fun j hj => ?_, hr.2.1, by have := hr.2.2; omega, hB p 0, hB p 2⟩
  rw [h2] at hj
  rw [h p hp j hj]
  exact hr.1 j hj
/-- the letters of one entry, both sides -/
theorem ck_letters (h : RdC C B) (hx : RdX X B) (hB : ByOk B) (hp : p < 32) {v r : Nat} (hv : v + r + 2 ≤ 64) {u2 u3 u5 : Int} {K : Int → Mem → Option (Mem × Int)} {K' : Int → Mem → Option (Mem × Int)} {pz vz rz : Int} (hpz : pz = (p : Int)) (hvz : vz = (v : Int)) (hrz : rz = (r : Int)) : ∀ (m n n' : Nat) (w w' : Int), m ≤ r → w = ((r - m + 1 : Nat) : Int) → w' = ((r - m : Nat) : Int) → m < n → m < n' → (∀ t, t < r - m → 97 ≤ B p (v + 1 + t) ∧ B p (v + 1 + t) ≤ 122) → ((∀ t, t < r → 97 ≤ B p (v + 1 + t) ∧ B p (v + 1 + t) ≤ 122) ∧ f_X1_isReadable_43 p vz u2 rz K n w C = K (rz + 1) C ∧ f_X8_isRead_91 pz u3 vz u5 rz K' n' w' X = K' rz X) ∨ (f_X1_isReadable_43 p vz u2 rz K n w C = some (C, 0) ∧ f_X8_isRead_91 pz u3 vz u5 rz K' n' w' X = some (X, 0))
  | _, 0, _ => by intros; omega
  | _, _, 0 => by intros; omega
  | 0, n + 1, n' + 1 => by
    intro w w' _ hw hw' _ _ hl
    refine Or.inl ⟨fun t ht => hl t (by omega), ?_, ?_⟩
    · unfold f_X1_isReadable_43
      rw [tLt (by omega), show w = rz + 1 by omega]
    · unfold f_X8_isRead_91
      rw [fLt (by omega), show w' = rz by omega]
  | m + 1, n + 1, n' + 1 => by
    intro w w' hm hw hw' hn hn' hl
    have hb := hB p (v + 1 + (r - (m + 1)))
    have e1 : f_X4_at p (vz + w) C = some (C, B p (v + 1 + (r - (m + 1)))) := ck_at h hp (by omega) (by omega)
    have e2 : f_X8_as pz (vz + 1 + w') X = some (X, B p (v + 1 + (r - (m + 1)))) := hx p hp _ (by omega) _ _ hpz (by omega)
    unfold f_X1_isReadable_43 f_X8_isRead_91
    rw [fLt (by omega), tLt (by omega), e1, e2, bd_some, bd_some]
    unfold f_X7_isLetter
    rw [mx_within (by constructor <;> omega) (by constructor <;> omega) (by constructor <;> omega), bd_some, cEq_b]
    by_cases c : 97 ≤ B p (v + 1 + (r - (m + 1))) ∧ B p (v + 1 + (r - (m + 1))) ≤ 122
    · rw [fLt (a := B p (v + 1 + (r - (m + 1)))) (b := 97) (by omega), fLt (a := 122) (by omega), bd_some, fEq (by omega), if_pos c]
      exact ck_letters h hx hB hp hv hpz hvz hrz m n n' (w + 1) (w' + 1) (by omega) (by omega) (by omega) (by omega) (by omega) (fun t ht => by
        by_cases q : t = r - (m + 1)
        · rw [q]; exact c
        · exact hl t (by omega))
    · refine Or.inr ⟨?_, by rw [if_neg c]⟩
      by_cases c1 : B p (v + 1 + (r - (m + 1))) < 97
      · rw [tLt (a := B p (v + 1 + (r - (m + 1)))) (b := 97) (by omega), bd_some, tEq (by omega)]
      · rw [fLt (a := B p (v + 1 + (r - (m + 1)))) (b := 97) (by omega), tLt (a := 122) (by omega), bd_some, tEq (by omega)]
/-- the end of a page is empty, both sides -/
theorem ck_flag0 (hx : RdX X B) (hp : p < 32) {K' : Int → Int → Mem → Option (Mem × Int)} {pz : Int} (hpz : pz = (p : Int)) : ∀ (m n : Nat) (w : Int), m ≤ 64 → w = ((64 - m : Nat) : Int) → m < n → f_X8_isRead_150 pz K' n 0 w X = K' 0 64 X
  | _, 0 => by intros; omega
  | 0, n + 1 => by
    intro w _ hw _
    unfold f_X8_isRead_150
    rw [fLt (by omega), show w = 64 by omega]
  | m + 1, n + 1 => by
    intro w _ hw _
    unfold f_X8_isRead_150
    rw [tLt (by omega), tEq (by omega)]
    exact ck_flag0 hx hp hpz m n (w + 1) (by omega) (by omega) (by omega)
theorem ck_zeros (h : RdC C B) (hx : RdX X B) (hB : ByOk B) (hp : p < 32) {pz : Int} (hpz : pz = (p : Int)) : ∀ (m n n' : Nat) (w : Int), m ≤ 64 → w = ((64 - m : Nat) : Int) → m < n → m < n' → ((∀ j, 64 - m ≤ j → j < 64 → B p j = 0) ∧ f_X1_isReadable_85 p (fun (v2_e85 : Int) (C_e85 : Mem) => (cLt (v2_e85) (64) (some (C_e85, 0)) (some (C_e85, 1)))) n w C = some (C, 1) ∧ f_X8_isRead_150 pz (fun (v5_e150 : Int) (v6_e150 : Int) (C_e150 : Mem) => (bo (v5_e150) (some (C_e150, v5_e150)))) n' 1 w X = some (X, 1)) ∨ (f_X1_isReadable_85 p (fun (v2_e85 : Int) (C_e85 : Mem) => (cLt (v2_e85) (64) (some (C_e85, 0)) (some (C_e85, 1)))) n w C = some (C, 0) ∧ f_X8_isRead_150 pz (fun (v5_e150 : Int) (v6_e150 : Int) (C_e150 : Mem) => (bo (v5_e150) (some (C_e150, v5_e150)))) n' 1 w X = some (X, 0))
  | _, 0, _ => by intros; omega
  | _, _, 0 => by intros; omega
  | 0, n + 1, n' + 1 => by
    intro w _ hw _ _
    refine Or.inl ⟨fun j _ _ => by omega, ?_, ?_⟩
    · unfold f_X1_isReadable_85
      rw [fLt (by omega)]
      rw [fLt (by omega)]
    · unfold f_X8_isRead_150
      rw [fLt (by omega)]
      rw [bo_t (by omega)]
  | m + 1, n + 1, n' + 1 => by
    intro w hm hw hn hn'
    have hb := hB p (64 - (m + 1))
    have e1 : f_X4_at p w C = some (C, B p (64 - (m + 1))) := ck_at h hp (by omega) (by omega)
    have e2 : f_X8_as pz w X = some (X, B p (64 - (m + 1))) := hx p hp _ (by omega) _ _ hpz (by omega)
    unfold f_X1_isReadable_85 f_X8_isRead_150
    rw [tLt (by omega), tLt (by omega), fEq (a := 1) (by omega), e1, e2, bd_some, bd_some]
    by_cases c : B p (64 - (m + 1)) = 0
    · rw [tEq (by omega), tEq (by omega)]
      rcases ck_zeros h hx hB hp hpz m n n' (w + 1) (by omega) (by omega) (by omega) (by omega) with ⟨q1, q2, q3⟩ | q
      · refine Or.inl ⟨fun j h1 h2 => ?_, q2, q3⟩
        by_cases q : j = 64 - (m + 1)
        · rw [q]; exact c
        · exact q1 j (by omega) h2
      · exact Or.inr q
    · rw [fEq (by omega), fEq (by omega), ck_flag0 hx hp hpz m n' (w + 1) (by omega) (by omega) (by omega)]
      refine Or.inr ⟨?_, ?_⟩
      · skip
        rw [tLt (by omega)]
      · skip
        rw [bo_t (by omega)]
def mkE (B : By) (p v r : Nat) : Ent := ((List.range r).map (fun t => B p (v + 1 + t)), B p (v + r + 1))
theorem mkE_len {v r : Nat} : (mkE B p v r).1.length = r := by unfold mkE; simp
theorem mkE_gd {v r t : Nat} (h : t < r) : (mkE B p v r).1.getD t 0 = B p (v + 1 + t) := by
  unfold mkE
  rw [List.getD_eq_getElem?_getD, List.getElem?_map, List.getElem?_range h]
  rfl
theorem mkE_ok (hB : ByOk B) {v r : Nat} (h1 : 1 ≤ r) (h8 : r ≤ 8) (hl : ∀ t, t < r → 97 ≤ B p (v + 1 + t) ∧ B p (v + 1 + t) ≤ 122) : EOk (mkE B p v r) := by
  refine ⟨by rw [mkE_len]; exact h1, by rw [mkE_len]; exact h8, ?_, hB p (v + r + 1)⟩
  intro x hx
  unfold mkE at hx
  obtain ⟨t, ht, e⟩ := List.mem_map.mp hx
  rw [← e]
  exact hl t (List.mem_range.mp ht)
theorem flat_ext {v r : Nat} (hv : v = 3 + szs a) (hr : B p v = (r : Int)) (h : ∀ j, j < szs a → (flat a).getD j 0 = B p (3 + j)) : ∀ j, j < szs (a ++ [mkE B p v r]) → (flat (a ++ [mkE B p v r])).getD j 0 = B p (3 + j) := by
  intro j hj
  rw [szs_app, szs_cons, szs_nil, mkE_len] at hj
  rw [flat_app]
  by_cases c : j < szs a
  · rw [gd_l (by rw [flat_len]; exact c)]
    exact h j c
  · rw [gd_r (by rw [flat_len]; omega), flat_len, flat_cons, flat_nil, List.append_nil]
    by_cases c0 : j = szs a
    · rw [c0, Nat.sub_self, e1_0, mkE_len, ← hv, hr]
    · by_cases c1 : j - szs a = 1 + r
      · have q := e1_t (mkE B p v r)
        rw [mkE_len] at q
        rw [c1, q]
        show B p (v + r + 1) = _
        rw [show v + r + 1 = 3 + j by omega]
      · have q := e1_l (mkE B p v r) (j := j - szs a - 1) (by rw [mkE_len]; omega)
        rw [show j - szs a = 1 + (j - szs a - 1) by omega, q, mkE_gd (by omega), show v + 1 + (j - szs a - 1) = 3 + j by omega]
def kRc (p : Nat) : Int → Int → Mem → Option (Mem × Int) := (fun (v1_e4 : Int) (v2_e4 : Int) (C_e4 : Mem) => (f_X1_isReadable_85 p (fun (v2_e85 : Int) (C_e85 : Mem) => (cLt (v2_e85) (64) (some (C_e85, 0)) (some (C_e85, 1)))) FU (v1_e4) C_e4))
def kRx (a1 : Int) : Int → Int → Mem → Option (Mem × Int) := (fun (v4_e37 : Int) (v5_e37 : Int) (C_e37 : Mem) => (f_X8_isRead_150 (a1) (fun (v5_e150 : Int) (v6_e150 : Int) (C_e150 : Mem) => (bo (v5_e150) (some (C_e150, v5_e150)))) FU (1) (v4_e37) C_e37))
theorem ck_rows (h : RdC C B) (hx : RdX X B) (hB : ByOk B) (hp : p < 32) {pz : Int} (hpz : pz = (p : Int)) : ∀ (m n n' : Nat) (a : List Ent) (v w : Int), EsOk a → szs a ≤ 61 → v = ((3 + szs a : Nat) : Int) → w = (a.length : Int) → (a.length : Int) + m = B p 1 → m < n → m < n' → (∀ j, j < szs a → (flat a).getD j 0 = B p (3 + j)) → (∃ es, Rb B p es ∧ f_X1_isReadable_4 p (kRc p) n v w C = some (C, 1) ∧ f_X8_isRead_37 pz (B p 1) (kRx pz) n' v w X = some (X, 1)) ∨ (f_X1_isReadable_4 p (kRc p) n v w C = some (C, 0) ∧ f_X8_isRead_37 pz (B p 1) (kRx pz) n' v w X = some (X, 0))
  | _, 0, _ => by intros; omega
  | _, _, 0 => by intros; omega
  | 0, n + 1, n' + 1 => by
    intro a v w ha hs hv hw hm _ _ hfl
    have hb := hB p 1
    have hf := FU_eq
    rw [f_X1_isReadable_4, f_X8_isRead_37]
    rw [ck_ent h hp, bd_some, fLt (by omega), fLt (by omega)]
    show (∃ es, Rb B p es ∧ f_X1_isReadable_85 p _ FU v C = _ ∧ f_X8_isRead_150 pz _ FU 1 v X = _) ∨ (f_X1_isReadable_85 p _ FU v C = _ ∧ f_X8_isRead_150 pz _ FU 1 v X = _)
    rcases ck_zeros h hx hB hp hpz (64 - (3 + szs a)) FU FU v (by omega) (by omega) (by omega) (by omega) with ⟨q1, q2, q3⟩ | q
    · refine Or.inl ⟨a, ⟨fun j hj => ?_, ha, hs⟩, q2, q3⟩
      by_cases c0 : j = 0
      · rw [c0, enc_0]
      · by_cases c1 : j = 1
        · rw [c1, enc_1]; omega
        · by_cases c2 : j = 2
          · rw [c2, enc_2]
          · rw [enc_g (by omega)]
            by_cases c3 : j - 3 < szs a
            · rw [hfl _ c3, show 3 + (j - 3) = j by omega]
            · rw [gd_out (by rw [flat_len]; omega)]
              exact q1 j (by omega) hj
    · exact Or.inr q
  | m + 1, n + 1, n' + 1 => by
    intro a v w ha hs hv hw hm hn hn' hfl
    have hb := hB p 1
    have hf := FU_eq
    obtain ⟨r, hr, ec, ex⟩ : ∃ r : Int, (0 ≤ r ∧ r ≤ 255 ∧ (v < 64 → r = B p (3 + szs a)) ∧ (64 ≤ v → r = 0)) ∧ f_X4_at p v C = some (C, r) ∧ (∀ j61 : Int → Mem → Option (Mem × Int), cLt v 64 (bd (f_X8_as pz v X) (fun C54 r54 => j61 r54 C54)) (j61 0 X) = j61 r X) := by
      by_cases c : v < 64
      · have hb2 := hB p (3 + szs a)
        refine ⟨B p (3 + szs a), ⟨hb2.1, hb2.2, fun _ => rfl, fun q => by omega⟩, ck_at h hp (by omega) hv, fun j61 => ?_⟩
        rw [tLt (by omega), hx p hp (3 + szs a) (by omega) _ _ hpz hv, bd_some]
      · refine ⟨0, ⟨by omega, by omega, fun q => by omega, fun _ => rfl⟩, ck_at0 hp (by omega) (by omega), fun j61 => ?_⟩
        rw [fLt (by omega)]
    rw [f_X1_isReadable_4, f_X8_isRead_37]
    rw [ck_ent h hp, bd_some, tLt (by omega), tLt (by omega), ec, bd_some, jn_eq]
    dsimp only
    rw [ex, sp_within (by constructor <;> omega) (by constructor <;> omega) (by constructor <;> omega), mx_within (by constructor <;> omega) (by constructor <;> omega) (by constructor <;> omega), bd_some, bd_some, cEq_b, cEq_b]
    by_cases c : 1 ≤ r ∧ r ≤ 8
    · rw [if_pos c, if_pos c]
      by_cases c2 : 64 < v + r + 2
      · rw [tLt (by omega), tLt (by omega)]
        exact Or.inr ⟨rfl, rfl⟩
      · rw [fLt (by omega), fLt (by omega)]
        have hr3 := hr.2.2.1 (by omega)
        have hrn : r = ((r.toNat : Nat) : Int) := by omega
        rcases ck_letters (u2 := w) (u3 := B p 1) (u5 := w) (K := (fun (v4_e43 : Int) (C_e43 : Mem) => (f_X1_isReadable_4 p (kRc p) n (v + (r + 2)) (w + 1) C_e43))) (K' := (fun (v7_e91 : Int) (C_e91 : Mem) => (f_X8_isRead_37 pz (B p 1) (kRx pz) n' (v + (r + 2)) (w + 1) C_e91))) h hx hB hp (v := 3 + szs a) (r := r.toNat) (by omega) hpz hv hrn r.toNat FU FU 1 0 (by omega) (by omega) (by omega) (by omega) (by omega) (fun t ht => by omega) with ⟨q1, q2, q3⟩ | q
        · rw [q2, q3]
          have hs2 : szs (a ++ [mkE B p (3 + szs a) r.toNat]) = szs a + (r.toNat + 2) := by rw [szs_app, szs_cons, szs_nil, mkE_len]
          exact ck_rows h hx hB hp hpz m n n' (a ++ [mkE B p (3 + szs a) r.toNat]) (v + (r + 2)) (w + 1) (EsOk_app.mpr ⟨ha, fun x hx => by rw [List.mem_singleton.mp hx]; exact mkE_ok hB (by omega) (by omega) q1⟩) (by omega) (by omega) (by simp; omega) (by simp; omega) (by omega) (by omega) (flat_ext rfl (by omega) hfl)
        · exact Or.inr q
    · rw [if_neg c, if_neg c]
      exact Or.inr ⟨rfl, rfl⟩
theorem ck_readable (h : RdC C B) (hx : RdX X B) (hB : ByOk B) (hp : p < 32) {pz : Int} (hpz : pz = (p : Int)) : (∃ es, Rb B p es ∧ f_X1_isReadable p C = some (C, 1) ∧ f_X8_isRead_37 pz (B p 1) (kRx pz) FU 3 0 X = some (X, 1)) ∨ (f_X1_isReadable p C = some (C, 0) ∧ f_X8_isRead_37 pz (B p 1) (kRx pz) FU 3 0 X = some (X, 0)) := by
  have hf := FU_eq
  have hb := hB p 1
  have hm : B p 1 = (((B p 1).toNat : Nat) : Int) := by omega
  exact ck_rows h hx hB hp hpz (B p 1).toNat FU FU [] 3 0 (fun _ q => absurd q List.not_mem_nil) (by rw [szs_nil]; omega) rfl rfl (by simp; omega) (by omega) (by omega) (fun j hj => by rw [szs_nil] at hj; omega)
end K1

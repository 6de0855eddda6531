/-! CHECK 9: links of the leaves, pages that nobody reaches; the call check. -/
section K9
variable {C X C' X' : Mem} {B : By} {p q root L : Nat} {S : Nat → Int}
theorem ck_next {m : Nat} (hSt : St B root L C X S m) (hB : ByOk B) (hm : m ≤ 32) : ∀ (t n n' : Nat) (v : Int), t ≤ m → v = ((m - t : Nat) : Int) → t < n → t < n' → ∃ z : Int, (0 ≤ z ∧ z ≤ 1000) ∧ f_X1_wrongNext_2 (fun (v1_e2 : Int) (C_e2 : Mem) => (some (C_e2, 0))) n v C = some (C, z) ∧ f_X8_wrongNext_2 (fun (v1_e2 : Int) (C_e2 : Mem) => (some (C_e2, 0))) n' v X = some (X, z)
  | _, 0, _ => by intros; omega
  | _, _, 0 => by intros; omega
  | 0, n + 1, n' + 1 => by
    intro v _ hv _ _
    refine ⟨0, by omega, ?_, ?_⟩
    · rw [f_X1_wrongNext_2, hSt.2.2.2.2.2.2.1, fLt (by omega)]
    · rw [f_X8_wrongNext_2, hSt.2.2.2.2.2.2.2.1, fLt (by omega)]
  | t + 1, n + 1, n' + 1 => by
    intro v ht hv hn hn'
    have e1 := hSt.2.2.2.2.2.2.1
    have e2 := hSt.2.2.2.2.2.2.2.1
    have e3 := hSt.2.2.2.2.2.2.2.2.1
    have f0 := e3 (m - (t + 1)) (by omega)
    have hvn : v.toNat = m - (t + 1) := by omega
    obtain ⟨z, hz, i1, i2⟩ := ck_next hSt hB hm t n n' (v + 1) (by omega) (by omega) (by omega) (by omega)
    have hp : (C 24 (m - (t + 1))).toNat < 32 := by omega
    have hl := hB (C 24 (m - (t + 1))).toNat 2
    have cl : ∀ s : Int, (-2147483648 ≤ s ∧ s < 2147483648) → ∃ z : Int, (0 ≤ z ∧ z ≤ 1000) ∧ (ix (v) 32 (bd (f_X6_pageOf (C (24) (v).toNat) C) (fun C65 r65 => (bd (f_X4_link r65 C65) (fun C68 r68 => (cEq (r68) (s) (f_X1_wrongNext_2 (fun (v1_e2 : Int) (C_e2 : Mem) => (some (C_e2, 0))) n (v + 1) C68) (ix (v) 32 (some (C68, 600 + (C68 (24) (v).toNat)))))))))) = some (C, z) ∧ (ix (v) 800 (bd (f_X8_as (X (109) (v).toNat) (2) X) (fun C43 r43 => (cEq (r43) (s) (f_X8_wrongNext_2 (fun (v1_e2 : Int) (C_e2 : Mem) => (some (C_e2, 0))) n' (v + 1) C43) (ix (v) 800 (some (C43, 600 + (C43 (109) (v).toNat)))))))) = some (X, z) := by
      intro s hs
      rw [ix_t (by omega), ix_t (by omega), hvn, sp_pageOf (i := (C 24 (m - (t + 1))).toNat) (by omega) hp, bd_some, ck_link hSt.1 hp, bd_some, ← f0.1, Rw_Rd hSt.2.1 _ hp 2 (by omega) _ 2 (by omega) (by rfl), bd_some]
      by_cases k : B (C 24 (m - (t + 1))).toNat 2 = s
      · rw [tEq (by omega), tEq (by omega)]
        exact ⟨z, hz, i1, i2⟩
      · rw [fEq (by omega), fEq (by omega), ix_t (by omega), ix_t (by omega), ← f0.1]
        exact ⟨_, by omega, rfl, rfl⟩
    rw [f_X1_wrongNext_2, f_X8_wrongNext_2, e1, e2, tLt (a := v) (b := (m : Int)) (by omega), tLt (a := v) (by omega), tLt (a := v) (b := (m : Int)) (by omega)]
    simp only [jn_eq]
    by_cases k : v + 1 < (m : Int)
    · have f1 := e3 (m - t) (by omega)
      have hvn1 : (v + 1).toNat = m - t := by omega
      rw [tLt (a := v + 1) (b := (m : Int)) (by omega), tLt (a := v + 1) (by omega), tLt (a := v + 1) (b := (m : Int)) (by omega), ix_t (i := v + 1) (by omega), ix_t (i := v + 1) (by omega), hvn1, ← f1.1]
      exact cl _ (by omega)
    · rw [fLt (a := v + 1) (b := (m : Int)) (by omega), fLt (a := v + 1) (b := (m : Int)) (by omega)]
      exact cl 0 (by omega)
theorem ck_blank (h : RdC C B) (hB : ByOk B) (hp : p < 32) : ∀ (m n : Nat) (w : Int), m ≤ 64 → w = ((64 - m : Nat) : Int) → m < n → ((∀ j, 64 - m ≤ j → j < 64 → B p j = 0) ∧ f_X1_isBlank_2 p (fun (v1_e2 : Int) (C_e2 : Mem) => (some (C_e2, 1))) n w C = some (C, 1)) ∨ (¬ (∀ j, 64 - m ≤ j → j < 64 → B p j = 0) ∧ f_X1_isBlank_2 p (fun (v1_e2 : Int) (C_e2 : Mem) => (some (C_e2, 1))) n w C = some (C, 0))
  | _, 0 => by intros; omega
  | 0, n + 1 => by
    intro w _ hw _
    refine Or.inl ⟨fun j _ _ => by omega, ?_⟩
    rw [f_X1_isBlank_2, fLt (by omega)]
  | m + 1, n + 1 => by
    intro w hm hw hn
    have hb := hB p (64 - (m + 1))
    have e1 : f_X4_at p w C = some (C, B p (64 - (m + 1))) := ck_at h hp (by omega) (by omega)
    rw [f_X1_isBlank_2, tLt (by omega), e1, bd_some]
    by_cases c : B p (64 - (m + 1)) = 0
    · rw [tEq (by omega)]
      rcases ck_blank h hB hp m n (w + 1) (by omega) (by omega) (by omega) with ⟨q1, q2⟩ | ⟨q1, q2⟩
      · refine Or.inl ⟨fun j h1 h2 => ?_, q2⟩
        by_cases q : j = 64 - (m + 1)
        · rw [q]; exact c
        · exact q1 j (by omega) h2
      · exact Or.inr ⟨fun k => q1 (fun j h1 h2 => k j (by omega) h2), q2⟩
    · rw [fEq (by omega)]
      exact Or.inr ⟨fun k => c (k _ (by omega) (by omega)), rfl⟩
theorem cm_blank (h : RdX X B) (hB : ByOk B) (hp : p < 32) {pz : Int} (hpz : pz = (p : Int)) {K : Int → Int → Mem → Option (Mem × Int)} : ∀ (m n : Nat) (v2 w : Int), m ≤ 64 → w = ((64 - m : Nat) : Int) → v2 = 0 ∨ v2 = 1 → m < n → ((v2 = 1 ∧ ∀ j, 64 - m ≤ j → j < 64 → B p j = 0) ∧ f_X8_wrongFree_12 pz K n v2 w X = K 1 64 X) ∨ (¬ (v2 = 1 ∧ ∀ j, 64 - m ≤ j → j < 64 → B p j = 0) ∧ f_X8_wrongFree_12 pz K n v2 w X = K 0 64 X)
  | _, 0 => by intros; omega
  | 0, n + 1 => by
    intro v2 w _ hw hv _
    rw [f_X8_wrongFree_12, fLt (by omega), show w = 64 by omega]
    rcases hv with hv | hv
    · exact Or.inr ⟨fun q => by omega, by rw [hv]⟩
    · exact Or.inl ⟨⟨hv, fun j _ _ => by omega⟩, by rw [hv]⟩
  | m + 1, n + 1 => by
    intro v2 w hm hw hv hn
    have hb := hB p (64 - (m + 1))
    have e1 : f_X8_as pz w X = some (X, B p (64 - (m + 1))) := h p hp _ (by omega) _ _ hpz (by omega)
    have ih := fun (s : Int) (hs : s = 0 ∨ s = 1) => cm_blank h hB hp hpz (K := K) m n s (w + 1) (by omega) (by omega) hs (by omega)
    have ih0 : f_X8_wrongFree_12 pz K n 0 (w + 1) X = K 0 64 X := by
      rcases ih 0 (Or.inl rfl) with ⟨q, _⟩ | ⟨_, q⟩
      · exact absurd q.1 (by omega)
      · exact q
    rw [f_X8_wrongFree_12, tLt (by omega)]
    rcases hv with hv | hv
    · rw [tEq (by omega), ih0]
      exact Or.inr ⟨fun q => by omega, rfl⟩
    · rw [fEq (by omega), e1, bd_some]
      by_cases c : B p (64 - (m + 1)) = 0
      · rw [tEq (by omega)]
        rcases ih 1 (Or.inr rfl) with ⟨q1, q2⟩ | ⟨q1, q2⟩
        · refine Or.inl ⟨⟨hv, fun j h1 h2 => ?_⟩, q2⟩
          by_cases q : j = 64 - (m + 1)
          · rw [q]; exact c
          · exact q1.2 j (by omega) h2
        · exact Or.inr ⟨fun k => q1 ⟨rfl, fun j h1 h2 => k.2 j (by omega) h2⟩, q2⟩
      · rw [fEq (by omega), ih0]
        exact Or.inr ⟨fun k => c (k.2 _ (by omega) (by omega)), rfl⟩
theorem ck_stray {m : Nat} (hSt : St B root L C X S m) (hB : ByOk B) : ∀ (t n n' : Nat) (v : Int), t ≤ 32 → v = ((32 - t : Nat) : Int) → t < n → t < n' → ∃ z : Int, f_X1_strayPage_2 (fun (v1_e2 : Int) (C_e2 : Mem) => (some (C_e2, 0))) n v C = some (C, z) ∧ f_X8_wrongFree_2 (fun (v1_e2 : Int) (C_e2 : Mem) => (some (C_e2, 0))) n' v X = some (X, z)
  | _, 0, _ => by intros; omega
  | _, _, 0 => by intros; omega
  | 0, n + 1, n' + 1 => by
    intro v _ hv _ _
    refine ⟨0, ?_, ?_⟩
    · rw [f_X1_strayPage_2, fLt (by omega)]
    · rw [f_X8_wrongFree_2, fLt (by omega)]
  | t + 1, n + 1, n' + 1 => by
    intro v ht hv hn hn'
    have hfu := FU_eq
    have hp : 32 - (t + 1) < 32 := by omega
    have hs := hSt.2.2.1 _ hp
    have hvn : v.toNat = 32 - (t + 1) := by omega
    obtain ⟨z, i1, i2⟩ := ck_stray hSt hB t n n' (v + 1) (by omega) (by omega) (by omega) (by omega)
    rw [f_X1_strayPage_2, f_X8_wrongFree_2, tLt (by omega), tLt (by omega), ix_t (by omega), hvn, hs.1]
    have cb := ck_blank hSt.1 hB hp 64 FU 0 (by omega) (by rfl) (by omega)
    have mb := cm_blank (Rw_Rd hSt.2.1) hB hp hv (K := (fun (v2_e12 : Int) (v3_e12 : Int) (C_e12 : Mem) => (ix (v) 32 (cEq (C_e12 (104) (32 - (t + 1))) 0 (cEq (v2_e12) 0 (some (C_e12, 700 + v)) (f_X8_wrongFree_2 (fun (v1_e2 : Int) (C_e2 : Mem) => (some (C_e2, 0))) n' (v + 1) C_e12)) (f_X8_wrongFree_2 (fun (v1_e2 : Int) (C_e2 : Mem) => (some (C_e2, 0))) n' (v + 1) C_e12))))) 64 FU 1 0 (by omega) (by rfl) (Or.inr rfl) (by omega)
    by_cases k : S (32 - (t + 1)) = 0
    · rw [tEq (a := S (32 - (t + 1))) (by omega), sp_pageOf hv hp, bd_some]
      unfold f_X1_isBlank
      rcases cb with ⟨c1, c2⟩ | ⟨c1, c2⟩
      · rcases mb with ⟨_, m2⟩ | ⟨m1, _⟩
        · rw [c2, bd_some, fEq (a := 1) (by omega), m2, ix_t (by omega), hs.2.1, tEq (a := S (32 - (t + 1))) (by omega), fEq (a := 1) (by omega)]
          exact ⟨z, i1, i2⟩
        · exact absurd ⟨rfl, c1⟩ m1
      · rcases mb with ⟨m1, _⟩ | ⟨_, m2⟩
        · exact absurd m1.2 c1
        · rw [c2, bd_some, tEq (a := 0) (by omega), m2, ix_t (by omega), hs.2.1, tEq (a := S (32 - (t + 1))) (by omega), tEq (a := 0) (by omega)]
          exact ⟨_, rfl, rfl⟩
    · rw [fEq (a := S (32 - (t + 1))) (by omega)]
      have m2 : ∃ g : Int, f_X8_wrongFree_12 v (fun (v2_e12 : Int) (v3_e12 : Int) (C_e12 : Mem) => (ix (v) 32 (cEq (C_e12 (104) (32 - (t + 1))) 0 (cEq (v2_e12) 0 (some (C_e12, 700 + v)) (f_X8_wrongFree_2 (fun (v1_e2 : Int) (C_e2 : Mem) => (some (C_e2, 0))) n' (v + 1) C_e12)) (f_X8_wrongFree_2 (fun (v1_e2 : Int) (C_e2 : Mem) => (some (C_e2, 0))) n' (v + 1) C_e12)))) FU 1 0 X = (fun (v2_e12 : Int) (v3_e12 : Int) (C_e12 : Mem) => (ix (v) 32 (cEq (C_e12 (104) (32 - (t + 1))) 0 (cEq (v2_e12) 0 (some (C_e12, 700 + v)) (f_X8_wrongFree_2 (fun (v1_e2 : Int) (C_e2 : Mem) => (some (C_e2, 0))) n' (v + 1) C_e12)) (f_X8_wrongFree_2 (fun (v1_e2 : Int) (C_e2 : Mem) => (some (C_e2, 0))) n' (v + 1) C_e12)))) g 64 X := by
        rcases mb with ⟨_, m2⟩ | ⟨_, m2⟩
        · exact ⟨1, m2⟩
        · exact ⟨0, m2⟩
      obtain ⟨g, m2⟩ := m2
      rw [m2]
      dsimp only
      rw [ix_t (by omega), hs.2.1, fEq (a := S (32 - (t + 1))) (by omega)]
      exact ⟨z, i1, i2⟩
theorem ck_reset {K : Int → Mem → Option (Mem × Int)} : ∀ (t n : Nat) (v : Int) (C : Mem), t ≤ 32 → v = ((32 - t : Nat) : Int) → t < n → (∀ k, k < 32 - t → C 23 k = 0) → ∃ C', f_X1_firstWrong_2 K n v C = K 32 C' ∧ (∀ k, k < 32 → C' 23 k = 0) ∧ ∀ x y, x ≠ 23 → C' x y = C x y
  | _, 0 => by intros; omega
  | 0, n + 1 => by
    intro v C _ hv _ h0
    refine ⟨C, ?_, fun k hk => h0 k (by omega), fun _ _ _ => rfl⟩
    rw [f_X1_firstWrong_2, fLt (by omega), show v = 32 by omega]
  | t + 1, n + 1 => by
    intro v C _ hv _ h0
    have hvn : v.toNat = 32 - (t + 1) := by omega
    obtain ⟨C', i1, i2, i3⟩ := ck_reset (K := K) t n (v + 1) (up C 23 (32 - (t + 1)) 0) (by omega) (by omega) (by omega) (fun k hk => by
      by_cases q : k = 32 - (t + 1)
      · rw [q, up_same]
      · rw [up_j q]; exact h0 k (by omega))
    refine ⟨C', ?_, i2, fun x y q => by rw [i3 x y q, up_k q]⟩
    rw [f_X1_firstWrong_2, tLt (by omega), ix_t (by omega), hvn, i1]
theorem cm_reset {K : Int → Mem → Option (Mem × Int)} : ∀ (t n : Nat) (v : Int) (C : Mem), t ≤ 32 → v = ((32 - t : Nat) : Int) → t < n → (∀ k, k < 32 - t → C 104 k = 0) → ∃ C', f_X8_wrongDown_12 K n v C = K 32 C' ∧ (∀ k, k < 32 → C' 104 k = 0) ∧ ∀ x y, x ≠ 104 → C' x y = C x y
  | _, 0 => by intros; omega
  | 0, n + 1 => by
    intro v C _ hv _ h0
    refine ⟨C, ?_, fun k hk => h0 k (by omega), fun _ _ _ => rfl⟩
    rw [f_X8_wrongDown_12, fLt (by omega), show v = 32 by omega]
  | t + 1, n + 1 => by
    intro v C _ hv _ h0
    have hvn : v.toNat = 32 - (t + 1) := by omega
    obtain ⟨C', i1, i2, i3⟩ := cm_reset (K := K) t n (v + 1) (up C 104 (32 - (t + 1)) 0) (by omega) (by omega) (by omega) (fun k hk => by
      by_cases q : k = 32 - (t + 1)
      · rw [q, up_same]
      · rw [up_j q]; exact h0 k (by omega))
    refine ⟨C', ?_, i2, fun x y q => by rw [i3 x y q, up_k q]⟩
    rw [f_X8_wrongDown_12, tLt (by omega), ix_t (by omega), hvn, i1]
end K9

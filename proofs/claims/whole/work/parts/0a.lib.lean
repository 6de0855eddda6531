/-! LIBRARY of the pure side: tests, reads and writes. -/
section LB
variable {β : Type} {x y : Option β}
theorem cLt_t {a b : Int} (h : R32 a ∧ R32 b ∧ a < b) : cLt a b x y = x := by unfold cLt; rw [if_pos ⟨h.1, h.2.1⟩, if_pos h.2.2]
theorem cLt_f {a b : Int} (h : R32 a ∧ R32 b ∧ b ≤ a) : cLt a b x y = y := by unfold cLt; rw [if_pos ⟨h.1, h.2.1⟩, if_neg (by omega)]
theorem cLt_i {a b : Int} (h : R32 a ∧ R32 b) : cLt a b x y = if a < b then x else y := by unfold cLt; rw [if_pos h]
theorem cEq_t {a b : Int} (h : R32 a ∧ R32 b ∧ a = b) : cEq a b x y = x := by unfold cEq; rw [if_pos ⟨h.1, h.2.1⟩, if_pos h.2.2]
theorem cEq_f {a b : Int} (h : R32 a ∧ R32 b ∧ a ≠ b) : cEq a b x y = y := by unfold cEq; rw [if_pos ⟨h.1, h.2.1⟩, if_neg h.2.2]
theorem cEq_i {a b : Int} (h : R32 a ∧ R32 b) : cEq a b x y = if a = b then x else y := by unfold cEq; rw [if_pos h]
theorem ix_t {i : Int} {n : Nat} (h : 0 ≤ i ∧ i < n) : ix i n x = x := by unfold ix; rw [if_pos h]
theorem dv_t {a : Int} (h : 0 ≤ a ∧ a < 2147483648) : dv a x = x := by unfold dv; rw [if_pos h]
theorem rg_t {a b : Int} (h : R32 a ∧ R32 b) : rg a b x = x := by unfold rg; rw [if_pos h]
theorem bo_t {z : Int} (h : z = 0 ∨ z = 1) : bo z x = x := by unfold bo; rw [if_pos h]
theorem bd_some {α β : Type} {C : Mem} {z : α} {k : Mem → α → Option (Mem × β)} : bd (some (C, z)) k = k C z := rfl
theorem jn_eq {α β : Type} {k : α} {b : α → β} : jn k b = b k := rfl
/-- a test of a 0/1 answer -/
theorem cEq_b {c : Prop} [Decidable c] : cEq (if c then 1 else 0) 0 x y = if c then y else x := by
  by_cases h : c
  · rw [if_pos h, if_pos h]; exact cEq_f ⟨by decide, by decide, by decide⟩
  · rw [if_neg h, if_neg h]; exact cEq_t ⟨by decide, by decide, rfl⟩
theorem bo_b {c : Prop} [Decidable c] : bo (if c then 1 else 0) x = x := bo_t (by by_cases h : c <;> simp [h])
end LB
theorem up_same {M : Mem} {k j : Nat} {z : Int} : up M k j z k j = z := by unfold up; rw [if_pos ⟨rfl, rfl⟩]
theorem up_k {M : Mem} {k j a b : Nat} {z : Int} (h : a ≠ k) : up M k j z a b = M a b := by unfold up; rw [if_neg (fun q => h q.1)]
theorem up_j {M : Mem} {k j a b : Nat} {z : Int} (h : b ≠ j) : up M k j z a b = M a b := by unfold up; rw [if_neg (fun q => h q.2)]
theorem pl_64 {i : Nat} (h : i ≠ 33) : pl i = 64 := by unfold pl; rw [if_neg h]
theorem pl_33 : pl 33 = 256 := rfl
theorem pl_ge (i : Nat) : 64 ≤ pl i ∧ pl i ≤ 256 := by unfold pl; split <;> omega

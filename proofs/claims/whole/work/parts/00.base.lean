/-! BASE of the pure side: memory, answers that may fail. -/
abbrev Mem : Type := Nat → Nat → Int
def up (M : Mem) (k j : Nat) (z : Int) : Mem := fun a b => if a = k ∧ b = j then z else M a b
/-- length of a page's bytes: 33 is the wide one -/
def pl (i : Nat) : Nat := if i = 33 then 256 else 64
def txB : List (List Int32) := [[112, 117, 116], [116, 97, 107, 101], [108, 111, 97, 100]]
def txL : List Nat := [3, 4, 4]
/-- numbers -/
abbrev R32 (z : Int) : Prop := -2147483648 ≤ z ∧ z < 2147483648
def bd {α β : Type} (o : Option (Mem × α)) (k : Mem → α → Option (Mem × β)) : Option (Mem × β) := match o with
  | none => none
  | some (C, z) => k C z
def cLt {β : Type} (a b : Int) (x y : Option β) : Option β := if R32 a ∧ R32 b then (if a < b then x else y) else none
def cEq {β : Type} (a b : Int) (x y : Option β) : Option β := if R32 a ∧ R32 b then (if a = b then x else y) else none
def ix {β : Type} (i : Int) (n : Nat) (x : Option β) : Option β := if 0 ≤ i ∧ i < n then x else none
def dv {β : Type} (a : Int) (x : Option β) : Option β := if 0 ≤ a ∧ a < 2147483648 then x else none
def rg {β : Type} (a b : Int) (x : Option β) : Option β := if R32 a ∧ R32 b then x else none
def jn {α β : Type} (k : α) (b : α → β) : β := b k
def bo {β : Type} (z : Int) (x : Option β) : Option β := if z = 0 ∨ z = 1 then x else none
def FU : Nat := 5000
theorem FU_eq : FU = 5000 := rfl

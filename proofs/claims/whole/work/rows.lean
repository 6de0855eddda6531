section
/-! BASE of the pure side: memory, answers that may fail. -/
abbrev Mem : Type := Nat → Nat → Int
def up (M : Mem) (k j : Nat) (z : Int) : Mem := fun a b => if a = k ∧ b = j then z else M a b
/-- length of a page's bytes: 33 is the wide one -/
def pl (i : Nat) : Nat := if i = 33 then 256 else 64
def txB : List (List Int32) := [[112, 117, 116], [116, 97, 107, 101], [108, 111, 97, 100]]
def txL : List Nat := [3, 4, 4]
/-- numbers -/
abbrev R32 (z : Int) : Prop := -2147483648 ≤ z ∧ z < 2147483648
def bd {α β : Type} (o : Option (Mem × α)) (k : Mem → α → Option (Mem × β)) : Option (Mem × β) := match o with
  | none => none
  | some (C, z) => k C z
def cLt {β : Type} (a b : Int) (x y : Option β) : Option β := if R32 a ∧ R32 b then (if a < b then x else y) else none
def cEq {β : Type} (a b : Int) (x y : Option β) : Option β := if R32 a ∧ R32 b then (if a = b then x else y) else none
def ix {β : Type} (i : Int) (n : Nat) (x : Option β) : Option β := if 0 ≤ i ∧ i < n then x else none
def dv {β : Type} (a : Int) (x : Option β) : Option β := if 0 ≤ a ∧ a < 2147483648 then x else none
def rg {β : Type} (a b : Int) (x : Option β) : Option β := if R32 a ∧ R32 b then x else none
def jn {α β : Type} (k : α) (b : α → β) : β := b k
def bo {β : Type} (z : Int) (x : Option β) : Option β := if z = 0 ∨ z = 1 then x else none
def FU : Nat := 5000
theorem FU_eq : FU = 5000 := rfl
end
section
/-! PURE FUNCTIONS, by program out of the bytecode: one a method, one a loop. -/
def f_s_len (a0 : Nat) (C : Mem) : Option (Mem × Int) := some (C, (txL.getD a0 0 : Nat))
def f_s_cha (a0 : Nat) (a1 : Int) (C : Mem) : Option (Mem × Int) := ix a1 (txL.getD a0 0) (some (C, ((txB.getD a0 []).getD a1.toNat 0).toInt))
def f_X7_isWithin (a0 : Int) (a1 : Int) (a2 : Int) (C : Mem) : Option (Mem × Int) :=
  (cLt (a0) (a1) (some (C, 0)) (cLt (a2) (a0) (some (C, 0)) (some (C, 1))))
def f_X7_isByte (a0 : Int) (C : Mem) : Option (Mem × Int) :=
  (bd (f_X7_isWithin (a0) (0) (255) C) (fun C5 r5 => (bo (r5) (some (C5, r5)))))
def f_X5_add (a1 : Int) (C : Mem) : Option (Mem × Int) :=
  (cLt (C 4 1) 0 (some (C, 0)) (cLt (C 4 1) (((120 : Nat) : Int)) (ix (C 4 1) 120 (some ((up (up C (25) (C 4 1).toNat (a1)) 4 1 (((up C (25) (C 4 1).toNat (a1)) 4 1) + 1)), 1))) (some (C, 0))))
def f_X7_type (a1 : Int) (C : Mem) : Option (Mem × Int) :=
  (bd (f_X7_isByte (a1) C) (fun C1 r1 => (cEq (r1) 0 (some (C1, -1)) (bd (f_X5_add (a1) C1) (fun C14 r14 => (cEq (r14) 0 (some (C14, -3)) (some (C14, C14 4 1))))))))
def f_X7_clear (C : Mem) : Option (Mem × Int) :=
  (some ((up C 4 1 (0)), C 4 1))
def f_X5_rewind (C : Mem) : Option (Mem × Int) :=
  (some ((up C 4 3 (0)), 0))
def f_X5_at (a1 : Int) (C : Mem) : Option (Mem × Int) :=
  (cLt (a1) 0 (some (C, 0)) (cLt (a1) (C 4 1) (cLt (a1) (((120 : Nat) : Int)) (ix (a1) 120 (some (C, C (25) (a1).toNat))) (some (C, 0))) (some (C, 0))))
def f_X7_isLetter (a0 : Int) (C : Mem) : Option (Mem × Int) :=
  (cLt (a0) (97) (some (C, 0)) (cLt (122) (a0) (some (C, 0)) (some (C, 1))))
def f_X5_isFigure (a0 : Int) (C : Mem) : Option (Mem × Int) :=
  (cLt (a0) (48) (some (C, 0)) (cLt (57) (a0) (some (C, 0)) (some (C, 1))))
def f_X5_readFigures_15 (k : Mem → Option (Mem × Int)) : Nat → Mem → Option (Mem × Int)
  | 0, _ => none
  | n + 1, C => (cLt (C 4 3) (C 4 1) (bd (f_X5_at (C 4 3) C) (fun C31 r31 => (bd (f_X5_isFigure (r31) C31) (fun C34 r34 => (cEq (r34) 0 (k C34) (jn ((fun (C_72 : Mem) => (f_X5_readFigures_15 k n (up C_72 4 3 ((C_72 4 3) + 1)))) : Mem → Option (Mem × Int)) (fun j72 => (cLt (99999) (C34 4 5) (j72 C34) (bd (f_X5_at (C34 4 3) C34) (fun C62 r62 => (j72 (up C62 4 5 (((10 * (C34 4 5)) + r62) - 48))))))))))))) (k C))
def f_X5_readFigures (C : Mem) : Option (Mem × Int) :=
  (bd (f_X5_at (C 4 2) C) (fun C6 r6 => (f_X5_readFigures_15 (fun (C_e15 : Mem) => (bd (f_X5_at (C_e15 4 2) C_e15) (fun C90 r90 => (jn ((fun (s0_116 : Int) => (cLt (99999) (C90 4 5) (some ((up C90 4 4 (4)), 0)) (cEq (s0_116) 0 (some ((up C90 4 4 (2)), 0)) (some ((up C90 4 4 (4)), 0))))) : Int → Option (Mem × Int)) (fun j116 => (jn (((j116 (0))) : Option (Mem × Int)) (fun j115 => (cEq (r90) (48) (cLt (1) ((C90 4 3) - (C90 4 2)) (j116 (1)) (j115)) (j115))))))))) FU (up C6 4 5 (r6 - 48)))))
def f_X5_readToken_8 (k : Mem → Option (Mem × Int)) : Nat → Mem → Option (Mem × Int)
  | 0, _ => none
  | n + 1, C => (cLt (C 4 2) (C 4 1) (bd (f_X5_at (C 4 2) C) (fun C24 r24 => (cEq (r24) (32) (f_X5_readToken_8 k n (up C24 4 2 ((C24 4 2) + 1))) (k C24)))) (k C))
def f_X5_readToken_99 (k : Mem → Option (Mem × Int)) : Nat → Mem → Option (Mem × Int)
  | 0, _ => none
  | n + 1, C => (cLt (C 4 3) (C 4 1) (bd (f_X5_at (C 4 3) C) (fun C115 r115 => (bd (f_X7_isLetter (r115) C115) (fun C118 r118 => (cEq (r118) 0 (some (C118, 0)) (f_X5_readToken_99 k n (up C118 4 3 ((C118 4 3) + 1)))))))) (some (C, 0)))
def f_X5_readToken (C : Mem) : Option (Mem × Int) :=
  (f_X5_readToken_8 (fun (C_e8 : Mem) => (cLt (C_e8 4 2) (C_e8 4 1) (bd (f_X5_at ((up C_e8 4 3 ((C_e8 4 2) + 1)) 4 2) (up C_e8 4 3 ((C_e8 4 2) + 1))) (fun C85 r85 => (bd (f_X7_isLetter (r85) C85) (fun C88 r88 => (jn ((fun (C_137 : Mem) => (bd (f_X5_at (C_137 4 2) C_137) (fun C142 r142 => (bd (f_X5_isFigure (r142) C142) (fun C145 r145 => (cEq (r145) 0 (bd (f_X5_at (C145 4 2) C145) (fun C164 r164 => (cEq (r164) (59) (some ((up C164 4 4 (3)), 0)) (some ((up C164 4 4 (4)), 0))))) (bd (f_X5_readFigures C145) (fun C152 _ => (some (C152, 0)))))))))) : Mem → Option (Mem × Int)) (fun j137 => (cEq (r88) 0 (j137 C88) (f_X5_readToken_99 (fun (C_e99 : Mem) => (j137 C_e99)) FU (up C88 4 4 (1)))))))))) (some ((up (up C_e8 4 4 (0)) 4 3 ((up C_e8 4 4 (0)) 4 2)), 0)))) FU (up C 4 2 (C 4 3)))
def f_X5_hasMore (C : Mem) : Option (Mem × Int) :=
  (bd (f_X5_readToken C) (fun C1 _ => (cEq (C1 4 4) 0 (some (C1, 0)) (some (C1, 1)))))
def f_X5_isWord_28 (u1 : Nat) (k : Int → Mem → Option (Mem × Int)) : Nat → Int → Mem → Option (Mem × Int)
  | 0, _, _ => none
  | n + 1, v2, C => (bd (f_s_len u1 C) (fun C30 r30 => (cLt (v2) (r30) (bd (f_X5_at ((C30 4 2) + v2) C30) (fun C43 r43 => (bd (f_s_cha u1 (v2) C43) (fun C48 r48 => (cEq (r43) (r48) (f_X5_isWord_28 u1 k n (v2 + 1) C48) (some (C48, 0))))))) (k (v2) C30))))
def f_X5_isWord (a1 : Nat) (C : Mem) : Option (Mem × Int) :=
  (cEq (C 4 4) (1) (bd (f_s_len a1 C) (fun C18 r18 => (cEq ((C 4 3) - (C 4 2)) (r18) (f_X5_isWord_28 a1 (fun (v2_e28 : Int) (C_e28 : Mem) => (some (C_e28, 1))) FU (0) C18) (some (C18, 0))))) (some (C, 0)))
def f_X3_empty (a0 : Nat) (C : Mem) : Option (Mem × Int) :=
  (some ((up C (10 + 2 * a0) 1 (0)), 0))
def f_X3_add (a0 : Nat) (a1 : Int) (C : Mem) : Option (Mem × Int) :=
  (cLt (C (10 + 2 * a0) 1) 0 (some (C, 0)) (cLt (C (10 + 2 * a0) 1) (((8 : Nat) : Int)) (ix (C (10 + 2 * a0) 1) 8 (some ((up (up C (11 + 2 * a0) (C (10 + 2 * a0) 1).toNat (a1)) (10 + 2 * a0) 1 (((up C (11 + 2 * a0) (C (10 + 2 * a0) 1).toNat (a1)) (10 + 2 * a0) 1) + 1)), 0))) (some (C, 0))))
def f_X5_readKey_40 (k : Int → Mem → Option (Mem × Int)) : Nat → Int → Mem → Option (Mem × Int)
  | 0, _, _ => none
  | n + 1, v1, C => (cLt (v1) (C 4 3) (bd (f_X5_at (v1) C) (fun C54 r54 => (bd (f_X3_add 4 (r54) C54) (fun C57 _ => (f_X5_readKey_40 k n (v1 + 1) C57))))) (k (v1) C))
def f_X5_readKey (C : Mem) : Option (Mem × Int) :=
  (bd (f_X5_readToken C) (fun C1 _ => (cEq (C1 4 4) (1) (cLt (8) ((C1 4 3) - (C1 4 2)) (some (C1, 0)) (bd (f_X3_empty 4 C1) (fun C32 _ => (f_X5_readKey_40 (fun (v1_e40 : Int) (C_e40 : Mem) => (some (C_e40, 1))) FU (C32 4 2) C32)))) (some (C1, 0)))))
def f_X5_readNumber (a1 : Int) (a2 : Int) (a3 : Int) (C : Mem) : Option (Mem × Int) :=
  (bd (f_X5_readToken C) (fun C1 _ => (cEq (C1 4 4) (2) (bd (f_X7_isWithin (C1 4 5) (a2) (a3) C1) (fun C18 r18 => (cEq (r18) 0 (some (C18, 0)) (cLt (a1) 0 (some (C18, 0)) (cLt (a1) (((3 : Nat) : Int)) (ix (a1) 3 (some ((up C18 (26) (a1).toNat (C18 4 5)), 1))) (some (C18, 0))))))) (some (C1, 0)))))
def f_X5_readStop (C : Mem) : Option (Mem × Int) :=
  (bd (f_X5_readToken C) (fun C1 _ => (cEq (C1 4 4) (3) (some (C1, 1)) (some (C1, 0)))))
def f_X5_number (a1 : Int) (C : Mem) : Option (Mem × Int) :=
  (cLt (a1) 0 (some (C, 0)) (cLt (a1) (((3 : Nat) : Int)) (ix (a1) 3 (some (C, C (26) (a1).toNat))) (some (C, 0))))
def f_X7_endsInTime (a0 : Int) (a1 : Int) (a2 : Int) (C : Mem) : Option (Mem × Int) :=
  (cLt (17575) (a0 + (a1 * (a2 - 1))) (some (C, 0)) (some (C, 1)))
def f_X5_readCommand (C : Mem) : Option (Mem × Int) :=
  (bd (f_X5_isWord 0 C) (fun C3 r3 => (cEq (r3) 0 (bd (f_X5_isWord 1 C3) (fun C49 r49 => (cEq (r49) 0 (bd (f_X5_isWord 2 (up C49 4 6 (2))) (fun C88 r88 => (cEq (r88) 0 (some (C88, 0)) (bd (f_X5_readNumber (0) (0) (17575) C88) (fun C100 r100 => (cEq (r100) 0 (some (C100, 0)) (bd (f_X5_readNumber (1) (1) (99) C100) (fun C111 r111 => (cEq (r111) 0 (some (C111, 0)) (bd (f_X5_readNumber (2) (1) (60) C111) (fun C122 r122 => (cEq (r122) 0 (some (C122, 0)) (bd (f_X5_number (0) C122) (fun C130 r130 => (bd (f_X5_number (1) C130) (fun C135 r135 => (bd (f_X5_number (2) C135) (fun C140 r140 => (bd (f_X7_endsInTime (r130) (r135) (r140) C140) (fun C143 r143 => (cEq (r143) 0 (some (C143, 0)) (bd (f_X5_readStop C143) (fun C150 r150 => (cEq (r150) 0 (some (C150, 0)) (some (C150, 1)))))))))))))))))))))))))) (bd (f_X5_readKey (up C49 4 6 (1))) (fun C61 r61 => (cEq (r61) 0 (some (C61, 0)) (bd (f_X5_readStop C61) (fun C68 r68 => (cEq (r68) 0 (some (C68, 0)) (some (C68, 1))))))))))) (bd (f_X5_readKey (up C3 4 6 (0))) (fun C15 r15 => (cEq (r15) 0 (some (C15, 0)) (bd (f_X5_readNumber (0) (0) (255) C15) (fun C27 r27 => (cEq (r27) 0 (some (C27, 0)) (bd (f_X5_readStop C27) (fun C34 r34 => (cEq (r34) 0 (some (C34, 0)) (some (C34, 1))))))))))))))
def f_X5_firstFault_6 (k : Int → Mem → Option (Mem × Int)) : Nat → Int → Mem → Option (Mem × Int)
  | 0, _, _ => none
  | n + 1, v1, C => (cLt (120) (v1) (k (v1) C) (bd (f_X5_hasMore C) (fun C13 r13 => (cEq (r13) 0 (k (v1) C13) (bd (f_X5_readCommand C13) (fun C20 r20 => (cEq (r20) 0 (some (C20, C20 4 2)) (f_X5_firstFault_6 k n (v1 + 1) C20))))))))
def f_X5_firstFault (C : Mem) : Option (Mem × Int) :=
  (bd (f_X5_rewind C) (fun C1 _ => (f_X5_firstFault_6 (fun (v1_e6 : Int) (C_e6 : Mem) => (some (C_e6, -1))) FU (0) C1)))
def f_X6_pageOf (a1 : Int) (C : Mem) : Option (Mem × Nat) :=
  (cLt (a1) 0 (some (C, 32)) (cLt (a1) (((32 : Nat) : Int)) (ix (a1) 32 (some (C, (a1).toNat))) (some (C, 32))))
def f_X4_entries (a0 : Nat) (C : Mem) : Option (Mem × Int) :=
  (ix (1) (pl a0) (some (C, C (61 + a0) 1)))
def f_X4_offset_4 (u0 : Nat) (u1 : Int) (k : Int → Int → Mem → Option (Mem × Int)) : Nat → Int → Int → Mem → Option (Mem × Int)
  | 0, _, _, _ => none
  | n + 1, v2, v3, C => (cLt (v3) (u1) (cLt (v2) ((((pl u0) : Nat) : Int)) (ix (v2) (pl u0) (f_X4_offset_4 u0 u1 k n (v2 + ((C (61 + u0) (v2).toNat) + 2)) (v3 + 1) C)) (k (v2) (v3) C)) (k (v2) (v3) C))
def f_X4_offset (a0 : Nat) (a1 : Int) (C : Mem) : Option (Mem × Int) :=
  (f_X4_offset_4 a0 (a1) (fun (v2_e4 : Int) (v3_e4 : Int) (C_e4 : Mem) => (some (C_e4, v2_e4))) FU (3) (0) C)
def f_X4_at (a0 : Nat) (a1 : Int) (C : Mem) : Option (Mem × Int) :=
  (cLt (a1) 0 (some (C, 0)) (cLt (a1) ((((pl a0) : Nat) : Int)) (ix (a1) (pl a0) (some (C, C (61 + a0) (a1).toNat))) (some (C, 0))))
def f_X3_at (a0 : Nat) (a1 : Int) (C : Mem) : Option (Mem × Int) :=
  (cLt (a1) 0 (some (C, 0)) (cLt (a1) (C (10 + 2 * a0) 1) (cLt (a1) (((8 : Nat) : Int)) (ix (a1) 8 (some (C, C (11 + 2 * a0) (a1).toNat))) (some (C, 0))) (some (C, 0))))
def f_X4_compare_16 (u0 : Nat) (u2 : Nat) (u3 : Int) (u4 : Int) (k : Int → Mem → Option (Mem × Int)) : Nat → Int → Mem → Option (Mem × Int)
  | 0, _, _ => none
  | n + 1, v5, C => (cLt (v5) (8) (jn ((fun (s0_44 : Int) (C_44 : Mem) => (bd (f_X3_at u2 (v5) C_44) (fun C51 r51 => (cEq (s0_44) (r51) (f_X4_compare_16 u0 u2 u3 u4 k n (v5 + 1) C51) (bd (f_X3_at u2 (v5) C51) (fun C62 r62 => (cLt (s0_44) (r62) (some (C62, -1)) (some (C62, 1))))))))) : Int → Mem → Option (Mem × Int)) (fun j44 => (cLt (v5) (u4) (bd (f_X4_at u0 ((u3 + 1) + v5) C) (fun C37 r37 => (j44 (r37) C37))) (j44 (0) C)))) (k (v5) C))
def f_X4_compare (a0 : Nat) (a1 : Int) (a2 : Nat) (C : Mem) : Option (Mem × Int) :=
  (bd (f_X4_offset a0 (a1) C) (fun C2 r2 => (bd (f_X4_at a0 (r2) C2) (fun C8 r8 => (f_X4_compare_16 a0 a2 (r2) (r8) (fun (v5_e16 : Int) (C_e16 : Mem) => (some (C_e16, 0))) FU (0) C8)))))
def f_X4_entriesBelow_2 (u0 : Nat) (u1 : Nat) (u2 : Int) (k : Int → Mem → Option (Mem × Int)) : Nat → Int → Mem → Option (Mem × Int)
  | 0, _, _ => none
  | n + 1, v3, C => (bd (f_X4_entries u0 C) (fun C4 r4 => (cLt (v3) (r4) (bd (f_X4_compare u0 (v3) u1 C4) (fun C13 r13 => (jn ((fun (s1_25 : Int) => (cLt (r13) (s1_25) (f_X4_entriesBelow_2 u0 u1 u2 k n (v3 + 1) C13) (k (v3) C13))) : Int → Option (Mem × Int)) (fun j25 => (cEq (u2) 0 (j25 (0)) (j25 (1))))))) (k (v3) C4))))
def f_X4_entriesBelow (a0 : Nat) (a1 : Nat) (a2 : Int) (C : Mem) : Option (Mem × Int) :=
  (f_X4_entriesBelow_2 a0 a1 (a2) (fun (v3_e2 : Int) (C_e2 : Mem) => (some (C_e2, v3_e2))) FU (0) C)
def f_X4_link (a0 : Nat) (C : Mem) : Option (Mem × Int) :=
  (ix (2) (pl a0) (some (C, C (61 + a0) 2)))
def f_X4_child (a0 : Nat) (a1 : Int) (C : Mem) : Option (Mem × Int) :=
  (cLt 0 (a1) (bd (f_X4_offset a0 (a1) C) (fun C7 r7 => (bd (f_X4_at a0 (r7 - 1) C7) (fun C12 r12 => (some (C12, r12)))))) (bd (f_X4_link a0 C) (fun C19 r19 => (some (C19, r19)))))
def f_X6_goDown_12 (u1 : Nat) (k : Int → Mem → Option (Mem × Int)) : Nat → Int → Mem → Option (Mem × Int)
  | 0, _, _ => none
  | n + 1, v2, C => (cLt (v2) (C 1 5) (cLt (v2) (((32 : Nat) : Int)) (cLt (v2) (((32 : Nat) : Int)) (ix (v2 - 1) 32 (bd (f_X6_pageOf (C (21) (v2 - 1).toNat) C) (fun C47 r47 => (bd (f_X4_entriesBelow r47 u1 (1) C47) (fun C59 r59 => (ix (v2) 32 (ix (v2) 32 (bd (f_X4_child r47 ((up C59 (22) (v2).toNat (r59)) (22) (v2).toNat) (up C59 (22) (v2).toNat (r59))) (fun C75 r75 => (ix (v2) 32 (f_X6_goDown_12 u1 k n (v2 + 1) (up C75 (21) (v2).toNat (r75))))))))))))) (k (v2) C)) (k (v2) C)) (k (v2) C))
def f_X6_goDown (a1 : Nat) (C : Mem) : Option (Mem × Int) :=
  (ix (0) 32 (f_X6_goDown_12 a1 (fun (v2_e12 : Int) (C_e12 : Mem) => (some (C_e12, 0))) FU (1) (up C (21) 0 (C 1 4))))
def f_X6_numberOn (a1 : Int) (C : Mem) : Option (Mem × Int) :=
  (cLt (a1) 0 (some (C, 0)) (cLt (a1) (((32 : Nat) : Int)) (ix (a1) 32 (some (C, C (21) (a1).toNat))) (some (C, 0))))
def f_X6_pageOn (a1 : Int) (C : Mem) : Option (Mem × Nat) :=
  (bd (f_X6_numberOn (a1) C) (fun C3 r3 => (bd (f_X6_pageOf (r3) C3) (fun C6 r6 => (some (C6, r6))))))
def f_X4_isEntry (a0 : Nat) (a1 : Int) (a2 : Nat) (C : Mem) : Option (Mem × Int) :=
  (bd (f_X4_entries a0 C) (fun C2 r2 => (cLt (a1) (r2) (bd (f_X4_compare a0 (a1) a2 C2) (fun C11 r11 => (cEq (r11) 0 (some (C11, 1)) (some (C11, 0))))) (some (C2, 0)))))
def f_X4_tail (a0 : Nat) (a1 : Int) (C : Mem) : Option (Mem × Int) :=
  (bd (f_X4_offset a0 (a1 + 1) C) (fun C5 r5 => (bd (f_X4_at a0 (r5 - 1) C5) (fun C10 r10 => (some (C10, r10))))))
def f_X4_set (a0 : Nat) (a1 : Int) (a2 : Int) (C : Mem) : Option (Mem × Int) :=
  (cLt (a1) 0 (some (C, 0)) (cLt (a1) ((((pl a0) : Nat) : Int)) (ix (a1) (pl a0) (some ((up C (61 + a0) (a1).toNat (a2)), 0))) (some (C, 0))))
def f_X4_setTail (a0 : Nat) (a1 : Int) (a2 : Int) (C : Mem) : Option (Mem × Int) :=
  (bd (f_X4_offset a0 (a1 + 1) C) (fun C5 r5 => (bd (f_X4_set a0 (r5 - 1) (a2) C5) (fun C11 _ => (some (C11, 0))))))
def f_X4_sort (a0 : Nat) (C : Mem) : Option (Mem × Int) :=
  (ix (0) (pl a0) (some (C, C (61 + a0) 0)))
def f_X6_pagesOfSort_4 (u1 : Int) (k : Int → Int → Mem → Option (Mem × Int)) : Nat → Int → Int → Mem → Option (Mem × Int)
  | 0, _, _, _ => none
  | n + 1, v2, v3, C => (cLt (v3) (32) (bd (f_X6_pageOf (v3) C) (fun C13 r13 => (bd (f_X4_sort r13 C13) (fun C16 r16 => (cEq (r16) (u1) (f_X6_pagesOfSort_4 u1 k n (v2 + 1) (v3 + 1) C16) (f_X6_pagesOfSort_4 u1 k n (v2 + 0) (v3 + 1) C16)))))) (k (v2) (v3) C))
def f_X6_pagesOfSort (a1 : Int) (C : Mem) : Option (Mem × Int) :=
  (f_X6_pagesOfSort_4 (a1) (fun (v2_e4 : Int) (v3_e4 : Int) (C_e4 : Mem) => (some (C_e4, v2_e4))) FU (0) (0) C)
def f_X3_copyFrom_6 (u0 : Nat) (u1 : Nat) (k : Int → Mem → Option (Mem × Int)) : Nat → Int → Mem → Option (Mem × Int)
  | 0, _, _ => none
  | n + 1, v2, C => (cLt (v2) (C (10 + 2 * u1) 1) (bd (f_X3_at u1 (v2) C) (fun C17 r17 => (bd (f_X3_add u0 (r17) C17) (fun C20 _ => (f_X3_copyFrom_6 u0 u1 k n (v2 + 1) C20))))) (k (v2) C))
def f_X3_copyFrom (a0 : Nat) (a1 : Nat) (C : Mem) : Option (Mem × Int) :=
  (bd (f_X3_empty a0 C) (fun C1 _ => (f_X3_copyFrom_6 a0 a1 (fun (v2_e6 : Int) (C_e6 : Mem) => (some (C_e6, 0))) FU (0) C1)))
def f_X4_copyFrom_2 (u0 : Nat) (u1 : Nat) (k : Int → Mem → Option (Mem × Int)) : Nat → Int → Mem → Option (Mem × Int)
  | 0, _, _ => none
  | n + 1, v2, C => (cLt (v2) ((((pl u0) : Nat) : Int)) (bd (f_X4_at u1 (v2) C) (fun C18 r18 => (ix (v2) (pl u0) (f_X4_copyFrom_2 u0 u1 k n (v2 + 1) (up C18 (61 + u0) (v2).toNat (r18)))))) (k (v2) C))
def f_X4_copyFrom (a0 : Nat) (a1 : Nat) (C : Mem) : Option (Mem × Int) :=
  (f_X4_copyFrom_2 a0 a1 (fun (v2_e2 : Int) (C_e2 : Mem) => (some (C_e2, 0))) FU (0) C)
def f_X4_insert_27 (u0 : Nat) (u2 : Nat) (u3 : Int) (u4 : Int) (u5 : Int) (k : Int → Mem → Option (Mem × Int)) : Nat → Int → Mem → Option (Mem × Int)
  | 0, _, _ => none
  | n + 1, v6, C => (cLt (v6) (u4) (k (v6) C) (bd (f_X4_at u0 (v6) C) (fun C43 r43 => (bd (f_X4_set u0 (v6 + u5) (r43) C43) (fun C46 _ => (f_X4_insert_27 u0 u2 u3 u4 u5 k n (v6 + (-1)) C46))))))
def f_X4_insert_68 (u0 : Nat) (u2 : Nat) (u3 : Int) (u4 : Int) (u5 : Int) (k : Int → Mem → Option (Mem × Int)) : Nat → Int → Mem → Option (Mem × Int)
  | 0, _, _ => none
  | n + 1, v6, C => (cLt (v6) (C (10 + 2 * u2) 1) (bd (f_X3_at u2 (v6) C) (fun C88 r88 => (bd (f_X4_set u0 ((u4 + 1) + v6) (r88) C88) (fun C91 _ => (f_X4_insert_68 u0 u2 u3 u4 u5 k n (v6 + 1) C91))))) (k (v6) C))
def f_X4_insert (a0 : Nat) (a1 : Int) (a2 : Nat) (a3 : Int) (C : Mem) : Option (Mem × Int) :=
  (bd (f_X4_offset a0 (a1) C) (fun C2 r2 => (bd (f_X4_entries a0 C2) (fun C17 r17 => (bd (f_X4_offset a0 (r17) C17) (fun C20 r20 => (f_X4_insert_27 a0 a2 (a3) (r2) ((C2 (10 + 2 * a2) 1) + 2) (fun (v6_e27 : Int) (C_e27 : Mem) => (bd (f_X4_set a0 (r2) (C_e27 (10 + 2 * a2) 1) C_e27) (fun C62 _ => (f_X4_insert_68 a0 a2 (a3) (r2) ((C2 (10 + 2 * a2) 1) + 2) (fun (v6_e68 : Int) (C_e68 : Mem) => (bd (f_X4_set a0 ((r2 + ((C2 (10 + 2 * a2) 1) + 2)) - 1) (a3) C_e68) (fun C109 _ => (ix (1) (pl a0) (ix (1) (pl a0) (some ((up C109 (61 + a0) 1 ((C109 (61 + a0) 1) + 1)), 0))))))) FU (0) C62)))) FU (r20 - 1) C20)))))))
def f_X4_used (a0 : Nat) (C : Mem) : Option (Mem × Int) :=
  (bd (f_X4_sort a0 C) (fun C1 r1 => (cEq (r1) 0 (some (C1, 0)) (bd (f_X4_entries a0 C1) (fun C13 r13 => (bd (f_X4_offset a0 (r13) C13) (fun C16 r16 => (some (C16, r16)))))))))
def f_X6_lowestFree_2 (k : Int → Mem → Option (Mem × Int)) : Nat → Int → Mem → Option (Mem × Int)
  | 0, _, _ => none
  | n + 1, v1, C => (cLt (v1) (32) (bd (f_X6_pageOf (v1) C) (fun C10 r10 => (bd (f_X4_sort r10 C10) (fun C13 r13 => (cEq (r13) 0 (k (v1) C13) (f_X6_lowestFree_2 k n (v1 + 1) C13)))))) (k (v1) C))
def f_X6_lowestFree (C : Mem) : Option (Mem × Int) :=
  (f_X6_lowestFree_2 (fun (v1_e2 : Int) (C_e2 : Mem) => (some (C_e2, v1_e2))) FU (0) C)
def f_X4_setLink (a0 : Nat) (a1 : Int) (C : Mem) : Option (Mem × Int) :=
  (ix (2) (pl a0) (some ((up C (61 + a0) 2 (a1)), 0)))
def f_X4_half_13 (u0 : Nat) (u1 : Int) (k : Int → Mem → Option (Mem × Int)) : Nat → Int → Mem → Option (Mem × Int)
  | 0, _, _ => none
  | n + 1, v2, C => (bd (f_X4_entries u0 C) (fun C15 r15 => (cLt (v2) (r15) (bd (f_X4_offset u0 (v2) C15) (fun C24 r24 => (cLt (2 * (r24 - 3)) (u1) (f_X4_half_13 u0 u1 k n (v2 + 1) C24) (k (v2) C24)))) (k (v2) C15))))
def f_X4_half (a0 : Nat) (C : Mem) : Option (Mem × Int) :=
  (bd (f_X4_entries a0 C) (fun C2 r2 => (bd (f_X4_offset a0 (r2) C2) (fun C5 r5 => (f_X4_half_13 a0 (r5 - 3) (fun (v2_e13 : Int) (C_e13 : Mem) => (some (C_e13, v2_e13))) FU (0) C5)))))
def f_X4_readKey_25 (u0 : Nat) (u2 : Nat) (u3 : Int) (u4 : Int) (k : Int → Mem → Option (Mem × Int)) : Nat → Int → Mem → Option (Mem × Int)
  | 0, _, _ => none
  | n + 1, v5, C => (cLt (u4) (v5) (k (v5) C) (bd (f_X4_at u0 (u3 + v5) C) (fun C38 r38 => (bd (f_X3_add u2 (r38) C38) (fun C41 _ => (f_X4_readKey_25 u0 u2 u3 u4 k n (v5 + 1) C41))))))
def f_X4_readKey (a0 : Nat) (a1 : Int) (a2 : Nat) (C : Mem) : Option (Mem × Int) :=
  (bd (f_X4_offset a0 (a1) C) (fun C2 r2 => (bd (f_X4_at a0 (r2) C2) (fun C8 r8 => (rg (r8) (8) (bd (f_X3_empty a2 C8) (fun C19 _ => (f_X4_readKey_25 a0 a2 (r2) (min (r8) (8)) (fun (v5_e25 : Int) (C_e25 : Mem) => (some (C_e25, 0))) FU (1) C19))))))))
def f_X3_cutAbove_2 (u0 : Nat) (u1 : Nat) (k : Int → Mem → Option (Mem × Int)) : Nat → Int → Mem → Option (Mem × Int)
  | 0, _, _ => none
  | n + 1, v2, C => (cLt (v2) (C (10 + 2 * u0) 1) (bd (f_X3_at u0 (v2) C) (fun C12 r12 => (bd (f_X3_at u1 (v2) C12) (fun C17 r17 => (cEq (r12) (r17) (f_X3_cutAbove_2 u0 u1 k n (v2 + 1) C17) (k (v2) C17)))))) (k (v2) C))
def f_X3_cutAbove (a0 : Nat) (a1 : Nat) (C : Mem) : Option (Mem × Int) :=
  (f_X3_cutAbove_2 a0 a1 (fun (v2_e2 : Int) (C_e2 : Mem) => (rg (C_e2 (10 + 2 * a0) 1) (v2_e2 + 1) (some ((up C_e2 (10 + 2 * a0) 1 (min (C_e2 (10 + 2 * a0) 1) (v2_e2 + 1))), 0)))) FU (0) C)
def f_X0_readSeparator (a1 : Int) (C : Mem) : Option (Mem × Int) :=
  (bd (f_X4_readKey 33 (a1) 1 C) (fun C9 _ => (bd (f_X4_sort 33 C9) (fun C16 r16 => (cEq (r16) (1) (bd (f_X4_readKey 33 (a1 - 1) 2 C16) (fun C34 _ => (bd (f_X3_cutAbove 1 2 C34) (fun C45 _ => (some (C45, 0)))))) (some (C16, 0)))))))
def f_J7_fill_53178_5 (u0 : Nat) (u1 : Int) (u3 : Int) (k : Int → Mem → Option (Mem × Int)) : Nat → Int → Mem → Option (Mem × Int)
  | 0, _, _ => none
  | n + 1, v2, C => (cLt (v2) (u3) (ix (v2) (pl u0) (f_J7_fill_53178_5 u0 u1 u3 k n (v2 + 1) (up C (61 + u0) (v2).toNat (u1)))) (k (v2) C))
def f_J7_fill_53178 (a0 : Nat) (a1 : Int) (C : Mem) : Option (Mem × Int) :=
  (f_J7_fill_53178_5 a0 (a1) ((((pl a0) : Nat) : Int)) (fun (v2_e5 : Int) (C_e5 : Mem) => (some (C_e5, 0))) FU (0) C)
def f_X4_begin (a0 : Nat) (a1 : Int) (a2 : Int) (C : Mem) : Option (Mem × Int) :=
  (bd (f_J7_fill_53178 a0 (0) C) (fun C5 _ => (ix (0) (pl a0) (ix (2) (pl a0) (some ((up (up C5 (61 + a0) 0 (a1)) (61 + a0) 2 (a2)), 0))))))
def f_X4_append_30 (u0 : Nat) (u1 : Nat) (u2 : Int) (u3 : Int) (u4 : Int) (u5 : Int) (u6 : Int) (k : Int → Mem → Option (Mem × Int)) : Nat → Int → Mem → Option (Mem × Int)
  | 0, _, _ => none
  | n + 1, v7, C => (cLt (v7) (u6) (bd (f_X4_at u1 (u5 + v7) C) (fun C49 r49 => (bd (f_X4_set u0 (u4 + v7) (r49) C49) (fun C52 _ => (f_X4_append_30 u0 u1 u2 u3 u4 u5 u6 k n (v7 + 1) C52))))) (k (v7) C))
def f_X4_append (a0 : Nat) (a1 : Nat) (a2 : Int) (a3 : Int) (C : Mem) : Option (Mem × Int) :=
  (bd (f_X4_entries a0 C) (fun C2 r2 => (bd (f_X4_offset a0 (r2) C2) (fun C5 r5 => (bd (f_X4_offset a1 (a2) C5) (fun C12 r12 => (bd (f_X4_offset a1 (a3) C12) (fun C19 r19 => (f_X4_append_30 a0 a1 (a2) (a3) (r5) (r12) (r19 - r12) (fun (v7_e30 : Int) (C_e30 : Mem) => (ix (1) (pl a0) (ix (1) (pl a0) (some ((up C_e30 (61 + a0) 1 ((C_e30 (61 + a0) 1) + (a3 - a2))), 0))))) FU (0) C19)))))))))
def f_X0_deal (a1 : Int) (a2 : Nat) (a3 : Nat) (C : Mem) : Option (Mem × Int) :=
  (bd (f_X4_sort 33 C) (fun C4 r4 => (jn ((fun (s0_16 : Int) => (bd (f_X4_sort 33 C4) (fun C23 r23 => (bd (f_X4_link a2 C23) (fun C27 r27 => (bd (f_X4_begin a2 (r23) (r27) C27) (fun C30 _ => (bd (f_X4_append a2 33 (0) (a1) C30) (fun C40 _ => (bd (f_X4_sort 33 C40) (fun C48 r48 => (jn ((fun (s2_71 : Int) (C_71 : Mem) => (bd (f_X4_begin a3 (r48) (s2_71) C_71) (fun C71 _ => (jn ((fun (s2_91 : Int) => (bd (f_X4_entries 33 C71) (fun C95 r95 => (bd (f_X4_append a3 33 (s2_91) (r95) C95) (fun C98 _ => (some (C98, 0))))))) : Int → Option (Mem × Int)) (fun j91 => (cEq (s0_16) 0 (j91 (a1)) (j91 (a1 + 1)))))))) : Int → Mem → Option (Mem × Int)) (fun j71 => (cEq (s0_16) 0 (bd (f_X4_link a3 C48) (fun C68 r68 => (j71 (r68) C68))) (bd (f_X4_tail 33 (a1) C48) (fun C61 r61 => (j71 (r61) C61))))))))))))))))) : Int → Option (Mem × Int)) (fun j16 => (cEq (r4) (2) (j16 (1)) (j16 (0)))))))
def f_X0_split (a1 : Nat) (C : Mem) : Option (Mem × Int) :=
  (bd (f_X6_lowestFree C) (fun C4 r4 => (bd (f_X6_pageOf (r4) C4) (fun C13 r13 => (bd (f_X4_sort 33 C13) (fun C21 r21 => (jn ((fun (C_43 : Mem) => (bd (f_X4_half 33 C_43) (fun C47 r47 => (bd (f_X0_readSeparator (r47) C47) (fun C55 _ => (bd (f_X0_deal (r47) a1 r13 C55) (fun C63 _ => (some ((up C63 2 4 ((C63 2 4) + 1)), r4))))))))) : Mem → Option (Mem × Int)) (fun j43 => (cEq (r21) (1) (bd (f_X4_link a1 C21) (fun C30 r30 => (bd (f_X4_setLink r13 (r30) C30) (fun C33 _ => (bd (f_X4_setLink a1 (r4 + 1) C33) (fun C40 _ => (j43 C40))))))) (j43 C21))))))))))
def f_X6_slotOn (a1 : Int) (C : Mem) : Option (Mem × Int) :=
  (cLt (a1) 0 (some (C, 0)) (cLt (a1) (((32 : Nat) : Int)) (ix (a1) 32 (some (C, C (22) (a1).toNat))) (some (C, 0))))
def f_X0_raiseRoot (a1 : Int) (C : Mem) : Option (Mem × Int) :=
  (bd (f_X6_lowestFree C) (fun C4 r4 => (bd (f_X6_pageOf (r4) C4) (fun C13 r13 => (bd (f_X4_begin r13 (2) (C13 1 4) C13) (fun C26 _ => (bd (f_X4_insert r13 (0) 1 (a1) C26) (fun C36 _ => (some ((up (up C36 1 4 (r4)) 1 5 (((up C36 1 4 (r4)) 1 5) + 1)), 0))))))))))
def f_X0_insertUpward_16 (k : Int → Int → Int → Mem → Option (Mem × Int)) : Nat → Int → Int → Int → Mem → Option (Mem × Int)
  | 0, _, _, _, _ => none
  | n + 1, v3, v4, v5, C => (cLt (v5) 0 (k (v3) (v4) (v5) C) (bd (f_X6_pageOn (v5) C) (fun C27 r27 => (bd (f_X4_copyFrom 33 r27 C27) (fun C38 _ => (bd (f_X4_insert 33 (v3) 1 (v4) C38) (fun C52 _ => (bd (f_X4_used 33 C52) (fun C59 r59 => (cLt (64) (r59) (bd (f_X0_split r27 C59) (fun C80 r80 => (bd (f_X6_slotOn (v5) C80) (fun C91 r91 => (f_X0_insertUpward_16 k n (r91) (r80) (v5 + (-1)) C91))))) (bd (f_X4_copyFrom r27 33 C59) (fun C73 _ => (some (C73, 0))))))))))))))
def f_X0_insertUpward (a1 : Int) (a2 : Int) (C : Mem) : Option (Mem × Int) :=
  (f_X0_insertUpward_16 (fun (v3_e16 : Int) (v4_e16 : Int) (v5_e16 : Int) (C_e16 : Mem) => (bd (f_X0_raiseRoot (v4_e16) C_e16) (fun C104 _ => (some (C104, 0))))) FU (a1) (a2) ((C 1 5) - 1) C)
def f_X0_putKey (a1 : Nat) (a2 : Int) (C : Mem) : Option (Mem × Int) :=
  (bd (f_X6_goDown a1 C) (fun C5 _ => (bd (f_X6_pageOn ((C5 1 5) - 1) C5) (fun C21 r21 => (bd (f_X4_entriesBelow r21 a1 (0) C21) (fun C28 r28 => (bd (f_X4_isEntry r21 (r28) a1 C28) (fun C37 r37 => (cEq (r37) 0 (bd (f_X6_pagesOfSort (0) C37) (fun C66 r66 => (cLt (C66 1 5) (r66) (bd (f_X3_copyFrom 1 a1 C66) (fun C87 _ => (bd (f_X0_insertUpward (r28) (a2) C87) (fun C94 _ => (some (C94, -9)))))) (some (C66, -3))))) (bd (f_X4_tail r21 (r28) C37) (fun C46 r46 => (bd (f_X4_setTail r21 (r28) (a2) C46) (fun C55 _ => (some (C55, r46)))))))))))))))
def f_X4_remove_19 (u0 : Nat) (u3 : Int) (k : Int → Mem → Option (Mem × Int)) : Nat → Int → Mem → Option (Mem × Int)
  | 0, _, _ => none
  | n + 1, v4, C => (cLt (v4) ((((pl u0) : Nat) : Int)) (bd (f_X4_at u0 (v4 + u3) C) (fun C40 r40 => (ix (v4) (pl u0) (f_X4_remove_19 u0 u3 k n (v4 + 1) (up C40 (61 + u0) (v4).toNat (r40)))))) (k (v4) C))
def f_X4_remove (a0 : Nat) (a1 : Int) (C : Mem) : Option (Mem × Int) :=
  (bd (f_X4_offset a0 (a1) C) (fun C2 r2 => (bd (f_X4_offset a0 (a1 + 1) C2) (fun C10 r10 => (f_X4_remove_19 a0 (r10 - r2) (fun (v4_e19 : Int) (C_e19 : Mem) => (ix (1) (pl a0) (ix (1) (pl a0) (some ((up C_e19 (61 + a0) 1 ((C_e19 (61 + a0) 1) - 1)), 0))))) FU (r2) C10)))))
def f_X0_gather (a1 : Nat) (a2 : Int) (a3 : Nat) (a4 : Nat) (C : Mem) : Option (Mem × Int) :=
  (bd (f_X4_copyFrom 33 a3 C) (fun C5 _ => (bd (f_X4_sort 33 C5) (fun C12 r12 => (jn ((fun (C_51 : Mem) => (bd (f_X4_entries a4 C_51) (fun C60 r60 => (bd (f_X4_append 33 a4 (0) (r60) C60) (fun C63 _ => (some (C63, 0))))))) : Mem → Option (Mem × Int)) (fun j51 => (cEq (r12) (2) (bd (f_X4_readKey a1 (a2) 1 C12) (fun C25 _ => (bd (f_X4_entries 33 C25) (fun C36 r36 => (bd (f_X4_link a4 C36) (fun C45 r45 => (bd (f_X4_insert 33 (r36) 1 (r45) C45) (fun C48 _ => (j51 C48))))))))) (j51 C12))))))))
def f_X4_release (a0 : Nat) (C : Mem) : Option (Mem × Int) :=
  (bd (f_J7_fill_53178 a0 (0) C) (fun C5 _ => (some (C5, 0))))
def f_X0_join (a1 : Nat) (a2 : Nat) (C : Mem) : Option (Mem × Int) :=
  (bd (f_X4_copyFrom a1 33 C) (fun C5 _ => (bd (f_X4_sort 33 C5) (fun C12 r12 => (jn ((fun (C_27 : Mem) => (bd (f_X4_release a2 C_27) (fun C28 _ => (some ((up C28 2 5 ((C28 2 5) + 1)), 0))))) : Mem → Option (Mem × Int)) (fun j27 => (cEq (r12) (1) (bd (f_X4_link a2 C12) (fun C21 r21 => (bd (f_X4_setLink a1 (r21) C21) (fun C24 _ => (j27 C24))))) (j27 C12))))))))
def f_X4_letters (a0 : Nat) (a1 : Int) (C : Mem) : Option (Mem × Int) :=
  (bd (f_X4_offset a0 (a1) C) (fun C3 r3 => (bd (f_X4_at a0 (r3) C3) (fun C6 r6 => (some (C6, r6))))))
def f_X0_shareAnew (a1 : Nat) (a2 : Int) (a3 : Nat) (a4 : Nat) (C : Mem) : Option (Mem × Int) :=
  (bd (f_X4_half 33 C) (fun C4 r4 => (bd (f_X0_readSeparator (r4) C4) (fun C12 _ => (bd (f_X4_used a1 C12) (fun C16 r16 => (bd (f_X4_letters a1 (a2) C16) (fun C21 r21 => (cLt (64) ((r16 - r21) + (C21 (10 + 2 * 1) 1)) (some (C21, 0)) (bd (f_X4_child a1 (a2 + 1) C21) (fun C43 r43 => (bd (f_X4_remove a1 (a2) C43) (fun C50 _ => (bd (f_X4_insert a1 (a2) 1 (r43) C50) (fun C61 _ => (bd (f_X0_deal (r4) a3 a4 C61) (fun C70 _ => (some ((up C70 2 6 ((C70 2 6) + 1)), 0)))))))))))))))))))
def f_X0_mend (a1 : Int) (C : Mem) : Option (Mem × Int) :=
  (bd (f_X6_pageOn (a1 - 1) C) (fun C7 r7 => (bd (f_X6_slotOn (a1) C7) (fun C16 r16 => (bd (f_X4_entries r7 C16) (fun C22 r22 => (jn ((fun (s0_35 : Int) => (cLt (s0_35) 0 (some (C22, 0)) (bd (f_X4_child r7 (s0_35) C22) (fun C51 r51 => (bd (f_X6_pageOf (r51) C51) (fun C54 r54 => (bd (f_X4_child r7 (s0_35 + 1) C54) (fun C68 r68 => (bd (f_X6_pageOf (r68) C68) (fun C71 r71 => (bd (f_X0_gather r7 (s0_35) r54 r71 C71) (fun C84 _ => (bd (f_X4_used 33 C84) (fun C91 r91 => (cLt (64) (r91) (bd (f_X0_shareAnew r7 (s0_35) r54 r71 C91) (fun C123 _ => (some (C123, 0)))) (bd (f_X0_join r54 r71 C91) (fun C104 _ => (bd (f_X4_remove r7 (s0_35) C104) (fun C110 _ => (some (C110, 1))))))))))))))))))))) : Int → Option (Mem × Int)) (fun j35 => (cLt (r16) (r22) (j35 (r16)) (j35 (r16 - 1)))))))))))
def f_X0_lowerRoot (C : Mem) : Option (Mem × Int) :=
  (bd (f_X6_pageOf (C 1 4) C) (fun C11 r11 => (bd (f_X4_sort r11 C11) (fun C16 r16 => (cEq (r16) (2) (bd (f_X4_entries r11 C16) (fun C24 r24 => (cEq (r24) 0 (bd (f_X4_link r11 C24) (fun C35 r35 => (bd (f_X4_release r11 (up (up C35 1 4 (r35)) 1 5 (((up C35 1 4 (r35)) 1 5) - 1))) (fun C55 _ => (some (C55, 0)))))) (some (C24, 0))))) (some (C16, 0)))))))
def f_X0_takeKey_67 (u4 : Int) (k : Int → Mem → Option (Mem × Int)) : Nat → Int → Mem → Option (Mem × Int)
  | 0, _, _ => none
  | n + 1, v5, C => (cLt 0 (v5) (bd (f_X6_pageOn (v5) C) (fun C78 r78 => (bd (f_X4_used r78 C78) (fun C81 r81 => (cLt (r81) (32) (bd (f_X0_mend (v5) C81) (fun C92 r92 => (cEq (r92) 0 (k (v5) C92) (f_X0_takeKey_67 u4 k n (v5 + (-1)) C92)))) (k (v5) C81)))))) (k (v5) C))
def f_X0_takeKey (a1 : Nat) (C : Mem) : Option (Mem × Int) :=
  (bd (f_X6_goDown a1 C) (fun C5 _ => (bd (f_X6_pageOn ((C5 1 5) - 1) C5) (fun C21 r21 => (bd (f_X4_entriesBelow r21 a1 (0) C21) (fun C28 r28 => (bd (f_X4_isEntry r21 (r28) a1 C28) (fun C35 r35 => (cEq (r35) 0 (some (C35, -9)) (bd (f_X4_tail r21 (r28) C35) (fun C46 r46 => (bd (f_X4_remove r21 (r28) C46) (fun C53 _ => (f_X0_takeKey_67 (r46) (fun (v5_e67 : Int) (C_e67 : Mem) => (cEq (v5_e67) 0 (bd (f_X0_lowerRoot C_e67) (fun C110 _ => (some (C110, r46)))) (some (C_e67, r46)))) FU ((C53 1 5) - 1) C53))))))))))))))
def f_X3_spell_27 (u0 : Nat) (k : Int → Int → Mem → Option (Mem × Int)) : Nat → Int → Int → Mem → Option (Mem × Int)
  | 0, _, _, _ => none
  | n + 1, v3, v4, C => (cLt (v4) 0 (k (v3) (v4) C) (dv (v3) (ix (v4) 8 (dv (v3) (f_X3_spell_27 u0 k n (v3 / 26) (v4 + (-1)) (up C (11 + 2 * u0) (v4).toNat (97 + (v3 % 26))))))))
def f_X3_spell (a0 : Nat) (a1 : Int) (a2 : Int) (C : Mem) : Option (Mem × Int) :=
  (rg (a2) (((8 : Nat) : Int)) (rg (0) (min (a2) (((8 : Nat) : Int))) (f_X3_spell_27 a0 (fun (v3_e27 : Int) (v4_e27 : Int) (C_e27 : Mem) => (some (C_e27, 0))) FU (a1) (((up C (10 + 2 * a0) 1 (max (0) (min (a2) (((8 : Nat) : Int))))) (10 + 2 * a0) 1) - 1) (up C (10 + 2 * a0) 1 (max (0) (min (a2) (((8 : Nat) : Int))))))))
def f_X0_fillLeaves_19 (u1 : Int) (u2 : Int) (u3 : Int) (k : Int → Int → Mem → Option (Mem × Int)) : Nat → Int → Int → Mem → Option (Mem × Int)
  | 0, _, _, _ => none
  | n + 1, v4, v5, C => (cLt (v5) (u3) (bd (f_X3_spell 1 (u1 + (u2 * v5)) (3) C) (fun C36 _ => (bd (f_X6_pageOf (v4) C36) (fun C45 r45 => (bd (f_X4_used r45 C45) (fun C48 r48 => (jn ((fun (x4_99 : Int) (C_99 : Mem) => (bd (f_X6_pageOf (x4_99) C_99) (fun C105 r105 => (bd (f_X4_entries r105 C105) (fun C114 r114 => (bd (f_X4_insert r105 (r114) 1 (v5) C114) (fun C123 _ => (f_X0_fillLeaves_19 u1 u2 u3 k n (x4_99) (v5 + 1) C123)))))))) : Int → Mem → Option (Mem × Int)) (fun j99 => (cLt (64) ((r48 + (C48 (10 + 2 * 1) 1)) + 2) (bd (f_X6_pageOf (v4) C48) (fun C72 r72 => (bd (f_X4_setLink r72 (v4 + 2) C72) (fun C79 _ => (bd (f_X6_pageOf (v4 + 1) C79) (fun C91 r91 => (bd (f_X4_begin r91 (1) (0) C91) (fun C96 _ => (j99 (v4 + 1) C96))))))))) (j99 (v4) C48)))))))))) (k (v4) (v5) C))
def f_X0_fillLeaves (a1 : Int) (a2 : Int) (a3 : Int) (C : Mem) : Option (Mem × Int) :=
  (bd (f_X6_pageOf (0) C) (fun C8 r8 => (bd (f_X4_begin r8 (1) (0) C8) (fun C13 _ => (f_X0_fillLeaves_19 (a1) (a2) (a3) (fun (v4_e19 : Int) (v5_e19 : Int) (C_e19 : Mem) => (some (C_e19, v4_e19))) FU (0) (0) C13)))))
def f_X0_shareWithLast (a1 : Int) (C : Mem) : Option (Mem × Int) :=
  (bd (f_X6_pageOf (a1 - 1) C) (fun C7 r7 => (bd (f_X6_pageOf (a1) C7) (fun C16 r16 => (bd (f_X4_used r16 C16) (fun C21 r21 => (cLt (r21) (32) (bd (f_X4_copyFrom 33 r7 C21) (fun C34 _ => (bd (f_X4_entries r16 C34) (fun C44 r44 => (bd (f_X4_append 33 r16 (0) (r44) C44) (fun C47 _ => (bd (f_X4_half 33 C47) (fun C55 r55 => (bd (f_X0_deal (r55) r7 r16 C55) (fun C60 _ => (some (C60, 0)))))))))))) (some (C21, 0)))))))))
def f_X0_coverLeaves_45 (u1 : Int) (u2 : Nat) (k : Int → Mem → Option (Mem × Int)) : Nat → Int → Mem → Option (Mem × Int)
  | 0, _, _ => none
  | n + 1, v3, C => (cLt (u1) (v3) (k (v3) C) (bd (f_X6_pageOf (v3 - 1) C) (fun C57 r57 => (bd (f_X4_entries r57 C57) (fun C66 r66 => (bd (f_X4_readKey r57 (r66 - 1) 2 C66) (fun C75 _ => (bd (f_X6_pageOf (v3) C75) (fun C83 r83 => (bd (f_X4_readKey r83 (0) 1 C83) (fun C91 _ => (bd (f_X3_cutAbove 1 2 C91) (fun C102 _ => (bd (f_X4_entries u2 C102) (fun C107 r107 => (bd (f_X4_insert u2 (r107) 1 (v3) C107) (fun C115 _ => (f_X0_coverLeaves_45 u1 u2 k n (v3 + 1) C115))))))))))))))))))
def f_X0_coverLeaves (a1 : Int) (C : Mem) : Option (Mem × Int) :=
  (bd (f_X6_lowestFree C) (fun C8 r8 => (bd (f_X6_pageOf ((up (up C8 1 4 (r8)) 1 5 (2)) 1 4) (up (up C8 1 4 (r8)) 1 5 (2))) (fun C33 r33 => (bd (f_X4_begin r33 (2) (0) C33) (fun C40 _ => (f_X0_coverLeaves_45 (a1) r33 (fun (v3_e45 : Int) (C_e45 : Mem) => (some (C_e45, 0))) FU (1) C40)))))))
def f_X0_loadRow_3 (u1 : Int) (u2 : Int) (u3 : Int) (k : Int → Mem → Option (Mem × Int)) : Nat → Int → Mem → Option (Mem × Int)
  | 0, _, _ => none
  | n + 1, v4, C => (cLt (v4) (32) (bd (f_X6_pageOf (v4) C) (fun C16 r16 => (bd (f_X4_release r16 C16) (fun C19 _ => (f_X0_loadRow_3 u1 u2 u3 k n (v4 + 1) C19))))) (k (v4) C))
def f_X0_loadRow (a1 : Int) (a2 : Int) (a3 : Int) (C : Mem) : Option (Mem × Int) :=
  (f_X0_loadRow_3 (a1) (a2) (a3) (fun (v4_e3 : Int) (C_e3 : Mem) => (bd (f_X0_fillLeaves (a1) (a2) (a3) (up (up C_e3 1 4 (0)) 1 5 (1))) (fun C48 r48 => (cLt 0 (r48) (bd (f_X0_shareWithLast (r48) C48) (fun C61 _ => (bd (f_X0_coverLeaves (r48) C61) (fun C67 _ => (some (C67, 0)))))) (some (C48, 0)))))) FU (0) C)
def f_X7_run_28 (k : Int → Int → Mem → Option (Mem × Int)) : Nat → Int → Int → Mem → Option (Mem × Int)
  | 0, _, _, _ => none
  | n + 1, v2, v3, C => (cLt (v3) (120) (bd (f_X5_hasMore C) (fun C38 r38 => (cEq (r38) 0 (k (v2) (v3) C38) (bd (f_X5_readCommand C38) (fun C48 r48 => (cEq (r48) 0 (k (v2) (v3) C48) (jn ((fun (x4_175 : Int) (C_175 : Mem) => (cEq (x4_175) 0 (f_X7_run_28 k n (v2 + 1) (v3 + 1) C_175) (f_X7_run_28 k n (v2 + 0) (v3 + 1) C_175))) : Int → Mem → Option (Mem × Int)) (fun j175 => (cEq (C48 4 6) 0 (bd (f_X5_number (0) C48) (fun C83 r83 => (bd (f_X0_putKey 4 (r83) C83) (fun C86 r86 => (jn ((fun (s0_99 : Int) => (j175 (s0_99) C86)) : Int → Option (Mem × Int)) (fun j99 => (cEq (r86) (-3) (j99 (1)) (j99 (0))))))))) (cEq (C48 4 6) (1) (bd (f_X0_takeKey 4 C48) (fun C126 r126 => (jn ((fun (s0_139 : Int) => (j175 (s0_139) C126)) : Int → Option (Mem × Int)) (fun j139 => (cEq (r126) (-9) (j139 (1)) (j139 (0))))))) (bd (f_X5_number (0) C48) (fun C153 r153 => (bd (f_X5_number (1) C153) (fun C161 r161 => (bd (f_X5_number (2) C161) (fun C169 r169 => (bd (f_X0_loadRow (r153) (r161) (r169) C169) (fun C172 _ => (j175 (0) C172))))))))))))))))))) (k (v2) (v3) C))
def f_X7_run (C : Mem) : Option (Mem × Int) :=
  (bd (f_X5_firstFault C) (fun C4 r4 => (cLt (r4) 0 (bd (f_X5_rewind C4) (fun C23 _ => (f_X7_run_28 (fun (v2_e28 : Int) (v3_e28 : Int) (C_e28 : Mem) => (some ((up C_e28 4 1 (0)), v2_e28))) FU (0) (0) C23))) (some (C4, (-10) - r4)))))
def f_X7_isSpelled_15 (u0 : Int) (u1 : Int) (k : Int → Int → Mem → Option (Mem × Int)) : Nat → Int → Int → Mem → Option (Mem × Int)
  | 0, _, _, _ => none
  | n + 1, v2, v3, C => (cLt (v3) (u1) (f_X7_isSpelled_15 u0 u1 k n (v2 * 26) (v3 + 1) C) (k (v2) (v3) C))
def f_X7_isSpelled (a0 : Int) (a1 : Int) (C : Mem) : Option (Mem × Int) :=
  (bd (f_X7_isWithin (a1) (1) (5) C) (fun C3 r3 => (cEq (r3) 0 (some (C3, 0)) (f_X7_isSpelled_15 (a0) (a1) (fun (v2_e15 : Int) (v3_e15 : Int) (C_e15 : Mem) => (bd (f_X7_isWithin (a0) (0) (v2_e15 - 1) C_e15) (fun C36 r36 => (bo (r36) (some (C36, r36)))))) FU (1) (0) C3))))
def f_X7_put (a1 : Int) (a2 : Int) (a3 : Int) (C : Mem) : Option (Mem × Int) :=
  (bd (f_X7_isSpelled (a1) (a2) C) (fun C2 r2 => (cEq (r2) 0 (some (C2, -1)) (bd (f_X7_isByte (a3) C2) (fun C9 r9 => (cEq (r9) 0 (some (C9, -1)) (bd (f_X3_spell 0 (a1) (a2) C9) (fun C23 _ => (bd (f_X0_putKey 0 (a3) C23) (fun C35 r35 => (some (C35, r35))))))))))))
def f_X7_take (a1 : Int) (a2 : Int) (C : Mem) : Option (Mem × Int) :=
  (bd (f_X7_isSpelled (a1) (a2) C) (fun C2 r2 => (cEq (r2) 0 (some (C2, -1)) (bd (f_X3_spell 0 (a1) (a2) C2) (fun C16 _ => (bd (f_X0_takeKey 0 C16) (fun C27 r27 => (some (C27, r27)))))))))
def f_X7_load (a1 : Int) (a2 : Int) (a3 : Int) (C : Mem) : Option (Mem × Int) :=
  (bd (f_X7_isWithin (a1) (0) (17575) C) (fun C5 r5 => (cEq (r5) 0 (some (C5, -1)) (bd (f_X7_isWithin (a2) (1) (99) C5) (fun C15 r15 => (cEq (r15) 0 (some (C15, -1)) (bd (f_X7_isWithin (a3) (1) (60) C15) (fun C25 r25 => (cEq (r25) 0 (some (C25, -1)) (bd (f_X7_endsInTime (a1) (a2) (a3) C25) (fun C36 r36 => (cEq (r36) 0 (some (C36, -1)) (bd (f_X0_loadRow (a1) (a2) (a3) C36) (fun C51 _ => (some (C51, C51 1 5))))))))))))))))
def f_X7_find (a1 : Int) (a2 : Int) (C : Mem) : Option (Mem × Int) :=
  (bd (f_X7_isSpelled (a1) (a2) C) (fun C2 r2 => (cEq (r2) 0 (some (C2, -1)) (bd (f_X3_spell 0 (a1) (a2) C2) (fun C16 _ => (bd (f_X6_goDown 0 C16) (fun C27 _ => (bd (f_X6_pageOn ((C27 1 5) - 1) C27) (fun C43 r43 => (bd (f_X4_entriesBelow r43 0 (0) C43) (fun C53 r53 => (bd (f_X4_isEntry r43 (r53) 0 C53) (fun C65 r65 => (cEq (r65) 0 (some (C65, -9)) (bd (f_X4_tail r43 (r53) C65) (fun C74 r74 => (some (C74, r74))))))))))))))))))
def f_X4_letterOf (a0 : Nat) (a1 : Int) (a2 : Int) (C : Mem) : Option (Mem × Int) :=
  (bd (f_X4_offset a0 (a1) C) (fun C2 r2 => (cLt (a2) 0 (some (C2, 0)) (bd (f_X4_at a0 (r2) C2) (fun C13 r13 => (cLt (a2) (r13) (bd (f_X4_at a0 ((r2 + 1) + a2) C13) (fun C25 r25 => (some (C25, r25)))) (some (C13, 0))))))))
def f_X4_entriesThatBegin_15 (u0 : Nat) (u1 : Nat) (u2 : Int) (u3 : Int) (k : Int → Mem → Option (Mem × Int)) : Nat → Int → Mem → Option (Mem × Int)
  | 0, _, _ => none
  | n + 1, v4, C => (cLt (v4) (C (10 + 2 * u1) 1) (bd (f_X4_letterOf u0 (u3) (v4) C) (fun C28 r28 => (bd (f_X3_at u1 (v4) C28) (fun C34 r34 => (cEq (r28) (r34) (f_X4_entriesThatBegin_15 u0 u1 u2 u3 k n (v4 + 1) C34) (k (v4) C34)))))) (k (v4) C))
def f_X4_entriesThatBegin_4 (u0 : Nat) (u1 : Nat) (k : Int → Int → Mem → Option (Mem × Int)) : Nat → Int → Int → Mem → Option (Mem × Int)
  | 0, _, _, _ => none
  | n + 1, v2, v3, C => (bd (f_X4_entries u0 C) (fun C6 r6 => (cLt (v3) (r6) (f_X4_entriesThatBegin_15 u0 u1 (v2) (v3) (fun (v4_e15 : Int) (C_e15 : Mem) => (cEq (v4_e15) (C_e15 (10 + 2 * u1) 1) (f_X4_entriesThatBegin_4 u0 u1 k n (v2 + 1) (v3 + 1) C_e15) (f_X4_entriesThatBegin_4 u0 u1 k n (v2) (v3 + 1) C_e15))) FU (0) C6) (k (v2) (v3) C6))))
def f_X4_entriesThatBegin (a0 : Nat) (a1 : Nat) (C : Mem) : Option (Mem × Int) :=
  (f_X4_entriesThatBegin_4 a0 a1 (fun (v2_e4 : Int) (v3_e4 : Int) (C_e4 : Mem) => (some (C_e4, v2_e4))) FU (0) (0) C)
def f_X7_rank_34 (u3 : Int) (k : Int → Int → Mem → Option (Mem × Int)) : Nat → Int → Int → Mem → Option (Mem × Int)
  | 0, _, _, _ => none
  | n + 1, v4, v5, C => (cLt (v5) (32) (bd (f_X6_pageOf (v5) C) (fun C47 r47 => (bd (f_X4_sort r47 C47) (fun C54 r54 => (cEq (r54) (1) (cEq (u3) 0 (bd (f_X4_entriesBelow r47 0 (0) C54) (fun C74 r74 => (f_X7_rank_34 u3 k n (v4 + r74) (v5 + 1) C74))) (bd (f_X4_entriesThatBegin r47 0 C54) (fun C86 r86 => (f_X7_rank_34 u3 k n (v4 + r86) (v5 + 1) C86)))) (f_X7_rank_34 u3 k n (v4) (v5 + 1) C54)))))) (k (v4) (v5) C))
def f_X7_rank (a1 : Int) (a2 : Int) (a3 : Int) (C : Mem) : Option (Mem × Int) :=
  (bd (f_X7_isSpelled (a1) (a2) C) (fun C2 r2 => (cEq (r2) 0 (some (C2, -1)) (bd (f_X7_isWithin (a3) (0) (1) C2) (fun C11 r11 => (cEq (r11) 0 (some (C11, -1)) (bd (f_X3_spell 0 (a1) (a2) C11) (fun C25 _ => (f_X7_rank_34 (a3) (fun (v4_e34 : Int) (v5_e34 : Int) (C_e34 : Mem) => (some (C_e34, v4_e34))) FU (0) (0) C25)))))))))
def f_X7_path (a1 : Int) (a2 : Int) (a3 : Int) (C : Mem) : Option (Mem × Int) :=
  (bd (f_X7_isSpelled (a1) (a2) C) (fun C2 r2 => (cEq (r2) 0 (some (C2, -1)) (cLt (a3) 0 (some (C2, -1)) (cLt (a3) (C2 1 5) (bd (f_X3_spell 0 (a1) (a2) C2) (fun C34 _ => (bd (f_X6_goDown 0 C34) (fun C45 _ => (bd (f_X6_numberOn (a3) C45) (fun C53 r53 => (some (C53, r53)))))))) (some (C2, -9)))))))
def f_X6_firstLeaf_7 (k : Int → Int → Mem → Option (Mem × Int)) : Nat → Int → Int → Mem → Option (Mem × Int)
  | 0, _, _, _ => none
  | n + 1, v1, v2, C => (cLt (v2) (C 1 5) (bd (f_X6_pageOf (v1) C) (fun C17 r17 => (bd (f_X4_link r17 C17) (fun C20 r20 => (f_X6_firstLeaf_7 k n (r20) (v2 + 1) C20))))) (k (v1) (v2) C))
def f_X6_firstLeaf (C : Mem) : Option (Mem × Int) :=
  (f_X6_firstLeaf_7 (fun (v1_e7 : Int) (v2_e7 : Int) (C_e7 : Mem) => (some (C_e7, v1_e7))) FU (C 1 4) (1) C)
def f_X6_placeOfKey_10 (k : Int → Int → Int → Mem → Option (Mem × Int)) : Nat → Int → Int → Int → Mem → Option (Mem × Int)
  | 0, _, _, _, _ => none
  | n + 1, v2, v3, v4, C => (cLt (v4) (32) (cLt (v3) 0 (k (v2) (v3) (v4) C) (cLt (v2) 0 (k (v2) (v3) (v4) C) (bd (f_X6_pageOf (v3) C) (fun C27 r27 => (bd (f_X4_entries r27 C27) (fun C35 r35 => (cLt (v2) (r35) (some (C35, (v3 * 64) + v2)) (bd (f_X4_entries r27 C35) (fun C51 r51 => (bd (f_X4_link r27 C51) (fun C58 r58 => (f_X6_placeOfKey_10 k n (v2 - r51) (r58 - 1) (v4 + 1) C58)))))))))))) (k (v2) (v3) (v4) C))
def f_X6_placeOfKey (a1 : Int) (C : Mem) : Option (Mem × Int) :=
  (bd (f_X6_firstLeaf C) (fun C3 r3 => (f_X6_placeOfKey_10 (fun (v2_e10 : Int) (v3_e10 : Int) (v4_e10 : Int) (C_e10 : Mem) => (some (C_e10, -1))) FU (a1) (r3) (0) C3)))
def f_X7_letter (a1 : Int) (a2 : Int) (C : Mem) : Option (Mem × Int) :=
  (bd (f_X6_placeOfKey (a1) C) (fun C5 r5 => (cLt (r5) 0 (some (C5, -1)) (bd (f_X7_isWithin (a2) (0) (7) C5) (fun C17 r17 => (cEq (r17) 0 (some (C17, -1)) (dv (r5) (bd (f_X6_pageOf (r5 / 64) C17) (fun C33 r33 => (dv (r5) (bd (f_X4_letters r33 (r5 % 64) C33) (fun C49 r49 => (cLt (a2) (r49) (bd (f_X4_letterOf r33 (r5 % 64) (a2) C49) (fun C60 r60 => (some (C60, r60)))) (some (C49, -9)))))))))))))))
def f_X7_value (a1 : Int) (C : Mem) : Option (Mem × Int) :=
  (bd (f_X6_placeOfKey (a1) C) (fun C5 r5 => (cLt (r5) 0 (some (C5, -1)) (dv (r5) (bd (f_X6_pageOf (r5 / 64) C5) (fun C25 r25 => (dv (r5) (bd (f_X4_tail r25 (r5 % 64) C25) (fun C32 r32 => (some (C32, r32)))))))))))
def f_X7_isPage (a0 : Int) (C : Mem) : Option (Mem × Int) :=
  (bd (f_X7_isWithin (a0) (0) (31) C) (fun C4 r4 => (bo (r4) (some (C4, r4)))))
def f_X7_page (a1 : Int) (a2 : Int) (C : Mem) : Option (Mem × Int) :=
  (bd (f_X7_isPage (a1) C) (fun C1 r1 => (cEq (r1) 0 (some (C1, -1)) (bd (f_X6_pageOf (a1) C1) (fun C14 r14 => (cEq (a2) 0 (bd (f_X4_sort r14 C14) (fun C49 r49 => (some (C49, r49)))) (cEq (a2) 1 (bd (f_X4_entries r14 C14) (fun C54 r54 => (some (C54, r54)))) (cEq (a2) 2 (bd (f_X4_link r14 C14) (fun C59 r59 => (some (C59, r59)))) (cEq (a2) 3 (bd (f_X4_used r14 C14) (fun C64 r64 => (some (C64, r64)))) (some (C14, -1)))))))))))
def f_X7_byteAt (a1 : Int) (a2 : Int) (C : Mem) : Option (Mem × Int) :=
  (bd (f_X7_isPage (a1) C) (fun C1 r1 => (cEq (r1) 0 (some (C1, -1)) (bd (f_X7_isWithin (a2) (0) (63) C1) (fun C11 r11 => (cEq (r11) 0 (some (C11, -1)) (bd (f_X6_pageOf (a1) C11) (fun C22 r22 => (bd (f_X4_at r22 (a2) C22) (fun C26 r26 => (some (C26, r26))))))))))))
def f_X1_comeTo (a1 : Int) (C : Mem) : Option (Mem × Int) :=
  (cLt (a1) 0 (some (C, 0)) (cLt (a1) (((32 : Nat) : Int)) (ix (a1) 32 (some ((up C (23) (a1).toNat (1)), 0))) (some (C, 0))))
def f_X1_isLast (a1 : Int) (C : Mem) : Option (Mem × Int) :=
  (cLt (a1) ((C 1 5) - 1) (some (C, 0)) (some (C, 1)))
def f_X1_isReadable_43 (u0 : Nat) (u1 : Int) (u2 : Int) (u3 : Int) (k : Int → Mem → Option (Mem × Int)) : Nat → Int → Mem → Option (Mem × Int)
  | 0, _, _ => none
  | n + 1, v4, C => (cLt (u3) (v4) (k (v4) C) (bd (f_X4_at u0 (u1 + v4) C) (fun C54 r54 => (bd (f_X7_isLetter (r54) C54) (fun C57 r57 => (cEq (r57) 0 (some (C57, 0)) (f_X1_isReadable_43 u0 u1 u2 u3 k n (v4 + 1) C57)))))))
def f_X1_isReadable_4 (u0 : Nat) (k : Int → Int → Mem → Option (Mem × Int)) : Nat → Int → Int → Mem → Option (Mem × Int)
  | 0, _, _, _ => none
  | n + 1, v1, v2, C => (bd (f_X4_entries u0 C) (fun C6 r6 => (cLt (v2) (r6) (bd (f_X4_at u0 (v1) C6) (fun C14 r14 => (bd (f_X7_isWithin (r14) (1) (8) C14) (fun C22 r22 => (cEq (r22) 0 (some (C22, 0)) (cLt (64) ((v1 + r14) + 2) (some (C22, 0)) (f_X1_isReadable_43 u0 (v1) (v2) (r14) (fun (v4_e43 : Int) (C_e43 : Mem) => (f_X1_isReadable_4 u0 k n (v1 + (r14 + 2)) (v2 + 1) C_e43)) FU (1) C22))))))) (k (v1) (v2) C6))))
def f_X1_isReadable_85 (u0 : Nat) (k : Int → Mem → Option (Mem × Int)) : Nat → Int → Mem → Option (Mem × Int)
  | 0, _, _ => none
  | n + 1, v2, C => (cLt (v2) (64) (bd (f_X4_at u0 (v2) C) (fun C93 r93 => (cEq (r93) 0 (f_X1_isReadable_85 u0 k n (v2 + 1) C93) (k (v2) C93)))) (k (v2) C))
def f_X1_isReadable (a0 : Nat) (C : Mem) : Option (Mem × Int) :=
  (f_X1_isReadable_4 a0 (fun (v1_e4 : Int) (v2_e4 : Int) (C_e4 : Mem) => (f_X1_isReadable_85 a0 (fun (v2_e85 : Int) (C_e85 : Mem) => (cLt (v2_e85) (64) (some (C_e85, 0)) (some (C_e85, 1)))) FU (v1_e4) C_e4)) FU (3) (0) C)
def f_X1_rises_2 (u1 : Nat) (k : Int → Mem → Option (Mem × Int)) : Nat → Int → Mem → Option (Mem × Int)
  | 0, _, _ => none
  | n + 1, v2, C => (bd (f_X4_entries u1 C) (fun C4 r4 => (cLt (v2) (r4) (bd (f_X4_readKey u1 (v2 - 1) 3 C4) (fun C18 _ => (bd (f_X4_compare u1 (v2) 3 C18) (fun C27 r27 => (cLt 0 (r27) (f_X1_rises_2 u1 k n (v2 + 1) C27) (some (C27, 0))))))) (k (v2) C4))))
def f_X1_rises (a1 : Nat) (C : Mem) : Option (Mem × Int) :=
  (f_X1_rises_2 a1 (fun (v2_e2 : Int) (C_e2 : Mem) => (some (C_e2, 1))) FU (1) C)
def f_X1_isBetween (a1 : Nat) (a2 : Int) (a3 : Int) (C : Mem) : Option (Mem × Int) :=
  (jn ((fun (C_41 : Mem) => (cEq (a3) (-1) (some (C_41, 1)) (dv (a3) (bd (f_X6_pageOf (a3 / 64) C_41) (fun C54 r54 => (dv (a3) (bd (f_X4_readKey r54 (a3 % 64) 3 C54) (fun C65 _ => (bd (f_X4_entries a1 C65) (fun C70 r70 => (bd (f_X4_compare a1 (r70 - 1) 3 C70) (fun C79 r79 => (cLt (r79) 0 (some (C79, 1)) (some (C79, 0))))))))))))))) : Mem → Option (Mem × Int)) (fun j41 => (cEq (a2) (-1) (j41 C) (dv (a2) (bd (f_X6_pageOf (a2 / 64) C) (fun C13 r13 => (dv (a2) (bd (f_X4_readKey r13 (a2 % 64) 3 C13) (fun C24 _ => (bd (f_X4_compare a1 (0) 3 C24) (fun C33 r33 => (cLt (r33) 0 (some (C33, 0)) (j41 C33)))))))))))))
def f_X1_hasWrongChild_43 (u1 : Nat) (u2 : Int) (u3 : Int) (k : Int → Mem → Option (Mem × Int)) : Nat → Int → Mem → Option (Mem × Int)
  | 0, _, _ => none
  | n + 1, v4, C => (cLt (v4) (u2) (bd (f_X4_child u1 (v4) C) (fun C52 r52 => (cEq (r52) (u3) (some (C52, 1)) (f_X1_hasWrongChild_43 u1 u2 u3 k n (v4 + 1) C52)))) (k (v4) C))
def f_X1_hasWrongChild_2 (u1 : Nat) (k : Int → Mem → Option (Mem × Int)) : Nat → Int → Mem → Option (Mem × Int)
  | 0, _, _ => none
  | n + 1, v2, C => (bd (f_X4_entries u1 C) (fun C4 r4 => (cLt (r4) (v2) (k (v2) C4) (bd (f_X4_child u1 (v2) C4) (fun C12 r12 => (cLt (r12) 0 (some (C12, 1)) (cLt (r12) (((32 : Nat) : Int)) (ix (r12) 32 (cEq (C12 (23) (r12).toNat) 0 (f_X1_hasWrongChild_43 u1 (v2) (r12) (fun (v4_e43 : Int) (C_e43 : Mem) => (f_X1_hasWrongChild_2 u1 k n (v2 + 1) C_e43)) FU (0) C12) (some (C12, 1)))) (some (C12, 1)))))))))
def f_X1_hasWrongChild (a1 : Nat) (C : Mem) : Option (Mem × Int) :=
  (f_X1_hasWrongChild_2 a1 (fun (v2_e2 : Int) (C_e2 : Mem) => (some (C_e2, 0))) FU (0) C)
def f_X1_whyWrong (a1 : Nat) (a2 : Int) (a3 : Int) (a4 : Int) (C : Mem) : Option (Mem × Int) :=
  (bd (f_X4_sort a1 C) (fun C1 r1 => (bd (f_X1_isLast (a2) C1) (fun C6 r6 => (jn ((fun (s1_17 : Int) => (cEq (r1) (s1_17) (jn ((fun (s0_39 : Int) (C_39 : Mem) => (bd (f_X4_entries a1 C_39) (fun C42 r42 => (jn (((bd (f_X1_isReadable a1 C42) (fun C54 r54 => (cEq (r54) 0 (some (C54, 2)) (bd (f_X1_rises a1 C54) (fun C64 r64 => (cEq (r64) 0 (some (C64, 3)) (bd (f_X4_entries a1 C64) (fun C73 r73 => (jn ((fun (C_92 : Mem) => (bd (f_X4_sort a1 C_92) (fun C93 r93 => (cEq (r93) (2) (bd (f_X1_hasWrongChild a1 C93) (fun C102 r102 => (cEq (r102) 0 (some (C102, 0)) (some (C102, 5))))) (some (C93, 0)))))) : Mem → Option (Mem × Int)) (fun j92 => (cLt 0 (r73) (bd (f_X1_isBetween a1 (a3) (a4) C73) (fun C84 r84 => (cEq (r84) 0 (some (C84, 4)) (j92 C84)))) (j92 C73))))))))))))) : Option (Mem × Int)) (fun j53 => (cEq (r42) 0 (cEq (s0_39) 0 (some (C42, 2)) (j53)) (j53))))))) : Int → Mem → Option (Mem × Int)) (fun j39 => (jn ((fun (C_38 : Mem) => (j39 (0) C_38)) : Mem → Option (Mem × Int)) (fun j38 => (cEq (a2) 0 (bd (f_X4_sort a1 C6) (fun C27 r27 => (cEq (r27) (1) (j39 (1) C27) (j38 C27)))) (j38 C6)))))) (some (C6, 1)))) : Int → Option (Mem × Int)) (fun j17 => (cEq (r6) 0 (j17 (2)) (j17 (1)))))))))
def f_X1_noteLeaf (a1 : Int) (C : Mem) : Option (Mem × Int) :=
  (cLt (C 3 4) (((32 : Nat) : Int)) (ix (C 3 4) 32 (some ((up (up C (24) (C 3 4).toNat (a1)) 3 4 (((up C (24) (C 3 4).toNat (a1)) 3 4) + 1)), 0))) (some (C, 0)))
def f_X1_wrongNext_2 (k : Int → Mem → Option (Mem × Int)) : Nat → Int → Mem → Option (Mem × Int)
  | 0, _, _ => none
  | n + 1, v1, C => (cLt (v1) (C 3 4) (cLt (v1) (((32 : Nat) : Int)) (jn ((fun (s0_54 : Int) => (ix (v1) 32 (bd (f_X6_pageOf (C (24) (v1).toNat) C) (fun C65 r65 => (bd (f_X4_link r65 C65) (fun C68 r68 => (cEq (r68) (s0_54) (f_X1_wrongNext_2 k n (v1 + 1) C68) (ix (v1) 32 (some (C68, 600 + (C68 (24) (v1).toNat))))))))))) : Int → Option (Mem × Int)) (fun j54 => (jn (((j54 (0))) : Option (Mem × Int)) (fun j53 => (cLt (v1 + 1) (C 3 4) (cLt (v1 + 1) (((32 : Nat) : Int)) (ix (v1 + 1) 32 (j54 ((C (24) (v1 + 1).toNat) + 1))) (j53)) (j53)))))) (k (v1) C)) (k (v1) C))
def f_X1_wrongNext (C : Mem) : Option (Mem × Int) :=
  (f_X1_wrongNext_2 (fun (v1_e2 : Int) (C_e2 : Mem) => (some (C_e2, 0))) FU (0) C)
def f_X1_isBlank_2 (u0 : Nat) (k : Int → Mem → Option (Mem × Int)) : Nat → Int → Mem → Option (Mem × Int)
  | 0, _, _ => none
  | n + 1, v1, C => (cLt (v1) (64) (bd (f_X4_at u0 (v1) C) (fun C10 r10 => (cEq (r10) 0 (f_X1_isBlank_2 u0 k n (v1 + 1) C10) (some (C10, 0))))) (k (v1) C))
def f_X1_isBlank (a0 : Nat) (C : Mem) : Option (Mem × Int) :=
  (f_X1_isBlank_2 a0 (fun (v1_e2 : Int) (C_e2 : Mem) => (some (C_e2, 1))) FU (0) C)
def f_X1_strayPage_2 (k : Int → Mem → Option (Mem × Int)) : Nat → Int → Mem → Option (Mem × Int)
  | 0, _, _ => none
  | n + 1, v1, C => (cLt (v1) (32) (ix (v1) 32 (cEq (C (23) (v1).toNat) 0 (bd (f_X6_pageOf (v1) C) (fun C22 r22 => (bd (f_X1_isBlank r22 C22) (fun C25 r25 => (cEq (r25) 0 (some (C25, 700 + v1)) (f_X1_strayPage_2 k n (v1 + 1) C25)))))) (f_X1_strayPage_2 k n (v1 + 1) C))) (k (v1) C))
def f_X1_strayPage (C : Mem) : Option (Mem × Int) :=
  (f_X1_strayPage_2 (fun (v1_e2 : Int) (C_e2 : Mem) => (some (C_e2, 0))) FU (0) C)
def f_X1_walkChildren_13 (fw : Int → Int → Int → Int → Mem → Option (Mem × Int)) (u1 : Int) (u2 : Int) (u3 : Int) (u4 : Int) (u5 : Nat) (k : Int → Mem → Option (Mem × Int)) : Nat → Int → Mem → Option (Mem × Int)
  | 0, _, _ => none
  | n + 1, v6, C => (bd (f_X4_entries u5 C) (fun C17 r17 => (cLt (r17) (v6) (k (v6) C17) (jn ((fun (s0_41 : Int) => (bd (f_X4_entries u5 C17) (fun C47 r47 => (jn ((fun (s0_65 : Int) => (bd (f_X4_child u5 (v6) C47) (fun C72 r72 => (bd (fw (r72) (u2 + 1) (s0_41) (s0_65) C72) (fun C82 r82 => (cEq (r82) 0 (f_X1_walkChildren_13 fw u1 u2 u3 u4 u5 k n (v6 + 1) C82) (some (C82, r82)))))))) : Int → Option (Mem × Int)) (fun j65 => (cLt (v6) (r47) (j65 ((u1 * 64) + v6)) (j65 (u4)))))))) : Int → Option (Mem × Int)) (fun j41 => (cLt 0 (v6) (j41 (((u1 * 64) + v6) - 1)) (j41 (u3))))))))
def f_X1_walkChildren (fw : Int → Int → Int → Int → Mem → Option (Mem × Int)) (a1 : Int) (a2 : Int) (a3 : Int) (a4 : Int) (C : Mem) : Option (Mem × Int) :=
  (bd (f_X6_pageOf (a1) C) (fun C5 r5 => (f_X1_walkChildren_13 fw (a1) (a2) (a3) (a4) r5 (fun (v6_e13 : Int) (C_e13 : Mem) => (some (C_e13, 0))) FU (0) C5)))
def f_X1_walkB (fw : Int → Int → Int → Int → Mem → Option (Mem × Int)) (a1 : Int) (a2 : Int) (a3 : Int) (a4 : Int) (C : Mem) : Option (Mem × Int) :=
  (bd (f_X6_pageOf (a1) C) (fun C5 r5 => (bd (f_X1_comeTo (a1) C5) (fun C12 _ => (bd (f_X1_whyWrong r5 (a2) (a3) (a4) C12) (fun C22 r22 => (cEq (r22) 0 (bd (f_X1_isLast (a2) C22) (fun C42 r42 => (cEq (r42) 0 (bd (f_X1_walkChildren fw (a1) (a2) (a3) (a4) C42) (fun C61 r61 => (some (C61, r61)))) (bd (f_X1_noteLeaf (a1) C42) (fun C50 _ => (some (C50, 0))))))) (some (C22, (100 * r22) + a1)))))))))
def f_X1_walk : Nat → Int → Int → Int → Int → Mem → Option (Mem × Int)
  | 0 => fun _ _ _ _ _ => none
  | n + 1 => f_X1_walkB (f_X1_walk n)
def f_X1_firstWrong_2 (k : Int → Mem → Option (Mem × Int)) : Nat → Int → Mem → Option (Mem × Int)
  | 0, _, _ => none
  | n + 1, v1, C => (cLt (v1) (32) (ix (v1) 32 (f_X1_firstWrong_2 k n (v1 + 1) (up C (23) (v1).toNat (0)))) (k (v1) C))
def f_X1_firstWrong (C : Mem) : Option (Mem × Int) :=
  (f_X1_firstWrong_2 (fun (v1_e2 : Int) (C_e2 : Mem) => (bd (f_X1_walk 40 ((up C_e2 3 4 (0)) 1 4) (0) (-1) (-1) (up C_e2 3 4 (0))) (fun C37 r37 => (jn ((fun (x1_50 : Int) (C_50 : Mem) => (cEq (x1_50) 0 (bd (f_X1_strayPage C_50) (fun C55 r55 => (some (C55, r55)))) (some (C_50, x1_50)))) : Int → Mem → Option (Mem × Int)) (fun j50 => (cEq (r37) 0 (bd (f_X1_wrongNext C37) (fun C46 r46 => (j50 (r46) C46))) (j50 (r37) C37))))))) FU (0) C)
def f_X7_check (a1 : Int) (a2 : Int) (a3 : Int) (C : Mem) : Option (Mem × Int) :=
  (bd (f_X7_isPage (a1) C) (fun C1 r1 => (cEq (r1) 0 (some (C1, -1)) (bd (f_X7_isWithin (a2) (0) (63) C1) (fun C11 r11 => (cEq (r11) 0 (some (C11, -1)) (bd (f_X7_isByte (a3) C11) (fun C18 r18 => (cEq (r18) 0 (some (C18, -1)) (bd (f_X6_pageOf (a1) C18) (fun C31 r31 => (bd (f_X4_at r31 (a2) C31) (fun C39 r39 => (bd (f_X4_set r31 (a2) (a3) C39) (fun C48 _ => (bd (f_X1_firstWrong C48) (fun C55 r55 => (bd (f_X4_set r31 (a2) (r39) C55) (fun C65 _ => (some (C65, r55)))))))))))))))))))))
def f_X6_keys_4 (k : Int → Int → Mem → Option (Mem × Int)) : Nat → Int → Int → Mem → Option (Mem × Int)
  | 0, _, _, _ => none
  | n + 1, v1, v2, C => (cLt (v2) (32) (bd (f_X6_pageOf (v2) C) (fun C13 r13 => (bd (f_X4_sort r13 C13) (fun C16 r16 => (cEq (r16) (1) (bd (f_X6_pageOf (v2) C16) (fun C25 r25 => (bd (f_X4_entries r25 C25) (fun C28 r28 => (f_X6_keys_4 k n (v1 + r28) (v2 + 1) C28))))) (f_X6_keys_4 k n (v1 + 0) (v2 + 1) C16)))))) (k (v1) (v2) C))
def f_X6_keys (C : Mem) : Option (Mem × Int) :=
  (f_X6_keys_4 (fun (v1_e4 : Int) (v2_e4 : Int) (C_e4 : Mem) => (some (C_e4, v1_e4))) FU (0) (0) C)
def f_X6_usedOfAll_4 (k : Int → Int → Mem → Option (Mem × Int)) : Nat → Int → Int → Mem → Option (Mem × Int)
  | 0, _, _, _ => none
  | n + 1, v1, v2, C => (cLt (v2) (32) (bd (f_X6_pageOf (v2) C) (fun C13 r13 => (bd (f_X4_used r13 C13) (fun C16 r16 => (f_X6_usedOfAll_4 k n (v1 + r16) (v2 + 1) C16))))) (k (v1) (v2) C))
def f_X6_usedOfAll (C : Mem) : Option (Mem × Int) :=
  (f_X6_usedOfAll_4 (fun (v1_e4 : Int) (v2_e4 : Int) (C_e4 : Mem) => (some (C_e4, v1_e4))) FU (0) (0) C)
def f_X6_separatorLetters_4 (k : Int → Int → Mem → Option (Mem × Int)) : Nat → Int → Int → Mem → Option (Mem × Int)
  | 0, _, _, _ => none
  | n + 1, v1, v2, C => (cLt (v2) (32) (bd (f_X6_pageOf (v2) C) (fun C12 r12 => (bd (f_X4_sort r12 C12) (fun C17 r17 => (cEq (r17) (2) (bd (f_X4_used r12 C17) (fun C26 r26 => (bd (f_X4_entries r12 C26) (fun C33 r33 => (f_X6_separatorLetters_4 k n (v1 + ((r26 - 3) - (2 * r33))) (v2 + 1) C33))))) (f_X6_separatorLetters_4 k n (v1) (v2 + 1) C17)))))) (k (v1) (v2) C))
def f_X6_separatorLetters (C : Mem) : Option (Mem × Int) :=
  (f_X6_separatorLetters_4 (fun (v1_e4 : Int) (v2_e4 : Int) (C_e4 : Mem) => (some (C_e4, v1_e4))) FU (0) (0) C)
def f_X7_count (a1 : Int) (C : Mem) : Option (Mem × Int) :=
  (cEq (a1) 0 (bd (f_X6_keys C) (fun C52 r52 => (some (C52, r52)))) (cEq (a1) 1 (some (C, C 1 5)) (cEq (a1) 2 (some (C, C 1 4)) (cEq (a1) 3 (bd (f_X6_pagesOfSort (0) C) (fun C77 r77 => (some (C77, r77)))) (cEq (a1) 4 (bd (f_X6_usedOfAll C) (fun C85 r85 => (some (C85, r85)))) (cEq (a1) 5 (bd (f_X6_pagesOfSort (1) C) (fun C94 r94 => (some (C94, r94)))) (cEq (a1) 6 (bd (f_X6_firstLeaf C) (fun C102 r102 => (some (C102, r102)))) (cEq (a1) 7 (bd (f_X6_separatorLetters C) (fun C110 r110 => (some (C110, r110)))) (some (C, -1))))))))))
def f_X7_digest_25 (u3 : Int) (u4 : Nat) (k : Int → Int → Mem → Option (Mem × Int)) : Nat → Int → Int → Mem → Option (Mem × Int)
  | 0, _, _, _ => none
  | n + 1, v1, v5, C => (cLt (v5) (64) (bd (f_X4_at u4 (v5) C) (fun C41 r41 => (rg (r41) 0 (f_X7_digest_25 u3 u4 k n ((31 * v1) + r41) (v5 + 1) C41)))) (k (v1) (v5) C))
def f_X7_digest_6 (k : Int → Int → Mem → Option (Mem × Int)) : Nat → Int → Int → Mem → Option (Mem × Int)
  | 0, _, _, _ => none
  | n + 1, v1, v3, C => (cLt (v3) (32) (bd (f_X6_pageOf (v3) C) (fun C17 r17 => (f_X7_digest_25 (v3) r17 (fun (v1_e25 : Int) (v5_e25 : Int) (C_e25 : Mem) => (f_X7_digest_6 k n (v1_e25) (v3 + 1) C_e25)) FU (v1) (0) C17))) (k (v1) (v3) C))
def f_X7_digest (C : Mem) : Option (Mem × Int) :=
  (f_X7_digest_6 (fun (v1_e6 : Int) (v3_e6 : Int) (C_e6 : Mem) => (some (C_e6, v1_e6))) FU (17) (0) C)
def f_X2_copyFrom_2 (u0 : Nat) (k : Int → Mem → Option (Mem × Int)) : Nat → Int → Mem → Option (Mem × Int)
  | 0, _, _ => none
  | n + 1, v2, C => (cLt (v2) (((2048 : Nat) : Int)) (dv (v2) (bd (f_X6_pageOf (v2 / 64) C) (fun C21 r21 => (dv (v2) (bd (f_X4_at r21 (v2 % 64) C21) (fun C28 r28 => (ix (v2) 2048 (f_X2_copyFrom_2 u0 k n (v2 + 1) (up C28 (8 + u0) (v2).toNat (r28)))))))))) (k (v2) C))
def f_X2_copyFrom (a0 : Nat) (C : Mem) : Option (Mem × Int) :=
  (f_X2_copyFrom_2 a0 (fun (v2_e2 : Int) (C_e2 : Mem) => (some ((up (up (up C_e2 (6 + a0) 1 (C_e2 1 4)) (6 + a0) 2 ((up C_e2 (6 + a0) 1 (C_e2 1 4)) 1 5)) (6 + a0) 3 (1)), 0))) FU (0) C)
def f_X7_keep (a1 : Int) (C : Mem) : Option (Mem × Int) :=
  (cLt (a1) 0 (some (C, -1)) (cLt (a1) (((2 : Nat) : Int)) (ix (a1) 2 (bd (f_X2_copyFrom ((a1).toNat) C) (fun C25 _ => (bd (f_X6_keys C25) (fun C32 r32 => (some (C32, r32))))))) (some (C, -1))))
def f_X2_copyTo_2 (u0 : Nat) (k : Int → Mem → Option (Mem × Int)) : Nat → Int → Mem → Option (Mem × Int)
  | 0, _, _ => none
  | n + 1, v2, C => (cLt (v2) (((2048 : Nat) : Int)) (dv (v2) (bd (f_X6_pageOf (v2 / 64) C) (fun C16 r16 => (dv (v2) (ix (v2) 2048 (bd (f_X4_set r16 (v2 % 64) (C16 (8 + u0) (v2).toNat) C16) (fun C29 _ => (f_X2_copyTo_2 u0 k n (v2 + 1) C29)))))))) (k (v2) C))
def f_X2_copyTo (a0 : Nat) (C : Mem) : Option (Mem × Int) :=
  (f_X2_copyTo_2 a0 (fun (v2_e2 : Int) (C_e2 : Mem) => (some ((up (up C_e2 1 4 (C_e2 (6 + a0) 1)) 1 5 ((up C_e2 1 4 (C_e2 (6 + a0) 1)) (6 + a0) 2)), 0))) FU (0) C)
def f_X7_back (a1 : Int) (C : Mem) : Option (Mem × Int) :=
  (cLt (a1) 0 (some (C, -1)) (cLt (a1) (((2 : Nat) : Int)) (ix (a1) 2 (cEq (C (6 + (a1).toNat) 3) 0 (some (C, -2)) (ix (a1) 2 (bd (f_X2_copyTo ((a1).toNat) C) (fun C40 _ => (bd (f_X6_keys C40) (fun C47 r47 => (some (C47, r47))))))))) (some (C, -1))))
def f_X7_times (a1 : Int) (C : Mem) : Option (Mem × Int) :=
  (cEq (a1) 0 (some (C, C 4 1)) (cEq (a1) 1 (some (C, C 2 4)) (cEq (a1) 2 (some (C, C 2 5)) (cEq (a1) 3 (some (C, C 2 6)) (some (C, -1))))))
def f_X8_in (a0 : Int) (a1 : Int) (a2 : Int) (C : Mem) : Option (Mem × Int) :=
  (cLt (a0) (a1) (some (C, 0)) (cLt (a2) (a0) (some (C, 0)) (some (C, 1))))
def f_X8_at (a1 : Int) (a2 : Int) (C : Mem) : Option (Mem × Int) :=
  (ix ((64 * a1) + a2) 2048 (some (C, C (96) ((64 * a1) + a2).toNat)))
def f_X8_clears_2 (u1 : Int) (k : Int → Mem → Option (Mem × Int)) : Nat → Int → Mem → Option (Mem × Int)
  | 0, _, _ => none
  | n + 1, v2, C => (cLt (v2) (64) (ix ((64 * u1) + v2) 2048 (f_X8_clears_2 u1 k n (v2 + 1) (up C (96) ((64 * u1) + v2).toNat (0)))) (k (v2) C))
def f_X8_clears (a1 : Int) (C : Mem) : Option (Mem × Int) :=
  (f_X8_clears_2 (a1) (fun (v2_e2 : Int) (C_e2 : Mem) => (some (C_e2, 0))) FU (0) C)
def f_X8_lowestFree_2 (k : Int → Mem → Option (Mem × Int)) : Nat → Int → Mem → Option (Mem × Int)
  | 0, _, _ => none
  | n + 1, v1, C => (bd (f_X8_at (v1) (0) C) (fun C5 r5 => (cEq (r5) 0 (k (v1) C5) (f_X8_lowestFree_2 k n (v1 + 1) C5))))
def f_X8_lowestFree (C : Mem) : Option (Mem × Int) :=
  (f_X8_lowestFree_2 (fun (v1_e2 : Int) (C_e2 : Mem) => (some (C_e2, v1_e2))) FU (0) C)
def f_X8_freeMany_4 (k : Int → Int → Mem → Option (Mem × Int)) : Nat → Int → Int → Mem → Option (Mem × Int)
  | 0, _, _, _ => none
  | n + 1, v1, v2, C => (cLt (v2) (32) (bd (f_X8_at (v2) (0) C) (fun C14 r14 => (cEq (r14) 0 (f_X8_freeMany_4 k n (v1 + 1) (v2 + 1) C14) (f_X8_freeMany_4 k n (v1 + 0) (v2 + 1) C14)))) (k (v1) (v2) C))
def f_X8_freeMany (C : Mem) : Option (Mem × Int) :=
  (f_X8_freeMany_4 (fun (v1_e4 : Int) (v2_e4 : Int) (C_e4 : Mem) => (some (C_e4, v1_e4))) FU (0) (0) C)
def f_X8_startOf_5 (u1 : Int) (u2 : Int) (k : Int → Int → Mem → Option (Mem × Int)) : Nat → Int → Int → Mem → Option (Mem × Int)
  | 0, _, _, _ => none
  | n + 1, v3, v4, C => (cLt (v4) (u2) (bd (f_X8_at (u1) (v3) C) (fun C15 r15 => (f_X8_startOf_5 u1 u2 k n (v3 + (r15 + 2)) (v4 + 1) C15))) (k (v3) (v4) C))
def f_X8_startOf (a1 : Int) (a2 : Int) (C : Mem) : Option (Mem × Int) :=
  (f_X8_startOf_5 (a1) (a2) (fun (v3_e5 : Int) (v4_e5 : Int) (C_e5 : Mem) => (some (C_e5, v3_e5))) FU (3) (0) C)
def f_X8_usedOf (a1 : Int) (C : Mem) : Option (Mem × Int) :=
  (bd (f_X8_at (a1) (0) C) (fun C3 r3 => (cEq (r3) 0 (some (C3, 0)) (bd (f_X8_at (a1) (1) C3) (fun C18 r18 => (bd (f_X8_startOf (a1) (r18) C18) (fun C21 r21 => (some (C21, r21)))))))))
def f_X8_childOf (a1 : Int) (a2 : Int) (C : Mem) : Option (Mem × Int) :=
  (cEq (a2) 0 (bd (f_X8_at (a1) (2) C) (fun C7 r7 => (some (C7, r7)))) (bd (f_X8_startOf (a1) (a2 - 1) C) (fun C16 r16 => (bd (f_X8_at (a1) (r16) C16) (fun C26 r26 => (bd (f_X8_at (a1) ((r16 + r26) + 1) C26) (fun C32 r32 => (some (C32, r32)))))))))
def f_X8_bytesOf_5 (u2 : Int) (k : Int → Int → Mem → Option (Mem × Int)) : Nat → Int → Int → Mem → Option (Mem × Int)
  | 0, _, _, _ => none
  | n + 1, v3, v4, C => (cLt (v4) (u2) (ix (v4) 48 (f_X8_bytesOf_5 u2 k n (v3 + ((C (97) (v4).toNat) + 2)) (v4 + 1) C)) (k (v3) (v4) C))
def f_X8_bytesOf (a1 : Int) (a2 : Int) (C : Mem) : Option (Mem × Int) :=
  (f_X8_bytesOf_5 (a2) (fun (v3_e5 : Int) (v4_e5 : Int) (C_e5 : Mem) => (some (C_e5, v3_e5))) FU (0) (a1) C)
def f_X8_comeOut_36 (u1 : Int) (u2 : Int) (u3 : Int) (u4 : Int) (k : Int → Mem → Option (Mem × Int)) : Nat → Int → Mem → Option (Mem × Int)
  | 0, _, _ => none
  | n + 1, v5, C => (cLt (v5) (u4) (bd (f_X8_at (u1) ((u2 + 1) + v5) C) (fun C65 r65 => (ix ((8 * (C 95 6)) + v5) 384 (f_X8_comeOut_36 u1 u2 u3 u4 k n (v5 + 1) (up C65 (98) ((8 * (C 95 6)) + v5).toNat (r65)))))) (k (v5) C))
def f_X8_comeOut_4 (u1 : Int) (k : Int → Int → Mem → Option (Mem × Int)) : Nat → Int → Int → Mem → Option (Mem × Int)
  | 0, _, _, _ => none
  | n + 1, v2, v3, C => (bd (f_X8_at (u1) (1) C) (fun C8 r8 => (cLt (v3) (r8) (bd (f_X8_at (u1) (v2) C8) (fun C17 r17 => (ix (C17 95 6) 48 (f_X8_comeOut_36 (u1) (v2) (v3) (r17) (fun (v5_e36 : Int) (C_e36 : Mem) => (bd (f_X8_at (u1) ((v2 + 1) + r17) C_e36) (fun C91 r91 => (ix (C_e36 95 6) 48 (f_X8_comeOut_4 u1 k n (v2 + (r17 + 2)) (v3 + 1) (up (up C91 (99) (C_e36 95 6).toNat (r91)) 95 6 (((up C91 (99) (C_e36 95 6).toNat (r91)) 95 6) + 1))))))) FU (0) (up C17 (97) (C17 95 6).toNat (r17)))))) (k (v2) (v3) C8))))
def f_X8_comeOut (a1 : Int) (C : Mem) : Option (Mem × Int) :=
  (f_X8_comeOut_4 (a1) (fun (v2_e4 : Int) (v3_e4 : Int) (C_e4 : Mem) => (some (C_e4, 0))) FU (3) (0) C)
def f_X8_goBack_79 (u5 : Int) (u6 : Int) (u7 : Int) (k : Int → Mem → Option (Mem × Int)) : Nat → Int → Mem → Option (Mem × Int)
  | 0, _, _ => none
  | n + 1, v8, C => (ix (u7) 48 (cLt (v8) (C (97) (u7).toNat) (ix ((8 * u7) + v8) 384 (ix ((u6 + 1) + v8) 2048 (f_X8_goBack_79 u5 u6 u7 k n (v8 + 1) (up C (96) ((u6 + 1) + v8).toNat (C (98) ((8 * u7) + v8).toNat))))) (k (v8) C)))
def f_X8_goBack_55 (u5 : Int) (k : Int → Int → Mem → Option (Mem × Int)) : Nat → Int → Int → Mem → Option (Mem × Int)
  | 0, _, _, _ => none
  | n + 1, v6, v7, C => (cLt (v7) (u5) (ix (v7) 48 (ix (v6) 2048 (f_X8_goBack_79 (u5) (v6) (v7) (fun (v8_e79 : Int) (C_e79 : Mem) => (ix (v7) 48 (ix (v7) 48 (ix ((v6 + 1) + (C_e79 (97) (v7).toNat)) 2048 (ix (v7) 48 (f_X8_goBack_55 u5 k n (v6 + (((up C_e79 (96) ((v6 + 1) + (C_e79 (97) (v7).toNat)).toNat (C_e79 (99) (v7).toNat)) (97) (v7).toNat) + 2)) (v7 + 1) (up C_e79 (96) ((v6 + 1) + (C_e79 (97) (v7).toNat)).toNat (C_e79 (99) (v7).toNat)))))))) FU (0) (up C (96) (v6).toNat (C (97) (v7).toNat))))) (k (v6) (v7) C))
def f_X8_goBack (a1 : Int) (a2 : Int) (a3 : Int) (a4 : Int) (a5 : Int) (C : Mem) : Option (Mem × Int) :=
  (bd (f_X8_clears (a1) C) (fun C2 _ => (ix (64 * a1) 2048 (ix ((64 * a1) + 1) 2048 (ix ((64 * a1) + 2) 2048 (f_X8_goBack_55 (a5) (fun (v6_e55 : Int) (v7_e55 : Int) (C_e55 : Mem) => (some (C_e55, 0))) FU ((64 * a1) + 3) (a4) (up (up (up C2 (96) (64 * a1).toNat (a2)) (96) ((64 * a1) + 1).toNat (a5 - a4)) (96) ((64 * a1) + 2).toNat (a3))))))))
def f_X8_copies_26 (u1 : Int) (u2 : Int) (k : Int → Mem → Option (Mem × Int)) : Nat → Int → Mem → Option (Mem × Int)
  | 0, _, _ => none
  | n + 1, v3, C => (cLt (v3) (8) (ix ((8 * u1) + v3) 384 (ix ((8 * u2) + v3) 384 (f_X8_copies_26 u1 u2 k n (v3 + 1) (up C (98) ((8 * u2) + v3).toNat (C (98) ((8 * u1) + v3).toNat))))) (k (v3) C))
def f_X8_copies (a1 : Int) (a2 : Int) (C : Mem) : Option (Mem × Int) :=
  (ix (a1) 48 (ix (a2) 48 (ix (a1) 48 (ix (a2) 48 (f_X8_copies_26 (a1) (a2) (fun (v3_e26 : Int) (C_e26 : Mem) => (some (C_e26, 0))) FU (0) (up (up C (97) (a2).toNat (C (97) (a1).toNat)) (99) (a2).toNat ((up C (97) (a2).toNat (C (97) (a1).toNat)) (99) (a1).toNat)))))))
def f_X8_comesIn_6 (u1 : Int) (u2 : Nat) (u3 : Int) (u4 : Int) (k : Int → Mem → Option (Mem × Int)) : Nat → Int → Mem → Option (Mem × Int)
  | 0, _, _ => none
  | n + 1, v5, C => (cLt (u1) (v5) (bd (f_X8_copies (v5 - 1) (v5) C) (fun C19 _ => (f_X8_comesIn_6 u1 u2 u3 u4 k n (v5 + (-1)) C19))) (k (v5) C))
def f_X8_comesIn_46 (u1 : Int) (u2 : Nat) (u3 : Int) (k : Int → Mem → Option (Mem × Int)) : Nat → Int → Mem → Option (Mem × Int)
  | 0, _, _ => none
  | n + 1, v5, C => (cLt (v5) (u3) (ix (v5) 8 (ix ((8 * u1) + v5) 384 (f_X8_comesIn_46 u1 u2 u3 k n (v5 + 1) (up C (98) ((8 * u1) + v5).toNat (C (100 + u2) (v5).toNat))))) (k (v5) C))
def f_X8_comesIn (a1 : Int) (a2 : Nat) (a3 : Int) (a4 : Int) (C : Mem) : Option (Mem × Int) :=
  (f_X8_comesIn_6 (a1) a2 (a3) (a4) (fun (v5_e6 : Int) (C_e6 : Mem) => (ix (a1) 48 (ix (a1) 48 (f_X8_comesIn_46 (a1) a2 (a3) (fun (v5_e46 : Int) (C_e46 : Mem) => (some ((up C_e46 95 6 ((C_e46 95 6) + 1)), 0))) FU (0) (up (up C_e6 (97) (a1).toNat (a3)) (99) (a1).toNat (a4)))))) FU (C 95 6) C)
def f_X8_goesOut_4 (k : Int → Mem → Option (Mem × Int)) : Nat → Int → Mem → Option (Mem × Int)
  | 0, _, _ => none
  | n + 1, v2, C => (cLt (v2) (C 95 6) (bd (f_X8_copies (v2) (v2 - 1) C) (fun C17 _ => (f_X8_goesOut_4 k n (v2 + 1) C17))) (k (v2) C))
def f_X8_goesOut (a1 : Int) (C : Mem) : Option (Mem × Int) :=
  (f_X8_goesOut_4 (fun (v2_e4 : Int) (C_e4 : Mem) => (some ((up C_e4 95 6 ((C_e4 95 6) - 1)), 0))) FU (a1 + 1) C)
def f_X8_half_12 (u1 : Int) (k : Int → Mem → Option (Mem × Int)) : Nat → Int → Mem → Option (Mem × Int)
  | 0, _, _ => none
  | n + 1, v2, C => (bd (f_X8_bytesOf (0) (v2) C) (fun C16 r16 => (cLt (2 * r16) (u1) (f_X8_half_12 u1 k n (v2 + 1) C16) (k (v2) C16))))
def f_X8_half (C : Mem) : Option (Mem × Int) :=
  (bd (f_X8_bytesOf (0) (C 95 6) C) (fun C6 r6 => (f_X8_half_12 (r6) (fun (v2_e12 : Int) (C_e12 : Mem) => (some (C_e12, v2_e12))) FU (0) C6)))
def f_X8_shortest_2 (u1 : Int) (k : Int → Mem → Option (Mem × Int)) : Nat → Int → Mem → Option (Mem × Int)
  | 0, _, _ => none
  | n + 1, v2, C => (ix (u1 - 1) 48 (cLt (v2) (C (97) (u1 - 1).toNat) (ix (u1) 48 (cLt (v2) (C (97) (u1).toNat) (ix ((8 * (u1 - 1)) + v2) 384 (ix ((8 * u1) + v2) 384 (cEq (C (98) ((8 * (u1 - 1)) + v2).toNat) (C (98) ((8 * u1) + v2).toNat) (f_X8_shortest_2 u1 k n (v2 + 1) C) (k (v2) C)))) (k (v2) C))) (k (v2) C)))
def f_X8_shortest (a1 : Int) (C : Mem) : Option (Mem × Int) :=
  (f_X8_shortest_2 (a1) (fun (v2_e2 : Int) (C_e2 : Mem) => (some (C_e2, v2_e2 + 1))) FU (0) C)
def f_X8_goesUp_7 (u1 : Int) (u2 : Int) (k : Int → Mem → Option (Mem × Int)) : Nat → Int → Mem → Option (Mem × Int)
  | 0, _, _ => none
  | n + 1, v3, C => (cLt (v3) (u2) (ix ((8 * u1) + v3) 384 (ix (v3) 8 (f_X8_goesUp_7 u1 u2 k n (v3 + 1) (up C (100) (v3).toNat (C (98) ((8 * u1) + v3).toNat))))) (k (v3) C))
def f_X8_goesUp (a1 : Int) (a2 : Int) (C : Mem) : Option (Mem × Int) :=
  (f_X8_goesUp_7 (a1) (a2) (fun (v3_e7 : Int) (C_e7 : Mem) => (some (C_e7, 0))) FU (0) (up C 95 10 (a2)))
def f_X8_setUp (a1 : Int) (a2 : Int) (C : Mem) : Option (Mem × Int) :=
  (jn ((fun (s2_21 : Int) (C_21 : Mem) => (bd (f_X8_goesUp (a2) (s2_21) C_21) (fun C21 _ => (some (C21, 0))))) : Int → Mem → Option (Mem × Int)) (fun j21 => (cEq (a1) (1) (bd (f_X8_shortest (a2) C) (fun C9 r9 => (j21 (r9) C9))) (ix (a2) 48 (j21 (C (97) (a2).toNat) C)))))
def f_X8_share (a1 : Int) (a2 : Int) (a3 : Int) (a4 : Int) (a5 : Int) (C : Mem) : Option (Mem × Int) :=
  (bd (f_X8_half C) (fun C1 r1 => (bd (f_X8_setUp (a3) (r1) C1) (fun C10 _ => (cEq (a3) (1) (bd (f_X8_goBack (a1) (1) (a2 + 1) (0) (r1) C10) (fun C27 _ => (bd (f_X8_goBack (a2) (1) (a5) (r1) (C27 95 6) C27) (fun C41 _ => (some (C41, 0)))))) (ix (r1) 48 (bd (f_X8_goBack (a1) (2) (a4) (0) (r1) C10) (fun C64 _ => (bd (f_X8_goBack (a2) (2) (C10 (99) (r1).toNat) (r1 + 1) (C64 95 6) C64) (fun C80 _ => (some (C80, 0))))))))))))
def f_X8_spells_12 (k : Int → Int → Mem → Option (Mem × Int)) : Nat → Int → Int → Mem → Option (Mem × Int)
  | 0, _, _, _ => none
  | n + 1, v3, v4, C => (cLt (v4) 0 (k (v3) (v4) C) (dv (v3) (ix (v4) 8 (dv (v3) (f_X8_spells_12 k n (v3 / 26) (v4 + (-1)) (up C (101) (v4).toNat (97 + (v3 % 26))))))))
def f_X8_spells (a1 : Int) (a2 : Int) (C : Mem) : Option (Mem × Int) :=
  (f_X8_spells_12 (fun (v3_e12 : Int) (v4_e12 : Int) (C_e12 : Mem) => (some (C_e12, 0))) FU (a1) (a2 - 1) (up C 95 12 (a2)))
def f_X8_isSpelled_4 (u0 : Int) (u1 : Int) (k : Int → Int → Mem → Option (Mem × Int)) : Nat → Int → Int → Mem → Option (Mem × Int)
  | 0, _, _, _ => none
  | n + 1, v2, v3, C => (cLt (v3) (u1) (cLt (v3) (5) (f_X8_isSpelled_4 u0 u1 k n (v2 * 26) (v3 + 1) C) (k (v2) (v3) C)) (k (v2) (v3) C))
def f_X8_isSpelled (a0 : Int) (a1 : Int) (C : Mem) : Option (Mem × Int) :=
  (f_X8_isSpelled_4 (a0) (a1) (fun (v2_e4 : Int) (v3_e4 : Int) (C_e4 : Mem) => (bd (f_X8_in (a1) (1) (5) C_e4) (fun C28 r28 => (cEq (r28) 0 (some (C28, 0)) (bd (f_X8_in (a0) (0) (v2_e4 - 1) C28) (fun C39 r39 => (cEq (r39) 0 (some (C39, 0)) (some (C39, 1))))))))) FU (1) (0) C)
def f_X8_against_10 (u1 : Int) (u2 : Int) (u3 : Int) (k : Int → Mem → Option (Mem × Int)) : Nat → Int → Mem → Option (Mem × Int)
  | 0, _, _ => none
  | n + 1, v4, C => (cLt (v4) (C 95 12) (cLt (v4) (u3) (ix (v4) 8 (bd (f_X8_at (u1) ((u2 + 1) + v4) C) (fun C40 r40 => (cEq (C (101) (v4).toNat) (r40) (f_X8_against_10 u1 u2 u3 k n (v4 + 1) C40) (k (v4) C40))))) (k (v4) C)) (k (v4) C))
def f_X8_against (a1 : Int) (a2 : Int) (C : Mem) : Option (Mem × Int) :=
  (bd (f_X8_at (a1) (a2) C) (fun C3 r3 => (f_X8_against_10 (a1) (a2) (r3) (fun (v4_e10 : Int) (C_e10 : Mem) => (cLt (v4_e10) (C_e10 95 12) (cLt (v4_e10) (r3) (ix (v4_e10) 8 (bd (f_X8_at (a1) ((a2 + 1) + v4_e10) C_e10) (fun C82 r82 => (some (C82, (C_e10 (101) (v4_e10).toNat) - r82))))) (some (C_e10, (C_e10 95 12) - r3))) (some (C_e10, (C_e10 95 12) - r3)))) FU (0) C3)))
def f_X8_goesDown_37 (u1 : Int) (u2 : Int) (k : Int → Int → Mem → Option (Mem × Int)) : Nat → Int → Int → Mem → Option (Mem × Int)
  | 0, _, _, _ => none
  | n + 1, v3, v4, C => (bd (f_X8_at (u1) (1) C) (fun C41 r41 => (cLt (v3) (r41) (bd (f_X8_against (u1) (v4) C41) (fun C51 r51 => (cLt (r51) 0 (k (v3) (v4) C51) (bd (f_X8_at (u1) (v4) C51) (fun C63 r63 => (f_X8_goesDown_37 u1 u2 k n (v3 + 1) (v4 + (r63 + 2)) C63)))))) (k (v3) (v4) C41))))
def f_X8_goesDown_7 (k : Int → Int → Mem → Option (Mem × Int)) : Nat → Int → Int → Mem → Option (Mem × Int)
  | 0, _, _, _ => none
  | n + 1, v1, v2, C => (cLt (v2) (C 95 2) (ix (v2) 32 (cLt (v2) (((up C (102) (v2).toNat (v1)) 95 2) - 1) (f_X8_goesDown_37 (v1) (v2) (fun (v3_e37 : Int) (v4_e37 : Int) (C_e37 : Mem) => (ix (v2) 32 (bd (f_X8_childOf (v1) (v3_e37) (up C_e37 (103) (v2).toNat (v3_e37))) (fun C87 r87 => (f_X8_goesDown_7 k n (r87) (v2 + 1) C87))))) FU (0) (3) (up C (102) (v2).toNat (v1))) (f_X8_goesDown_7 k n (v1) (v2 + 1) (up C (102) (v2).toNat (v1))))) (k (v1) (v2) C))
def f_X8_goesDown (C : Mem) : Option (Mem × Int) :=
  (f_X8_goesDown_7 (fun (v1_e7 : Int) (v2_e7 : Int) (C_e7 : Mem) => (some (C_e7, 0))) FU (C 95 1) (0) C)
def f_X8_placeIn_4 (u1 : Int) (k : Int → Int → Mem → Option (Mem × Int)) : Nat → Int → Int → Mem → Option (Mem × Int)
  | 0, _, _, _ => none
  | n + 1, v2, v3, C => (bd (f_X8_at (u1) (1) C) (fun C8 r8 => (cLt (v2) (r8) (bd (f_X8_against (u1) (v3) C8) (fun C17 r17 => (cLt 0 (r17) (bd (f_X8_at (u1) (v3) C17) (fun C27 r27 => (f_X8_placeIn_4 u1 k n (v2 + 1) (v3 + (r27 + 2)) C27))) (k (v2) (v3) C17)))) (k (v2) (v3) C8))))
def f_X8_placeIn (a1 : Int) (C : Mem) : Option (Mem × Int) :=
  (f_X8_placeIn_4 (a1) (fun (v2_e4 : Int) (v3_e4 : Int) (C_e4 : Mem) => (some (C_e4, v2_e4))) FU (0) (3) C)
def f_X8_isAt (a1 : Int) (a2 : Int) (C : Mem) : Option (Mem × Int) :=
  (bd (f_X8_at (a1) (1) C) (fun C4 r4 => (cLt (a2) (r4) (bd (f_X8_startOf (a1) (a2) C4) (fun C15 r15 => (bd (f_X8_against (a1) (r15) C15) (fun C18 r18 => (cEq (r18) 0 (some (C18, 1)) (some (C18, 0))))))) (some (C4, 0)))))
def f_X8_tellAt (a1 : Int) (a2 : Int) (C : Mem) : Option (Mem × Int) :=
  (bd (f_X8_startOf (a1) (a2) C) (fun C3 r3 => (bd (f_X8_at (a1) (r3) C3) (fun C16 r16 => (some (C16, (((64 * a1) + r3) + r16) + 1))))))
def f_X8_valueOf (C : Mem) : Option (Mem × Int) :=
  (bd (f_X8_goesDown C) (fun C1 _ => (ix ((C1 95 2) - 1) 32 (bd (f_X8_placeIn (C1 (102) ((C1 95 2) - 1).toNat) C1) (fun C18 r18 => (bd (f_X8_isAt (C1 (102) ((C1 95 2) - 1).toNat) (r18) C18) (fun C25 r25 => (cEq (r25) 0 (some (C25, -9)) (bd (f_X8_tellAt (C1 (102) ((C1 95 2) - 1).toNat) (r18) C25) (fun C38 r38 => (ix (r38) 2048 (some (C38, C38 (96) (r38).toNat)))))))))))))
def f_X8_newRoot (a1 : Int) (a2 : Int) (C : Mem) : Option (Mem × Int) :=
  (bd (f_X8_lowestFree C) (fun C2 r2 => (bd (f_X8_comesIn (0) 0 ((up (up (up C2 95 1 (r2)) 95 2 (((up C2 95 1 (r2)) 95 2) + 1)) 95 6 (0)) 95 10) (a2) (up (up (up C2 95 1 (r2)) 95 2 (((up C2 95 1 (r2)) 95 2) + 1)) 95 6 (0))) (fun C34 _ => (bd (f_X8_goBack (C34 95 1) (2) (a1) (0) (1) C34) (fun C46 _ => (some (C46, 0))))))))
def f_X8_putKey_104 (k : Int → Int → Mem → Option (Mem × Int)) : Nat → Int → Int → Mem → Option (Mem × Int)
  | 0, _, _, _ => none
  | n + 1, v2, v3, C => (bd (f_X8_bytesOf (0) (C 95 6) C) (fun C110 r110 => (cLt (61) (r110) (bd (f_X8_at (v3) (0) C110) (fun C121 r121 => (bd (f_X8_lowestFree C121) (fun C127 r127 => (bd (f_X8_at (v3) (2) C127) (fun C141 r141 => (bd (f_X8_at (v3) (2) C141) (fun C147 r147 => (bd (f_X8_share (v3) (r127) (r121) (r141) (r147) C147) (fun C150 _ => (cEq (v2) 0 (bd (f_X8_newRoot (v3) (r127) (up C150 95 3 ((C150 95 3) + 1))) (fun C171 _ => (some (C171, -9)))) (ix (v2 + (-1)) 32 (bd (f_X8_comeOut ((up C150 95 3 ((C150 95 3) + 1)) (102) (v2 + (-1)).toNat) (up (up C150 95 3 ((C150 95 3) + 1)) 95 6 (0))) (fun C194 _ => (ix (v2 + (-1)) 32 (bd (f_X8_comesIn (C194 (103) (v2 + (-1)).toNat) 0 (C194 95 10) (r127) C194) (fun C214 _ => (f_X8_putKey_104 k n (v2 + (-1)) ((up C150 95 3 ((C150 95 3) + 1)) (102) (v2 + (-1)).toNat) C214)))))))))))))))))) (k (v2) (v3) C110))))
def f_X8_putKey (a1 : Int) (C : Mem) : Option (Mem × Int) :=
  (bd (f_X8_goesDown C) (fun C1 _ => (ix ((C1 95 2) - 1) 32 (bd (f_X8_placeIn (C1 (102) ((C1 95 2) - 1).toNat) C1) (fun C20 r20 => (bd (f_X8_isAt (C1 (102) ((C1 95 2) - 1).toNat) (r20) C20) (fun C29 r29 => (cEq (r29) 0 (bd (f_X8_freeMany C29) (fun C66 r66 => (cLt (C66 95 2) (r66) (bd (f_X8_comeOut (C1 (102) ((C1 95 2) - 1).toNat) (up C66 95 6 (0))) (fun C86 _ => (bd (f_X8_comesIn (r20) 1 (C86 95 12) (a1) C86) (fun C101 _ => (f_X8_putKey_104 (fun (v2_e104 : Int) (v3_e104 : Int) (C_e104 : Mem) => (bd (f_X8_at (v3_e104) (0) C_e104) (fun C225 r225 => (bd (f_X8_at (v3_e104) (2) C225) (fun C231 r231 => (bd (f_X8_goBack (v3_e104) (r225) (r231) (0) (C231 95 6) C231) (fun C239 _ => (some (C239, -9))))))))) FU ((C1 95 2) - 1) (C1 (102) ((C1 95 2) - 1).toNat) C101))))) (some (C66, -3))))) (bd (f_X8_tellAt (C1 (102) ((C1 95 2) - 1).toNat) (r20) C29) (fun C43 r43 => (ix (r43) 2048 (bd (f_X8_tellAt (C1 (102) ((C1 95 2) - 1).toNat) (r20) C43) (fun C57 r57 => (ix (r57) 2048 (some ((up C57 (96) (r57).toNat (a1)), C43 (96) (r43).toNat))))))))))))))))
def f_X8_put (a1 : Int) (a2 : Int) (a3 : Int) (C : Mem) : Option (Mem × Int) :=
  (bd (f_X8_isSpelled (a1) (a2) C) (fun C2 r2 => (cEq (r2) 0 (some (C2, -1)) (bd (f_X8_in (a3) (0) (255) C2) (fun C13 r13 => (cEq (r13) 0 (some (C13, -1)) (bd (f_X8_spells (a1) (a2) C13) (fun C24 _ => (bd (f_X8_putKey (a3) C24) (fun C29 r29 => (some (C29, r29))))))))))))
def f_X8_mends_108 (u2 : Int) (u4 : Int) (u5 : Int) (u6 : Int) (u7 : Int) (u8 : Int) (k : Int → Mem → Option (Mem × Int)) : Nat → Int → Mem → Option (Mem × Int)
  | 0, _, _ => none
  | n + 1, v9, C => (bd (f_X8_at (u2) (u8) C) (fun C114 r114 => (cLt (v9) (r114) (bd (f_X8_at (u2) ((u8 + 1) + v9) C114) (fun C135 r135 => (ix (v9) 8 (f_X8_mends_108 u2 u4 u5 u6 u7 u8 k n (v9 + 1) (up C135 (100) (v9).toNat (r135)))))) (k (v9) C114))))
def f_X8_mends (a1 : Int) (C : Mem) : Option (Mem × Int) :=
  (ix (a1 - 1) 32 (bd (f_X8_at (C (102) (a1 - 1).toNat) (1) C) (fun C12 r12 => (cEq (r12) 0 (some (C12, 0)) (ix (a1 - 1) 32 (jn ((fun (s0_48 : Int) => (bd (f_X8_childOf (C (102) (a1 - 1).toNat) (s0_48) C12) (fun C54 r54 => (bd (f_X8_childOf (C (102) (a1 - 1).toNat) (s0_48 + 1) C54) (fun C65 r65 => (bd (f_X8_at (r54) (0) C65) (fun C74 r74 => (bd (f_X8_startOf (C (102) (a1 - 1).toNat) (s0_48) C74) (fun C83 r83 => (bd (f_X8_comeOut (r54) (up C83 95 6 (0))) (fun C96 _ => (jn ((fun (C_171 : Mem) => (bd (f_X8_comeOut (r65) C_171) (fun C174 _ => (bd (f_X8_bytesOf (0) (C174 95 6) C174) (fun C183 r183 => (cLt (61) (r183) (bd (f_X8_half C183) (fun C282 r282 => (bd (f_X8_setUp (r74) (r282) C282) (fun C285 _ => (bd (f_X8_usedOf (C (102) (a1 - 1).toNat) C285) (fun C290 r290 => (bd (f_X8_at (C (102) (a1 - 1).toNat) (r83) C290) (fun C297 r297 => (cLt (64) ((r290 - r297) + (C297 95 10)) (some (C297, 0)) (bd (f_X8_at (r54) (2) C297) (fun C322 r322 => (bd (f_X8_at (r65) (2) C322) (fun C329 r329 => (bd (f_X8_share (r54) (r65) (r74) (r322) (r329) C329) (fun C332 _ => (bd (f_X8_comeOut (C (102) (a1 - 1).toNat) (up C332 95 6 (0))) (fun C342 _ => (ix (s0_48) 48 (bd (f_X8_goesOut (s0_48) C342) (fun C357 _ => (bd (f_X8_comesIn (s0_48) 0 (C357 95 10) (C342 (99) (s0_48).toNat) C357) (fun C373 _ => (bd (f_X8_at (C (102) (a1 - 1).toNat) (2) C373) (fun C382 r382 => (bd (f_X8_goBack (C (102) (a1 - 1).toNat) (2) (r382) (0) (C382 95 6) C382) (fun C390 _ => (some ((up C390 95 5 ((C390 95 5) + 1)), 0)))))))))))))))))))))))))))) (jn ((fun (s3_219 : Int) (C_219 : Mem) => (bd (f_X8_goBack (r54) (r74) (s3_219) (0) (C_219 95 6) C_219) (fun C224 _ => (bd (f_X8_clears (r65) C224) (fun C230 _ => (bd (f_X8_comeOut (C (102) (a1 - 1).toNat) (up C230 95 6 (0))) (fun C240 _ => (bd (f_X8_goesOut (s0_48) C240) (fun C246 _ => (bd (f_X8_at (C (102) (a1 - 1).toNat) (2) C246) (fun C255 r255 => (bd (f_X8_goBack (C (102) (a1 - 1).toNat) (2) (r255) (0) (C255 95 6) C255) (fun C263 _ => (some ((up C263 95 4 ((C263 95 4) + 1)), 1))))))))))))))) : Int → Mem → Option (Mem × Int)) (fun j219 => (cEq (r74) (1) (bd (f_X8_at (r65) (2) C183) (fun C206 r206 => (j219 (r206) C206))) (bd (f_X8_at (r54) (2) C183) (fun C216 r216 => (j219 (r216) C216)))))))))))) : Mem → Option (Mem × Int)) (fun j171 => (cEq (r74) (2) (f_X8_mends_108 (C (102) (a1 - 1).toNat) (s0_48) (r54) (r65) (r74) (r83) (fun (v9_e108 : Int) (C_e108 : Mem) => (bd (f_X8_at (C (102) (a1 - 1).toNat) (r83) C_e108) (fun C158 r158 => (bd (f_X8_at (r65) (2) C158) (fun C165 r165 => (bd (f_X8_comesIn (C_e108 95 6) 0 (r158) (r165) C165) (fun C168 _ => (j171 C168)))))))) FU (0) C96) (j171 C96))))))))))))))) : Int → Option (Mem × Int)) (fun j48 => (cLt (C12 (103) (a1 - 1).toNat) (r12) (ix (a1 - 1) 32 (j48 (C12 (103) (a1 - 1).toNat))) (j48 (r12 - 1))))))))))
def f_X8_takeKey_81 (u4 : Int) (k : Int → Mem → Option (Mem × Int)) : Nat → Int → Mem → Option (Mem × Int)
  | 0, _, _ => none
  | n + 1, v1, C => (cLt 0 (v1) (ix (v1) 32 (bd (f_X8_usedOf (C (102) (v1).toNat) C) (fun C92 r92 => (cLt (r92) (32) (bd (f_X8_mends (v1) C92) (fun C102 r102 => (cEq (r102) 0 (k (v1) C102) (f_X8_takeKey_81 u4 k n (v1 + (-1)) C102)))) (k (v1) C92))))) (k (v1) C))
def f_X8_takeKey (C : Mem) : Option (Mem × Int) :=
  (bd (f_X8_goesDown C) (fun C1 _ => (ix ((C1 95 2) - 1) 32 (bd (f_X8_placeIn (C1 (102) ((C1 95 2) - 1).toNat) C1) (fun C20 r20 => (bd (f_X8_isAt (C1 (102) ((C1 95 2) - 1).toNat) (r20) C20) (fun C27 r27 => (cEq (r27) 0 (some (C27, -9)) (bd (f_X8_tellAt (C1 (102) ((C1 95 2) - 1).toNat) (r20) C27) (fun C43 r43 => (ix (r43) 2048 (bd (f_X8_comeOut (C1 (102) ((C1 95 2) - 1).toNat) (up C43 95 6 (0))) (fun C56 _ => (bd (f_X8_goesOut (r20) C56) (fun C61 _ => (bd (f_X8_at (C1 (102) ((C1 95 2) - 1).toNat) (2) C61) (fun C70 r70 => (bd (f_X8_goBack (C1 (102) ((C1 95 2) - 1).toNat) (1) (r70) (0) (C70 95 6) C70) (fun C78 _ => (f_X8_takeKey_81 (C43 (96) (r43).toNat) (fun (v1_e81 : Int) (C_e81 : Mem) => (bd (f_X8_at (C_e81 95 1) (0) C_e81) (fun C120 r120 => (cEq (r120) (2) (bd (f_X8_at (C120 95 1) (1) C120) (fun C133 r133 => (cEq (r133) 0 (bd (f_X8_at (C133 95 1) (2) C133) (fun C150 r150 => (bd (f_X8_clears (C133 95 1) (up C150 95 1 (r150))) (fun C159 _ => (some ((up C159 95 2 ((C159 95 2) - 1)), C43 (96) (r43).toNat)))))) (some (C133, C43 (96) (r43).toNat))))) (some (C120, C43 (96) (r43).toNat)))))) FU ((C1 95 2) - 1) C78))))))))))))))))))))
def f_X8_take (a1 : Int) (a2 : Int) (C : Mem) : Option (Mem × Int) :=
  (bd (f_X8_isSpelled (a1) (a2) C) (fun C2 r2 => (cEq (r2) 0 (some (C2, -1)) (bd (f_X8_spells (a1) (a2) C2) (fun C13 _ => (bd (f_X8_takeKey C13) (fun C17 r17 => (some (C17, r17)))))))))
def f_X8_isLoad (a0 : Int) (a1 : Int) (a2 : Int) (C : Mem) : Option (Mem × Int) :=
  (bd (f_X8_in (a0) (0) (17575) C) (fun C5 r5 => (cEq (r5) 0 (some (C5, 0)) (bd (f_X8_in (a1) (1) (99) C5) (fun C15 r15 => (cEq (r15) 0 (some (C15, 0)) (bd (f_X8_in (a2) (1) (60) C15) (fun C25 r25 => (cEq (r25) 0 (some (C25, 0)) (cLt (17575) (a0 + (a1 * (a2 - 1))) (some (C25, 0)) (some (C25, 1))))))))))))
def f_X8_loadsInner_24 (u1 : Int) (k : Int → Mem → Option (Mem × Int)) : Nat → Int → Mem → Option (Mem × Int)
  | 0, _, _ => none
  | n + 1, v2, C => (cLt (v2) (u1) (bd (f_X8_comeOut (v2 - 1) (up C 95 6 (0))) (fun C38 _ => (bd (f_X8_comeOut (v2) C38) (fun C48 _ => (bd (f_X8_shortest (C38 95 6) C48) (fun C55 r55 => (bd (f_X8_goesUp (C38 95 6) (r55) C55) (fun C58 _ => (bd (f_X8_comeOut ((up C58 95 6 (0)) 95 1) (up C58 95 6 (0))) (fun C71 _ => (bd (f_X8_comesIn (C71 95 6) 0 (C71 95 10) (v2) C71) (fun C88 _ => (bd (f_X8_goBack (C88 95 1) (2) (0) (0) (C88 95 6) C88) (fun C103 _ => (f_X8_loadsInner_24 u1 k n (v2 + 1) C103))))))))))))))) (k (v2) C))
def f_X8_loadsInner (a1 : Int) (C : Mem) : Option (Mem × Int) :=
  (bd (f_X8_goBack ((up (up C 95 1 (a1)) 95 2 (2)) 95 1) (2) (0) (0) (0) (up (up C 95 1 (a1)) 95 2 (2))) (fun C19 _ => (f_X8_loadsInner_24 (a1) (fun (v2_e24 : Int) (C_e24 : Mem) => (some (C_e24, 0))) FU (1) C19)))
def f_X8_loads_3 (u1 : Int) (u2 : Int) (u3 : Int) (k : Int → Mem → Option (Mem × Int)) : Nat → Int → Mem → Option (Mem × Int)
  | 0, _, _ => none
  | n + 1, v4, C => (cLt (v4) (32) (bd (f_X8_clears (v4) C) (fun C13 _ => (f_X8_loads_3 u1 u2 u3 k n (v4 + 1) C13))) (k (v4) C))
def f_X8_loads_53 (u1 : Int) (u2 : Int) (u3 : Int) (u4 : Int) (u5 : Int) (k : Int → Mem → Option (Mem × Int)) : Nat → Int → Mem → Option (Mem × Int)
  | 0, _, _ => none
  | n + 1, v6, C => (cLt (v6) (u3) (cLt (v6) ((12 * u5) + 12) (bd (f_X8_spells (u1 + (u2 * v6)) (3) C) (fun C80 _ => (bd (f_X8_comesIn (C80 95 6) 1 (3) (v6) C80) (fun C95 _ => (f_X8_loads_53 u1 u2 u3 u4 u5 k n (v6 + 1) C95))))) (k (v6) C)) (k (v6) C))
def f_X8_loads_34 (u1 : Int) (u2 : Int) (u3 : Int) (u4 : Int) (k : Int → Mem → Option (Mem × Int)) : Nat → Int → Mem → Option (Mem × Int)
  | 0, _, _ => none
  | n + 1, v5, C => (cLt (v5) (u4) (f_X8_loads_53 (u1) (u2) (u3) (u4) (v5) (fun (v6_e53 : Int) (C_e53 : Mem) => (jn ((fun (s3_125 : Int) => (bd (f_X8_goBack (v5) (1) (s3_125) (0) (C_e53 95 6) C_e53) (fun C130 _ => (f_X8_loads_34 u1 u2 u3 u4 k n (v5 + 1) C130)))) : Int → Option (Mem × Int)) (fun j125 => (cLt (v5) (u4 - 1) (j125 (v5 + 2)) (j125 (0)))))) FU (12 * v5) (up C 95 6 (0))) (k (v5) C))
def f_X8_loads (a1 : Int) (a2 : Int) (a3 : Int) (C : Mem) : Option (Mem × Int) :=
  (f_X8_loads_3 (a1) (a2) (a3) (fun (v4_e3 : Int) (C_e3 : Mem) => (dv (a3 + 11) (f_X8_loads_34 (a1) (a2) (a3) ((a3 + 11) / 12) (fun (v5_e34 : Int) (C_e34 : Mem) => (jn ((fun (C_194 : Mem) => (cLt (1) ((a3 + 11) / 12) (bd (f_X8_loadsInner ((a3 + 11) / 12) (up (up C_194 95 1 (0)) 95 2 (1))) (fun C213 _ => (some (C213, C213 95 2)))) (some ((up (up C_194 95 1 (0)) 95 2 (1)), (up (up C_194 95 1 (0)) 95 2 (1)) 95 2)))) : Mem → Option (Mem × Int)) (fun j194 => (cLt (1) ((a3 + 11) / 12) (bd (f_X8_usedOf (((a3 + 11) / 12) - 1) C_e34) (fun C150 r150 => (cLt (r150) (32) (bd (f_X8_comeOut (((a3 + 11) / 12) - 2) (up C150 95 6 (0))) (fun C168 _ => (bd (f_X8_comeOut (((a3 + 11) / 12) - 1) C168) (fun C176 _ => (bd (f_X8_share (((a3 + 11) / 12) - 2) (((a3 + 11) / 12) - 1) (1) (0) (0) C176) (fun C191 _ => (j194 C191))))))) (j194 C150)))) (j194 C_e34))))) FU (0) C_e3))) FU (0) C)
def f_X8_load (a1 : Int) (a2 : Int) (a3 : Int) (C : Mem) : Option (Mem × Int) :=
  (bd (f_X8_isLoad (a1) (a2) (a3) C) (fun C3 r3 => (cEq (r3) 0 (some (C3, -1)) (bd (f_X8_loads (a1) (a2) (a3) C3) (fun C13 r13 => (some (C13, r13)))))))
def f_X8_find (a1 : Int) (a2 : Int) (C : Mem) : Option (Mem × Int) :=
  (bd (f_X8_isSpelled (a1) (a2) C) (fun C2 r2 => (cEq (r2) 0 (some (C2, -1)) (bd (f_X8_spells (a1) (a2) C2) (fun C13 _ => (bd (f_X8_valueOf C13) (fun C17 r17 => (some (C17, r17)))))))))
def f_X8_firstLeaf_5 (k : Int → Mem → Option (Mem × Int)) : Nat → Int → Mem → Option (Mem × Int)
  | 0, _, _ => none
  | n + 1, v1, C => (bd (f_X8_at (v1) (0) C) (fun C8 r8 => (cEq (r8) (2) (bd (f_X8_at (v1) (2) C8) (fun C18 r18 => (f_X8_firstLeaf_5 k n (r18) C18))) (k (v1) C8))))
def f_X8_firstLeaf (C : Mem) : Option (Mem × Int) :=
  (f_X8_firstLeaf_5 (fun (v1_e5 : Int) (C_e5 : Mem) => (some (C_e5, v1_e5))) FU (C 95 1) C)
def f_X8_nextLeaf (a1 : Int) (C : Mem) : Option (Mem × Int) :=
  (bd (f_X8_at (a1) (2) C) (fun C3 r3 => (cEq (r3) 0 (some (C3, -9)) (bd (f_X8_at (a1) (2) C3) (fun C17 r17 => (some (C17, r17 - 1)))))))
def f_X8_beginsSo_22 (u1 : Int) (u2 : Int) (k : Int → Int → Mem → Option (Mem × Int)) : Nat → Int → Int → Mem → Option (Mem × Int)
  | 0, _, _, _ => none
  | n + 1, v3, v4, C => (cLt (v4) (C 95 12) (cEq (v3) 0 (k (v3) (v4) C) (bd (f_X8_at (u1) ((u2 + 1) + v4) C) (fun C43 r43 => (ix (v4) 8 (cEq (r43) (C43 (101) (v4).toNat) (f_X8_beginsSo_22 u1 u2 k n (1) (v4 + 1) C43) (f_X8_beginsSo_22 u1 u2 k n (0) (v4 + 1) C43)))))) (k (v3) (v4) C))
def f_X8_beginsSo (a1 : Int) (a2 : Int) (C : Mem) : Option (Mem × Int) :=
  (bd (f_X8_at (a1) (a2) C) (fun C3 r3 => (jn ((fun (s0_18 : Int) => (f_X8_beginsSo_22 (a1) (a2) (fun (v3_e22 : Int) (v4_e22 : Int) (C_e22 : Mem) => (bo (v3_e22) (some (C_e22, v3_e22)))) FU (s0_18) (0) C3)) : Int → Option (Mem × Int)) (fun j18 => (cLt (r3) (C3 95 12) (j18 (0)) (j18 (1)))))))
def f_X8_rank_47 (u3 : Int) (u5 : Int) (k : Int → Int → Int → Mem → Option (Mem × Int)) : Nat → Int → Int → Int → Mem → Option (Mem × Int)
  | 0, _, _, _, _ => none
  | n + 1, v4, v6, v7, C => (bd (f_X8_at (u5) (1) C) (fun C53 r53 => (cLt (v7) (r53) (jn ((fun (s0_90 : Int) (C_90 : Mem) => (jn ((fun (s1_104 : Int) => (bd (f_X8_at (u5) (v6) C_90) (fun C114 r114 => (f_X8_rank_47 u3 u5 k n (v4 + s1_104) (v6 + (r114 + 2)) (v7 + 1) C114)))) : Int → Option (Mem × Int)) (fun j104 => (cEq (s0_90) 0 (j104 (0)) (j104 (1)))))) : Int → Mem → Option (Mem × Int)) (fun j90 => (cEq (u3) 0 (bd (f_X8_against (u5) (v6) C53) (fun C68 r68 => (cLt 0 (r68) (j90 (1) C68) (j90 (0) C68)))) (bd (f_X8_beginsSo (u5) (v6) C53) (fun C87 r87 => (j90 (r87) C87)))))) (k (v4) (v6) (v7) C53))))
def f_X8_rank_34 (u3 : Int) (k : Int → Int → Mem → Option (Mem × Int)) : Nat → Int → Int → Mem → Option (Mem × Int)
  | 0, _, _, _ => none
  | n + 1, v4, v5, C => (cEq (v5) (-9) (k (v4) (v5) C) (f_X8_rank_47 (u3) (v5) (fun (v4_e47 : Int) (v6_e47 : Int) (v7_e47 : Int) (C_e47 : Mem) => (bd (f_X8_nextLeaf (v5) C_e47) (fun C131 r131 => (f_X8_rank_34 u3 k n (v4_e47) (r131) C131)))) FU (v4) (3) (0) C))
def f_X8_rank (a1 : Int) (a2 : Int) (a3 : Int) (C : Mem) : Option (Mem × Int) :=
  (bd (f_X8_isSpelled (a1) (a2) C) (fun C2 r2 => (cEq (r2) 0 (some (C2, -1)) (bd (f_X8_in (a3) (0) (1) C2) (fun C11 r11 => (cEq (r11) 0 (some (C11, -1)) (bd (f_X8_spells (a1) (a2) C11) (fun C22 _ => (bd (f_X8_firstLeaf C22) (fun C29 r29 => (f_X8_rank_34 (a3) (fun (v4_e34 : Int) (v5_e34 : Int) (C_e34 : Mem) => (some (C_e34, v4_e34))) FU (0) (r29) C29)))))))))))
def f_X8_path (a1 : Int) (a2 : Int) (a3 : Int) (C : Mem) : Option (Mem × Int) :=
  (bd (f_X8_isSpelled (a1) (a2) C) (fun C2 r2 => (cEq (r2) 0 (some (C2, -1)) (cLt (a3) 0 (some (C2, -1)) (bd (f_X8_spells (a1) (a2) C2) (fun C17 _ => (bd (f_X8_goesDown C17) (fun C21 _ => (cLt (a3) (C21 95 2) (ix (a3) 32 (some (C21, C21 (102) (a3).toNat))) (some (C21, -9)))))))))))
def f_X8_keys_7 (k : Int → Int → Mem → Option (Mem × Int)) : Nat → Int → Int → Mem → Option (Mem × Int)
  | 0, _, _, _ => none
  | n + 1, v1, v2, C => (cEq (v2) (-9) (k (v1) (v2) C) (bd (f_X8_at (v2) (1) C) (fun C17 r17 => (bd (f_X8_nextLeaf (v2) C17) (fun C24 r24 => (f_X8_keys_7 k n (v1 + r17) (r24) C24))))))
def f_X8_keys (C : Mem) : Option (Mem × Int) :=
  (bd (f_X8_firstLeaf C) (fun C3 r3 => (f_X8_keys_7 (fun (v1_e7 : Int) (v2_e7 : Int) (C_e7 : Mem) => (some (C_e7, v1_e7))) FU (0) (r3) C3)))
def f_X8_whereIs_7 (k : Int → Int → Mem → Option (Mem × Int)) : Nat → Int → Int → Mem → Option (Mem × Int)
  | 0, _, _, _ => none
  | n + 1, v2, v3, C => (bd (f_X8_at (v3) (1) C) (fun C11 r11 => (cLt (v2) (r11) (k (v2) (v3) C11) (bd (f_X8_at (v3) (1) C11) (fun C21 r21 => (bd (f_X8_nextLeaf (v3) C21) (fun C28 r28 => (f_X8_whereIs_7 k n (v2 - r21) (r28) C28))))))))
def f_X8_whereIs (a1 : Int) (C : Mem) : Option (Mem × Int) :=
  (bd (f_X8_firstLeaf C) (fun C3 r3 => (f_X8_whereIs_7 (fun (v2_e7 : Int) (v3_e7 : Int) (C_e7 : Mem) => (bd (f_X8_startOf (v3_e7) (v2_e7) C_e7) (fun C42 r42 => (some (C42, (64 * v3_e7) + r42))))) FU (a1) (r3) C3)))
def f_X8_letter (a1 : Int) (a2 : Int) (C : Mem) : Option (Mem × Int) :=
  (bd (f_X8_keys C) (fun C3 r3 => (bd (f_X8_in (a1) (0) (r3 - 1) C3) (fun C8 r8 => (cEq (r8) 0 (some (C8, -1)) (bd (f_X8_in (a2) (0) (7) C8) (fun C18 r18 => (cEq (r18) 0 (some (C18, -1)) (bd (f_X8_whereIs (a1) C18) (fun C28 r28 => (ix (r28) 2048 (cLt (a2) (C28 (96) (r28).toNat) (ix ((r28 + 1) + a2) 2048 (some (C28, C28 (96) ((r28 + 1) + a2).toNat))) (some (C28, -9))))))))))))))
def f_X8_value (a1 : Int) (C : Mem) : Option (Mem × Int) :=
  (bd (f_X8_keys C) (fun C3 r3 => (bd (f_X8_in (a1) (0) (r3 - 1) C3) (fun C8 r8 => (cEq (r8) 0 (some (C8, -1)) (bd (f_X8_whereIs (a1) C8) (fun C18 r18 => (ix (r18) 2048 (ix ((r18 + (C18 (96) (r18).toNat)) + 1) 2048 (some (C18, C18 (96) ((r18 + (C18 (96) (r18).toNat)) + 1).toNat)))))))))))
def f_X8_isPage (a0 : Int) (C : Mem) : Option (Mem × Int) :=
  (bd (f_X8_in (a0) (0) (31) C) (fun C4 r4 => (bo (r4) (some (C4, r4)))))
def f_X8_page (a1 : Int) (a2 : Int) (C : Mem) : Option (Mem × Int) :=
  (bd (f_X8_isPage (a1) C) (fun C1 r1 => (cEq (r1) 0 (some (C1, -1)) (bd (f_X8_in (a2) (0) (3) C1) (fun C10 r10 => (cEq (r10) 0 (some (C10, -1)) (cLt (a2) (3) (bd (f_X8_at (a1) (a2) C10) (fun C26 r26 => (some (C26, r26)))) (bd (f_X8_usedOf (a1) C10) (fun C34 r34 => (some (C34, r34)))))))))))
def f_X8_byteAt (a1 : Int) (a2 : Int) (C : Mem) : Option (Mem × Int) :=
  (bd (f_X8_isPage (a1) C) (fun C1 r1 => (cEq (r1) 0 (some (C1, -1)) (bd (f_X8_in (a2) (0) (63) C1) (fun C11 r11 => (cEq (r11) 0 (some (C11, -1)) (bd (f_X8_at (a1) (a2) C11) (fun C20 r20 => (some (C20, r20))))))))))
def f_X8_as (a1 : Int) (a2 : Int) (C : Mem) : Option (Mem × Int) :=
  (cEq ((64 * a1) + a2) (C 95 16) (some (C, C 95 17)) (ix ((64 * a1) + a2) 2048 (some (C, C (96) ((64 * a1) + a2).toNat))))
def f_X8_isRead_91 (u1 : Int) (u3 : Int) (u4 : Int) (u5 : Int) (u6 : Int) (k : Int → Mem → Option (Mem × Int)) : Nat → Int → Mem → Option (Mem × Int)
  | 0, _, _ => none
  | n + 1, v7, C => (cLt (v7) (u6) (bd (f_X8_as (u1) ((u4 + 1) + v7) C) (fun C107 r107 => (bd (f_X8_in (r107) (97) (122) C107) (fun C114 r114 => (cEq (r114) 0 (some (C114, 0)) (f_X8_isRead_91 u1 u3 u4 u5 u6 k n (v7 + 1) C114)))))) (k (v7) C))
def f_X8_isRead_37 (u1 : Int) (u3 : Int) (k : Int → Int → Mem → Option (Mem × Int)) : Nat → Int → Int → Mem → Option (Mem × Int)
  | 0, _, _, _ => none
  | n + 1, v4, v5, C => (cLt (v5) (u3) (jn ((fun (s0_61 : Int) (C_61 : Mem) => (bd (f_X8_in (s0_61) (1) (8) C_61) (fun C68 r68 => (cEq (r68) 0 (some (C68, 0)) (cLt (64) ((v4 + s0_61) + 2) (some (C68, 0)) (f_X8_isRead_91 (u1) (u3) (v4) (v5) (s0_61) (fun (v7_e91 : Int) (C_e91 : Mem) => (f_X8_isRead_37 u1 u3 k n (v4 + (s0_61 + 2)) (v5 + 1) C_e91)) FU (0) C68)))))) : Int → Mem → Option (Mem × Int)) (fun j61 => (cLt (v4) (64) (bd (f_X8_as (u1) (v4) C) (fun C54 r54 => (j61 (r54) C54))) (j61 (0) C)))) (k (v4) (v5) C))
def f_X8_isRead_150 (u1 : Int) (k : Int → Int → Mem → Option (Mem × Int)) : Nat → Int → Int → Mem → Option (Mem × Int)
  | 0, _, _, _ => none
  | n + 1, v5, v6, C => (cLt (v6) (64) (cEq (v5) 0 (f_X8_isRead_150 u1 k n (0) (v6 + 1) C) (bd (f_X8_as (u1) (v6) C) (fun C166 r166 => (cEq (r166) 0 (f_X8_isRead_150 u1 k n (1) (v6 + 1) C166) (f_X8_isRead_150 u1 k n (0) (v6 + 1) C166))))) (k (v5) (v6) C))
def f_X8_isRead (a1 : Int) (a2 : Int) (C : Mem) : Option (Mem × Int) :=
  (bd (f_X8_as (a1) (1) C) (fun C3 r3 => (jn (((f_X8_isRead_37 (a1) (r3) (fun (v4_e37 : Int) (v5_e37 : Int) (C_e37 : Mem) => (f_X8_isRead_150 (a1) (fun (v5_e150 : Int) (v6_e150 : Int) (C_e150 : Mem) => (bo (v5_e150) (some (C_e150, v5_e150)))) FU (1) (v4_e37) C_e37)) FU (3) (0) C3)) : Option (Mem × Int)) (fun j31 => (cEq (r3) 0 (cEq (a1) (C3 95 1) (cLt (a2) ((C3 95 2) - 1) (some (C3, 0)) (j31)) (some (C3, 0))) (j31))))))
def f_X8_compares_37 (u1 : Int) (u2 : Int) (u3 : Int) (u4 : Int) (u5 : Int) (u6 : Int) (k : Int → Mem → Option (Mem × Int)) : Nat → Int → Mem → Option (Mem × Int)
  | 0, _, _ => none
  | n + 1, v7, C => (cLt (v7) (u5) (cLt (v7) (u6) (dv (u1) (bd (f_X8_as (u3) (((u1 % 64) + 1) + v7) C) (fun C62 r62 => (dv (u2) (bd (f_X8_as (u4) (((u2 % 64) + 1) + v7) C62) (fun C77 r77 => (cEq (r62) (r77) (f_X8_compares_37 u1 u2 u3 u4 u5 u6 k n (v7 + 1) C77) (k (v7) C77)))))))) (k (v7) C)) (k (v7) C))
def f_X8_compares (a1 : Int) (a2 : Int) (C : Mem) : Option (Mem × Int) :=
  (dv (a1) (dv (a2) (dv (a1) (bd (f_X8_as (a1 / 64) (a1 % 64) C) (fun C17 r17 => (dv (a2) (bd (f_X8_as (a2 / 64) (a2 % 64) C17) (fun C29 r29 => (f_X8_compares_37 (a1) (a2) (a1 / 64) (a2 / 64) (r17) (r29) (fun (v7_e37 : Int) (C_e37 : Mem) => (cLt (v7_e37) (r17) (cLt (v7_e37) (r29) (dv (a1) (bd (f_X8_as (a1 / 64) (((a1 % 64) + 1) + v7_e37) C_e37) (fun C114 r114 => (dv (a2) (bd (f_X8_as (a2 / 64) (((a2 % 64) + 1) + v7_e37) C114) (fun C129 r129 => (some (C129, r114 - r129)))))))) (some (C_e37, r17 - r29))) (some (C_e37, r17 - r29)))) FU (0) C29)))))))))
def f_X8_rises_7 (u1 : Int) (k : Int → Int → Int → Mem → Option (Mem × Int)) : Nat → Int → Int → Int → Mem → Option (Mem × Int)
  | 0, _, _, _, _ => none
  | n + 1, v2, v3, v4, C => (bd (f_X8_as (u1) (1) C) (fun C14 r14 => (cLt (v4 + 1) (r14) (bd (f_X8_as (u1) (v3) C14) (fun C24 r24 => (cEq (v2) 0 (f_X8_rises_7 u1 k n (0) ((v3 + r24) + 2) (v4 + 1) C24) (bd (f_X8_compares ((64 * u1) + v3) ((64 * u1) + ((v3 + r24) + 2)) C24) (fun C50 r50 => (cLt (r50) 0 (f_X8_rises_7 u1 k n (1) ((v3 + r24) + 2) (v4 + 1) C50) (f_X8_rises_7 u1 k n (0) ((v3 + r24) + 2) (v4 + 1) C50))))))) (k (v2) (v3) (v4) C14))))
def f_X8_rises (a1 : Int) (C : Mem) : Option (Mem × Int) :=
  (f_X8_rises_7 (a1) (fun (v2_e7 : Int) (v3_e7 : Int) (v4_e7 : Int) (C_e7 : Mem) => (bo (v2_e7) (some (C_e7, v2_e7)))) FU (1) (3) (0) C)
def f_X8_isWithin_9 (u1 : Int) (u2 : Int) (u3 : Int) (k : Int → Int → Int → Mem → Option (Mem × Int)) : Nat → Int → Int → Int → Mem → Option (Mem × Int)
  | 0, _, _, _, _ => none
  | n + 1, v4, v5, v6, C => (bd (f_X8_as (u1) (1) C) (fun C14 r14 => (cLt (v6) (r14) (jn ((fun (s0_71 : Int) (C_71 : Mem) => (bd (f_X8_as (u1) (v5) C_71) (fun C79 r79 => (f_X8_isWithin_9 u1 u2 u3 k n (s0_71) (v5 + (r79 + 2)) (v6 + 1) C79)))) : Int → Mem → Option (Mem × Int)) (fun j71 => (jn ((fun (C_70 : Mem) => (j71 (0) C_70)) : Mem → Option (Mem × Int)) (fun j70 => (cEq (v4) 0 (j70 C14) (jn ((fun (C_50 : Mem) => (jn ((fun (C_66 : Mem) => (j71 (1) C_66)) : Mem → Option (Mem × Int)) (fun j66 => (cEq (u3) (-9) (j66 C_50) (bd (f_X8_compares ((64 * u1) + v5) (u3) C_50) (fun C60 r60 => (cLt (r60) 0 (j66 C60) (j70 C60)))))))) : Mem → Option (Mem × Int)) (fun j50 => (cEq (u2) (-9) (j50 C14) (bd (f_X8_compares ((64 * u1) + v5) (u2) C14) (fun C44 r44 => (cLt (r44) 0 (j70 C44) (j50 C44)))))))))))) (k (v4) (v5) (v6) C14))))
def f_X8_isWithin (a1 : Int) (a2 : Int) (a3 : Int) (C : Mem) : Option (Mem × Int) :=
  (f_X8_isWithin_9 (a1) (a2) (a3) (fun (v4_e9 : Int) (v5_e9 : Int) (v6_e9 : Int) (C_e9 : Mem) => (bo (v4_e9) (some (C_e9, v4_e9)))) FU (1) (3) (0) C)
def f_X8_childAs_16 (u1 : Int) (u2 : Int) (k : Int → Int → Mem → Option (Mem × Int)) : Nat → Int → Int → Mem → Option (Mem × Int)
  | 0, _, _, _ => none
  | n + 1, v3, v4, C => (cLt (v4) (u2) (bd (f_X8_as (u1) (v3) C) (fun C26 r26 => (f_X8_childAs_16 u1 u2 k n (v3 + (r26 + 2)) (v4 + 1) C26))) (k (v3) (v4) C))
def f_X8_childAs (a1 : Int) (a2 : Int) (C : Mem) : Option (Mem × Int) :=
  (cEq (a2) 0 (bd (f_X8_as (a1) (2) C) (fun C7 r7 => (some (C7, r7)))) (f_X8_childAs_16 (a1) (a2) (fun (v3_e16 : Int) (v4_e16 : Int) (C_e16 : Mem) => (bd (f_X8_as (a1) (v3_e16) C_e16) (fun C45 r45 => (bd (f_X8_as (a1) ((v3_e16 + r45) + 1) C45) (fun C51 r51 => (some (C51, r51))))))) FU (3) (1) C))
def f_X8_hasChildren_53 (u1 : Int) (u3 : Int) (u4 : Int) (k : Int → Int → Mem → Option (Mem × Int)) : Nat → Int → Int → Mem → Option (Mem × Int)
  | 0, _, _, _ => none
  | n + 1, v2, v5, C => (cLt (v5) (u3) (cEq (v2) 0 (f_X8_hasChildren_53 u1 u3 u4 k n (0) (v5 + 1) C) (bd (f_X8_childAs (u1) (v5) C) (fun C67 r67 => (cEq (r67) (u4) (f_X8_hasChildren_53 u1 u3 u4 k n (0) (v5 + 1) C67) (f_X8_hasChildren_53 u1 u3 u4 k n (1) (v5 + 1) C67))))) (k (v2) (v5) C))
def f_X8_hasChildren_4 (u1 : Int) (k : Int → Int → Mem → Option (Mem × Int)) : Nat → Int → Int → Mem → Option (Mem × Int)
  | 0, _, _, _ => none
  | n + 1, v2, v3, C => (bd (f_X8_as (u1) (1) C) (fun C8 r8 => (cLt (r8) (v3) (k (v2) (v3) C8) (bd (f_X8_childAs (u1) (v3) C8) (fun C17 r17 => (jn ((fun (s0_49 : Int) (C_49 : Mem) => (f_X8_hasChildren_53 (u1) (v3) (r17) (fun (v2_e53 : Int) (v5_e53 : Int) (C_e53 : Mem) => (f_X8_hasChildren_4 u1 k n (v2_e53) (v3 + 1) C_e53)) FU (s0_49) (0) C_49)) : Int → Mem → Option (Mem × Int)) (fun j49 => (jn ((fun (C_48 : Mem) => (j49 (0) C_48)) : Mem → Option (Mem × Int)) (fun j48 => (cEq (v2) 0 (j48 C17) (bd (f_X8_isPage (r17) C17) (fun C28 r28 => (cEq (r28) 0 (j48 C28) (ix (r17) 32 (cEq (C28 (104) (r17).toNat) 0 (j49 (1) C28) (j48 C28))))))))))))))))
def f_X8_hasChildren (a1 : Int) (C : Mem) : Option (Mem × Int) :=
  (f_X8_hasChildren_4 (a1) (fun (v2_e4 : Int) (v3_e4 : Int) (C_e4 : Mem) => (bo (v2_e4) (some (C_e4, v2_e4)))) FU (1) (0) C)
def f_X8_why (a1 : Int) (a2 : Int) (a3 : Int) (a4 : Int) (C : Mem) : Option (Mem × Int) :=
  (jn ((fun (s0_15 : Int) => (bd (f_X8_as (a1) (0) C) (fun C20 r20 => (cEq (r20) (s0_15) (bd (f_X8_isRead (a1) (a2) C20) (fun C33 r33 => (cEq (r33) 0 (some (C33, 2)) (bd (f_X8_rises (a1) C33) (fun C43 r43 => (cEq (r43) 0 (some (C43, 3)) (bd (f_X8_isWithin (a1) (a3) (a4) C43) (fun C56 r56 => (cEq (r56) 0 (some (C56, 4)) (cEq (s0_15) (2) (bd (f_X8_hasChildren (a1) C56) (fun C72 r72 => (cEq (r72) 0 (some (C72, 5)) (some (C72, 0))))) (some (C56, 0)))))))))))) (some (C20, 1)))))) : Int → Option (Mem × Int)) (fun j15 => (cEq (a2) ((C 95 2) - 1) (j15 (1)) (j15 (2)))))
def f_X8_waits (a1 : Int) (a2 : Int) (a3 : Int) (a4 : Int) (C : Mem) : Option (Mem × Int) :=
  (ix (C 95 19) 800 (ix ((up C (105) (C 95 19).toNat (a1)) 95 19) 800 (ix ((up (up C (105) (C 95 19).toNat (a1)) (106) ((up C (105) (C 95 19).toNat (a1)) 95 19).toNat (a2)) 95 19) 800 (ix ((up (up (up C (105) (C 95 19).toNat (a1)) (106) ((up C (105) (C 95 19).toNat (a1)) 95 19).toNat (a2)) (107) ((up (up C (105) (C 95 19).toNat (a1)) (106) ((up C (105) (C 95 19).toNat (a1)) 95 19).toNat (a2)) 95 19).toNat (a3)) 95 19) 800 (some ((up (up (up (up (up C (105) (C 95 19).toNat (a1)) (106) ((up C (105) (C 95 19).toNat (a1)) 95 19).toNat (a2)) (107) ((up (up C (105) (C 95 19).toNat (a1)) (106) ((up C (105) (C 95 19).toNat (a1)) 95 19).toNat (a2)) 95 19).toNat (a3)) (108) ((up (up (up C (105) (C 95 19).toNat (a1)) (106) ((up C (105) (C 95 19).toNat (a1)) 95 19).toNat (a2)) (107) ((up (up C (105) (C 95 19).toNat (a1)) (106) ((up C (105) (C 95 19).toNat (a1)) 95 19).toNat (a2)) 95 19).toNat (a3)) 95 19).toNat (a4)) 95 19 (((up (up (up (up C (105) (C 95 19).toNat (a1)) (106) ((up C (105) (C 95 19).toNat (a1)) 95 19).toNat (a2)) (107) ((up (up C (105) (C 95 19).toNat (a1)) (106) ((up C (105) (C 95 19).toNat (a1)) 95 19).toNat (a2)) 95 19).toNat (a3)) (108) ((up (up (up C (105) (C 95 19).toNat (a1)) (106) ((up C (105) (C 95 19).toNat (a1)) 95 19).toNat (a2)) (107) ((up (up C (105) (C 95 19).toNat (a1)) (106) ((up C (105) (C 95 19).toNat (a1)) 95 19).toNat (a2)) 95 19).toNat (a3)) 95 19).toNat (a4)) 95 19) + 1)), 0))))))
def f_X8_startAs_5 (u1 : Int) (u2 : Int) (k : Int → Int → Mem → Option (Mem × Int)) : Nat → Int → Int → Mem → Option (Mem × Int)
  | 0, _, _, _ => none
  | n + 1, v3, v4, C => (cLt (v4) (u2) (bd (f_X8_as (u1) (v3) C) (fun C15 r15 => (f_X8_startAs_5 u1 u2 k n (v3 + (r15 + 2)) (v4 + 1) C15))) (k (v3) (v4) C))
def f_X8_startAs (a1 : Int) (a2 : Int) (C : Mem) : Option (Mem × Int) :=
  (f_X8_startAs_5 (a1) (a2) (fun (v3_e5 : Int) (v4_e5 : Int) (C_e5 : Mem) => (some (C_e5, v3_e5))) FU (3) (0) C)
def f_X8_childrenWait_12 (u1 : Int) (u2 : Int) (u3 : Int) (u4 : Int) (u5 : Int) (k : Int → Mem → Option (Mem × Int)) : Nat → Int → Mem → Option (Mem × Int)
  | 0, _, _ => none
  | n + 1, v6, C => (cLt (v6) 0 (k (v6) C) (jn ((fun (s0_40 : Int) (C_40 : Mem) => (jn ((fun (s0_66 : Int) (C_66 : Mem) => (bd (f_X8_childAs (u1) (v6) C_66) (fun C73 r73 => (bd (f_X8_waits (r73) (u2 + 1) (s0_40) (s0_66) C73) (fun C83 _ => (f_X8_childrenWait_12 u1 u2 u3 u4 u5 k n (v6 + (-1)) C83)))))) : Int → Mem → Option (Mem × Int)) (fun j66 => (cEq (v6) (u5) (j66 (u4) C_40) (bd (f_X8_startAs (u1) (v6) C_40) (fun C62 r62 => (j66 ((64 * u1) + r62) C62))))))) : Int → Mem → Option (Mem × Int)) (fun j40 => (cEq (v6) 0 (j40 (u3) C) (bd (f_X8_startAs (u1) (v6 - 1) C) (fun C36 r36 => (j40 ((64 * u1) + r36) C36)))))))
def f_X8_childrenWait (a1 : Int) (a2 : Int) (a3 : Int) (a4 : Int) (C : Mem) : Option (Mem × Int) :=
  (bd (f_X8_as (a1) (1) C) (fun C3 r3 => (f_X8_childrenWait_12 (a1) (a2) (a3) (a4) (r3) (fun (v6_e12 : Int) (C_e12 : Mem) => (some (C_e12, 0))) FU (r3) C3)))
def f_X8_wrongDown_12 (k : Int → Mem → Option (Mem × Int)) : Nat → Int → Mem → Option (Mem × Int)
  | 0, _, _ => none
  | n + 1, v1, C => (cLt (v1) (32) (ix (v1) 32 (f_X8_wrongDown_12 k n (v1 + 1) (up C (104) (v1).toNat (0)))) (k (v1) C))
def f_X8_wrongDown_44 (k : Mem → Option (Mem × Int)) : Nat → Mem → Option (Mem × Int)
  | 0, _ => none
  | n + 1, C => (cLt 0 (C 95 19) (ix ((up C 95 19 ((C 95 19) - 1)) 95 19) 800 (ix ((up C 95 19 ((C 95 19) - 1)) 95 19) 800 (ix ((up C 95 19 ((C 95 19) - 1)) 95 19) 800 (ix ((up C 95 19 ((C 95 19) - 1)) 95 19) 800 (ix ((up C 95 19 ((C 95 19) - 1)) (105) ((up C 95 19 ((C 95 19) - 1)) 95 19).toNat) 32 (bd (f_X8_why ((up C 95 19 ((C 95 19) - 1)) (105) ((up C 95 19 ((C 95 19) - 1)) 95 19).toNat) ((up C 95 19 ((C 95 19) - 1)) (106) ((up C 95 19 ((C 95 19) - 1)) 95 19).toNat) ((up C 95 19 ((C 95 19) - 1)) (107) ((up C 95 19 ((C 95 19) - 1)) 95 19).toNat) ((up C 95 19 ((C 95 19) - 1)) (108) ((up C 95 19 ((C 95 19) - 1)) 95 19).toNat) (up (up C 95 19 ((C 95 19) - 1)) (104) ((up C 95 19 ((C 95 19) - 1)) (105) ((up C 95 19 ((C 95 19) - 1)) 95 19).toNat).toNat (1))) (fun C115 r115 => (cLt 0 (r115) (some (C115, (100 * r115) + ((up C 95 19 ((C 95 19) - 1)) (105) ((up C 95 19 ((C 95 19) - 1)) 95 19).toNat))) (cLt ((up C 95 19 ((C 95 19) - 1)) (106) ((up C 95 19 ((C 95 19) - 1)) 95 19).toNat) ((C115 95 2) - 1) (bd (f_X8_childrenWait ((up C 95 19 ((C 95 19) - 1)) (105) ((up C 95 19 ((C 95 19) - 1)) 95 19).toNat) ((up C 95 19 ((C 95 19) - 1)) (106) ((up C 95 19 ((C 95 19) - 1)) 95 19).toNat) ((up C 95 19 ((C 95 19) - 1)) (107) ((up C 95 19 ((C 95 19) - 1)) 95 19).toNat) ((up C 95 19 ((C 95 19) - 1)) (108) ((up C 95 19 ((C 95 19) - 1)) 95 19).toNat) C115) (fun C149 _ => (f_X8_wrongDown_44 k n C149))) (ix (C115 95 24) 800 (f_X8_wrongDown_44 k n (up (up C115 (109) (C115 95 24).toNat ((up C 95 19 ((C 95 19) - 1)) (105) ((up C 95 19 ((C 95 19) - 1)) 95 19).toNat)) 95 24 (((up C115 (109) (C115 95 24).toNat ((up C 95 19 ((C 95 19) - 1)) (105) ((up C 95 19 ((C 95 19) - 1)) 95 19).toNat)) 95 24) + 1))))))))))))) (k C))
def f_X8_wrongDown (C : Mem) : Option (Mem × Int) :=
  (f_X8_wrongDown_12 (fun (v1_e12 : Int) (C_e12 : Mem) => (bd (f_X8_waits (C_e12 95 1) (0) (-9) (-9) C_e12) (fun C41 _ => (f_X8_wrongDown_44 (fun (C_e44 : Mem) => (some (C_e44, 0))) FU C41)))) FU (0) (up (up C 95 19 (0)) 95 24 (0)))
def f_X8_wrongNext_2 (k : Int → Mem → Option (Mem × Int)) : Nat → Int → Mem → Option (Mem × Int)
  | 0, _, _ => none
  | n + 1, v1, C => (cLt (v1) (C 95 24) (jn ((fun (s0_34 : Int) => (ix (v1) 800 (bd (f_X8_as (C (109) (v1).toNat) (2) C) (fun C43 r43 => (cEq (r43) (s0_34) (f_X8_wrongNext_2 k n (v1 + 1) C43) (ix (v1) 800 (some (C43, 600 + (C43 (109) (v1).toNat))))))))) : Int → Option (Mem × Int)) (fun j34 => (cLt (v1 + 1) (C 95 24) (ix (v1 + 1) 800 (j34 ((C (109) (v1 + 1).toNat) + 1))) (j34 (0))))) (k (v1) C))
def f_X8_wrongNext (C : Mem) : Option (Mem × Int) :=
  (f_X8_wrongNext_2 (fun (v1_e2 : Int) (C_e2 : Mem) => (some (C_e2, 0))) FU (0) C)
def f_X8_wrongFree_12 (u1 : Int) (k : Int → Int → Mem → Option (Mem × Int)) : Nat → Int → Int → Mem → Option (Mem × Int)
  | 0, _, _, _ => none
  | n + 1, v2, v3, C => (cLt (v3) (64) (cEq (v2) 0 (f_X8_wrongFree_12 u1 k n (0) (v3 + 1) C) (bd (f_X8_as (u1) (v3) C) (fun C25 r25 => (cEq (r25) 0 (f_X8_wrongFree_12 u1 k n (1) (v3 + 1) C25) (f_X8_wrongFree_12 u1 k n (0) (v3 + 1) C25))))) (k (v2) (v3) C))
def f_X8_wrongFree_2 (k : Int → Mem → Option (Mem × Int)) : Nat → Int → Mem → Option (Mem × Int)
  | 0, _, _ => none
  | n + 1, v1, C => (cLt (v1) (32) (f_X8_wrongFree_12 (v1) (fun (v2_e12 : Int) (v3_e12 : Int) (C_e12 : Mem) => (ix (v1) 32 (cEq (C_e12 (104) (v1).toNat) 0 (cEq (v2_e12) 0 (some (C_e12, 700 + v1)) (f_X8_wrongFree_2 k n (v1 + 1) C_e12)) (f_X8_wrongFree_2 k n (v1 + 1) C_e12)))) FU (1) (0) C) (k (v1) C))
def f_X8_wrongFree (C : Mem) : Option (Mem × Int) :=
  (f_X8_wrongFree_2 (fun (v1_e2 : Int) (C_e2 : Mem) => (some (C_e2, 0))) FU (0) C)
def f_X8_check (a1 : Int) (a2 : Int) (a3 : Int) (C : Mem) : Option (Mem × Int) :=
  (bd (f_X8_isPage (a1) C) (fun C1 r1 => (cEq (r1) 0 (some (C1, -1)) (bd (f_X8_in (a2) (0) (63) C1) (fun C11 r11 => (cEq (r11) 0 (some (C11, -1)) (bd (f_X8_in (a3) (0) (255) C11) (fun C22 r22 => (cEq (r22) 0 (some (C22, -1)) (bd (f_X8_wrongDown (up (up C22 95 16 ((64 * a1) + a2)) 95 17 (a3))) (fun C46 r46 => (jn ((fun (s0_65 : Int) (C_65 : Mem) => (cEq (s0_65) 0 (bd (f_X8_wrongFree C_65) (fun C73 r73 => (some (C73, r73)))) (some (C_65, s0_65)))) : Int → Mem → Option (Mem × Int)) (fun j65 => (cEq (r46) 0 (bd (f_X8_wrongNext C46) (fun C57 r57 => (j65 (r57) C57))) (j65 (r46) C46)))))))))))))))
def f_X8_usedAll_4 (k : Int → Int → Mem → Option (Mem × Int)) : Nat → Int → Int → Mem → Option (Mem × Int)
  | 0, _, _, _ => none
  | n + 1, v1, v2, C => (cLt (v2) (32) (bd (f_X8_usedOf (v2) C) (fun C13 r13 => (f_X8_usedAll_4 k n (v1 + r13) (v2 + 1) C13))) (k (v1) (v2) C))
def f_X8_usedAll (C : Mem) : Option (Mem × Int) :=
  (f_X8_usedAll_4 (fun (v1_e4 : Int) (v2_e4 : Int) (C_e4 : Mem) => (some (C_e4, v1_e4))) FU (0) (0) C)
def f_X8_sorted_4 (u1 : Int) (k : Int → Int → Mem → Option (Mem × Int)) : Nat → Int → Int → Mem → Option (Mem × Int)
  | 0, _, _, _ => none
  | n + 1, v2, v3, C => (cLt (v3) (32) (bd (f_X8_at (v3) (0) C) (fun C14 r14 => (cEq (r14) (u1) (f_X8_sorted_4 u1 k n (v2 + 1) (v3 + 1) C14) (f_X8_sorted_4 u1 k n (v2 + 0) (v3 + 1) C14)))) (k (v2) (v3) C))
def f_X8_sorted (a1 : Int) (C : Mem) : Option (Mem × Int) :=
  (f_X8_sorted_4 (a1) (fun (v2_e4 : Int) (v3_e4 : Int) (C_e4 : Mem) => (some (C_e4, v2_e4))) FU (0) (0) C)
def f_X8_separators_4 (k : Int → Int → Mem → Option (Mem × Int)) : Nat → Int → Int → Mem → Option (Mem × Int)
  | 0, _, _, _ => none
  | n + 1, v1, v2, C => (cLt (v2) (32) (bd (f_X8_at (v2) (0) C) (fun C14 r14 => (cEq (r14) (2) (bd (f_X8_usedOf (v2) C14) (fun C23 r23 => (bd (f_X8_at (v2) (1) C23) (fun C32 r32 => (f_X8_separators_4 k n (v1 + ((r23 - 3) - (2 * r32))) (v2 + 1) C32))))) (f_X8_separators_4 k n (v1 + 0) (v2 + 1) C14)))) (k (v1) (v2) C))
def f_X8_separators (C : Mem) : Option (Mem × Int) :=
  (f_X8_separators_4 (fun (v1_e4 : Int) (v2_e4 : Int) (C_e4 : Mem) => (some (C_e4, v1_e4))) FU (0) (0) C)
def f_X8_count (a1 : Int) (C : Mem) : Option (Mem × Int) :=
  (bd (f_X8_in (a1) (0) (7) C) (fun C4 r4 => (cEq (r4) 0 (some (C4, -1)) (cEq (a1) 0 (bd (f_X8_keys C4) (fun C57 r57 => (some (C57, r57)))) (cEq (a1) 1 (some (C4, C4 95 2)) (cEq (a1) 2 (some (C4, C4 95 1)) (cEq (a1) 3 (bd (f_X8_freeMany C4) (fun C72 r72 => (some (C72, r72)))) (cEq (a1) 4 (bd (f_X8_usedAll C4) (fun C77 r77 => (some (C77, r77)))) (cEq (a1) 5 (bd (f_X8_sorted (1) C4) (fun C83 r83 => (some (C83, r83)))) (cEq (a1) 6 (bd (f_X8_firstLeaf C4) (fun C88 r88 => (some (C88, r88)))) (bd (f_X8_separators C4) (fun C93 r93 => (some (C93, r93))))))))))))))
def f_X8_digest_6 (k : Int → Int → Mem → Option (Mem × Int)) : Nat → Int → Int → Mem → Option (Mem × Int)
  | 0, _, _, _ => none
  | n + 1, v1, v3, C => (cLt (v3) (2048) (ix (v3) 2048 (rg (C (96) (v3).toNat) 0 (f_X8_digest_6 k n ((31 * v1) + (C (96) (v3).toNat)) (v3 + 1) C))) (k (v1) (v3) C))
def f_X8_digest (C : Mem) : Option (Mem × Int) :=
  (f_X8_digest_6 (fun (v1_e6 : Int) (v3_e6 : Int) (C_e6 : Mem) => (some (C_e6, v1_e6))) FU (17) (0) C)
def f_X8_keep_13 (u1 : Int) (k : Int → Mem → Option (Mem × Int)) : Nat → Int → Mem → Option (Mem × Int)
  | 0, _, _ => none
  | n + 1, v2, C => (cLt (v2) (2048) (ix (v2) 2048 (ix ((2048 * u1) + v2) 4096 (f_X8_keep_13 u1 k n (v2 + 1) (up C (110) ((2048 * u1) + v2).toNat (C (96) (v2).toNat))))) (k (v2) C))
def f_X8_keep (a1 : Int) (C : Mem) : Option (Mem × Int) :=
  (bd (f_X8_in (a1) (0) (1) C) (fun C3 r3 => (cEq (r3) 0 (some (C3, -1)) (f_X8_keep_13 (a1) (fun (v2_e13 : Int) (C_e13 : Mem) => (ix (a1) 2 (ix (a1) 2 (bd (f_X8_keys (up (up C_e13 (111) (a1).toNat (C_e13 95 1)) (112) (a1).toNat ((up C_e13 (111) (a1).toNat (C_e13 95 1)) 95 2))) (fun C65 r65 => (some (C65, r65))))))) FU (0) C3))))
def f_X8_back_25 (u1 : Int) (k : Int → Mem → Option (Mem × Int)) : Nat → Int → Mem → Option (Mem × Int)
  | 0, _, _ => none
  | n + 1, v2, C => (cLt (v2) (2048) (ix ((2048 * u1) + v2) 4096 (ix (v2) 2048 (f_X8_back_25 u1 k n (v2 + 1) (up C (96) (v2).toNat (C (110) ((2048 * u1) + v2).toNat))))) (k (v2) C))
def f_X8_back (a1 : Int) (C : Mem) : Option (Mem × Int) :=
  (bd (f_X8_in (a1) (0) (1) C) (fun C3 r3 => (cEq (r3) 0 (some (C3, -1)) (ix (a1) 2 (cEq (C3 (112) (a1).toNat) 0 (some (C3, -2)) (f_X8_back_25 (a1) (fun (v2_e25 : Int) (C_e25 : Mem) => (ix (a1) 2 (ix (a1) 2 (bd (f_X8_keys (up (up C_e25 95 1 (C_e25 (111) (a1).toNat)) 95 2 ((up C_e25 95 1 (C_e25 (111) (a1).toNat)) (112) (a1).toNat))) (fun C77 r77 => (some (C77, r77))))))) FU (0) C3))))))
def f_X8_type (a1 : Int) (C : Mem) : Option (Mem × Int) :=
  (bd (f_X8_in (a1) (0) (255) C) (fun C5 r5 => (cEq (r5) 0 (some (C5, -1)) (cEq (C5 95 30) (120) (some (C5, -3)) (ix (C5 95 30) 120 (some ((up (up C5 (113) (C5 95 30).toNat (a1)) 95 30 (((up C5 (113) (C5 95 30).toNat (a1)) 95 30) + 1)), (up (up C5 (113) (C5 95 30).toNat (a1)) 95 30 (((up C5 (113) (C5 95 30).toNat (a1)) 95 30) + 1)) 95 30)))))))
def f_X8_clear (C : Mem) : Option (Mem × Int) :=
  (some ((up C 95 30 (0)), C 95 30))
def f_X8_times (a1 : Int) (C : Mem) : Option (Mem × Int) :=
  (bd (f_X8_in (a1) (0) (3) C) (fun C3 r3 => (cEq (r3) 0 (some (C3, -1)) (cEq (a1) 0 (some (C3, C3 95 30)) (cEq (a1) (1) (some (C3, C3 95 3)) (cEq (a1) (2) (some (C3, C3 95 4)) (some (C3, C3 95 5))))))))
def f_X8_here (C : Mem) : Option (Mem × Int) :=
  (cLt (C 95 31) (C 95 30) (ix (C 95 31) 120 (some (C, C (113) (C 95 31).toNat))) (some (C, -9)))
def f_X8_skip_0 (k : Mem → Option (Mem × Int)) : Nat → Mem → Option (Mem × Int)
  | 0, _ => none
  | n + 1, C => (bd (f_X8_here C) (fun C1 r1 => (cEq (r1) (32) (f_X8_skip_0 k n (up C1 95 31 ((C1 95 31) + 1))) (k C1))))
def f_X8_skip (C : Mem) : Option (Mem × Int) :=
  (f_X8_skip_0 (fun (C_e0 : Mem) => (some (C_e0, 0))) FU C)
def f_X8_lettersHere_2 (k : Int → Mem → Option (Mem × Int)) : Nat → Int → Mem → Option (Mem × Int)
  | 0, _, _ => none
  | n + 1, v1, C => (cLt ((C 95 31) + v1) (C 95 30) (ix ((C 95 31) + v1) 120 (bd (f_X8_in (C (113) ((C 95 31) + v1).toNat) (97) (122) C) (fun C30 r30 => (cEq (r30) 0 (k (v1) C30) (f_X8_lettersHere_2 k n (v1 + 1) C30))))) (k (v1) C))
def f_X8_lettersHere (C : Mem) : Option (Mem × Int) :=
  (f_X8_lettersHere_2 (fun (v1_e2 : Int) (C_e2 : Mem) => (some (C_e2, v1_e2))) FU (0) C)
def f_X8_number_9 (u1 : Int) (u2 : Int) (k : Int → Int → Mem → Option (Mem × Int)) : Nat → Int → Int → Mem → Option (Mem × Int)
  | 0, _, _, _ => none
  | n + 1, v3, v4, C => (cLt ((C 95 31) + v3) (C 95 30) (ix ((C 95 31) + v3) 120 (bd (f_X8_in (C (113) ((C 95 31) + v3).toNat) (48) (57) C) (fun C37 r37 => (cEq (r37) 0 (k (v3) (v4) C37) (cLt (v3) (5) (ix ((C37 95 31) + v3) 120 (f_X8_number_9 u1 u2 k n (v3 + 1) (((10 * v4) + (C37 (113) ((C37 95 31) + v3).toNat)) - 48) C37)) (f_X8_number_9 u1 u2 k n (v3 + 1) (v4) C37)))))) (k (v3) (v4) C))
def f_X8_number (a1 : Int) (a2 : Int) (C : Mem) : Option (Mem × Int) :=
  (bd (f_X8_skip C) (fun C1 _ => (f_X8_number_9 (a1) (a2) (fun (v3_e9 : Int) (v4_e9 : Int) (C_e9 : Mem) => (bd (f_X8_in (v3_e9) (1) (5) C_e9) (fun C84 r84 => (cEq (r84) 0 (some (C84, 0)) (jn ((fun (C_104 : Mem) => (bd (f_X8_in (v4_e9) (a1) (a2) C_104) (fun C108 r108 => (cEq (r108) 0 (some (C108, 0)) (some ((up (up C108 95 32 (v4_e9)) 95 31 (((up C108 95 32 (v4_e9)) 95 31) + v3_e9)), 1)))))) : Mem → Option (Mem × Int)) (fun j104 => (cLt (1) (v3_e9) (bd (f_X8_here C84) (fun C96 r96 => (cEq (r96) (48) (some (C96, 0)) (j104 C96)))) (j104 C84)))))))) FU (0) (0) C1)))
def f_X8_ends (C : Mem) : Option (Mem × Int) :=
  (bd (f_X8_skip C) (fun C1 _ => (bd (f_X8_here C1) (fun C5 r5 => (cEq (r5) (59) (some ((up C5 95 31 ((C5 95 31) + 1)), 1)) (some (C5, 0)))))))
def f_X8_readsKey_28 (u1 : Int) (k : Int → Mem → Option (Mem × Int)) : Nat → Int → Mem → Option (Mem × Int)
  | 0, _, _ => none
  | n + 1, v2, C => (cLt (v2) (u1) (ix ((C 95 31) + v2) 120 (ix (v2) 8 (f_X8_readsKey_28 u1 k n (v2 + 1) (up C (101) (v2).toNat (C (113) ((C 95 31) + v2).toNat))))) (k (v2) C))
def f_X8_readsKey (C : Mem) : Option (Mem × Int) :=
  (bd (f_X8_skip C) (fun C1 _ => (bd (f_X8_lettersHere C1) (fun C5 r5 => (bd (f_X8_in (r5) (1) (8) C5) (fun C13 r13 => (cEq (r13) 0 (some (C13, 0)) (f_X8_readsKey_28 (r5) (fun (v2_e28 : Int) (C_e28 : Mem) => (some ((up C_e28 95 31 ((C_e28 95 31) + r5)), 1))) FU (0) (up C13 95 12 (r5))))))))))
def f_X8_letterAt (a1 : Int) (C : Mem) : Option (Mem × Int) :=
  (ix ((C 95 31) + a1) 120 (some (C, C (113) ((C 95 31) + a1).toNat)))
def f_X8_commandHere (C : Mem) : Option (Mem × Int) :=
  (bd (f_X8_lettersHere C) (fun C1 r1 => (cEq (r1) (3) (bd (f_X8_letterAt (0) C1) (fun C12 r12 => (cEq (r12) (112) (bd (f_X8_letterAt (1) C12) (fun C22 r22 => (cEq (r22) (117) (bd (f_X8_letterAt (2) C22) (fun C32 r32 => (cEq (r32) (116) (some (C32, 1)) (some (C32, 0))))) (some (C22, 0))))) (some (C12, 0))))) (cEq (r1) (4) (bd (f_X8_letterAt (0) C1) (fun C55 r55 => (jn ((fun (C_95 : Mem) => (bd (f_X8_letterAt (0) C_95) (fun C97 r97 => (cEq (r97) (108) (bd (f_X8_letterAt (1) C97) (fun C107 r107 => (cEq (r107) (111) (bd (f_X8_letterAt (2) C107) (fun C117 r117 => (cEq (r117) (97) (bd (f_X8_letterAt (3) C117) (fun C127 r127 => (cEq (r127) (100) (some (C127, 3)) (some (C127, 0))))) (some (C117, 0))))) (some (C107, 0))))) (some (C97, 0)))))) : Mem → Option (Mem × Int)) (fun j95 => (cEq (r55) (116) (bd (f_X8_letterAt (1) C55) (fun C65 r65 => (cEq (r65) (97) (bd (f_X8_letterAt (2) C65) (fun C75 r75 => (cEq (r75) (107) (bd (f_X8_letterAt (3) C75) (fun C85 r85 => (cEq (r85) (101) (some (C85, 2)) (j95 C85)))) (j95 C75)))) (j95 C65)))) (j95 C55)))))) (some (C1, 0))))))
def f_X8_readsLoad (C : Mem) : Option (Mem × Int) :=
  (bd (f_X8_number (0) (17575) C) (fun C5 r5 => (cEq (r5) 0 (some (C5, 0)) (bd (f_X8_number (1) (99) (up C5 95 33 (C5 95 32))) (fun C25 r25 => (cEq (r25) 0 (some (C25, 0)) (bd (f_X8_skip (up C25 95 34 (C25 95 32))) (fun C42 _ => (bd (f_X8_number (1) (60) C42) (fun C54 r54 => (cEq (r54) 0 (some (C54, 0)) (bd (f_X8_isLoad (C54 95 33) (C54 95 34) (C54 95 32) C54) (fun C74 r74 => (cEq (r74) 0 (some ((up C74 95 31 (C42 95 31)), 0)) (some (C74, 1))))))))))))))))
def f_X8_readsRest (a1 : Int) (C : Mem) : Option (Mem × Int) :=
  (cEq (a1) (3) (bd (f_X8_readsLoad C) (fun C6 r6 => (bo (r6) (some (C6, r6))))) (bd (f_X8_readsKey C) (fun C11 r11 => (cEq (r11) 0 (some (C11, 0)) (cEq (a1) (2) (some (C11, 1)) (bd (f_X8_number (0) (255) C11) (fun C27 r27 => (cEq (r27) 0 (some (C27, 0)) (some (C27, 1))))))))))
def f_X8_readsCommand (C : Mem) : Option (Mem × Int) :=
  (bd (f_X8_commandHere C) (fun C1 r1 => (cEq (r1) 0 (some (C1, 0)) (jn ((fun (s2_26 : Int) => (bd (f_X8_readsRest (r1) (up C1 95 31 ((C1 95 31) + s2_26))) (fun C32 r32 => (cEq (r32) 0 (some (C32, 0)) (bd (f_X8_ends C32) (fun C39 r39 => (cEq (r39) 0 (some (C39, 0)) (some (C39, r1))))))))) : Int → Option (Mem × Int)) (fun j26 => (cEq (r1) (1) (j26 (3)) (j26 (4))))))))
def f_X8_does (a1 : Int) (C : Mem) : Option (Mem × Int) :=
  (cEq (a1) (1) (bd (f_X8_putKey (C 95 32) C) (fun C10 r10 => (cEq (r10) (-3) (some (C10, 0)) (some (C10, 1))))) (cEq (a1) (2) (bd (f_X8_takeKey C) (fun C30 r30 => (cEq (r30) (-9) (some (C30, 0)) (some (C30, 1))))) (bd (f_X8_loads (C 95 33) (C 95 34) (C 95 32) C) (fun C59 r59 => (cLt 0 (r59) (some (C59, 1)) (some (C59, 0)))))))
def f_X8_run_9 (k : Mem → Option (Mem × Int)) : Nat → Mem → Option (Mem × Int)
  | 0, _ => none
  | n + 1, C => (cLt (C 95 31) (C 95 30) (bd (f_X8_readsCommand C) (fun C21 r21 => (cEq (r21) 0 (some (C21, (-10) - (C21 95 31))) (bd (f_X8_skip C21) (fun C36 _ => (f_X8_run_9 k n C36)))))) (k C))
def f_X8_run_53 (k : Int → Mem → Option (Mem × Int)) : Nat → Int → Mem → Option (Mem × Int)
  | 0, _, _ => none
  | n + 1, v1, C => (cLt (C 95 31) (C 95 30) (bd (f_X8_readsCommand C) (fun C67 r67 => (bd (f_X8_does (r67) C67) (fun C70 r70 => (jn ((fun (s1_81 : Int) => (bd (f_X8_skip C70) (fun C84 _ => (f_X8_run_53 k n (v1 + s1_81) C84)))) : Int → Option (Mem × Int)) (fun j81 => (cEq (r70) 0 (j81 (0)) (j81 (1))))))))) (k (v1) C))
def f_X8_run (C : Mem) : Option (Mem × Int) :=
  (bd (f_X8_skip (up C 95 31 (0))) (fun C6 _ => (f_X8_run_9 (fun (C_e9 : Mem) => (bd (f_X8_skip (up C_e9 95 31 (0))) (fun C48 _ => (f_X8_run_53 (fun (v1_e53 : Int) (C_e53 : Mem) => (some ((up C_e53 95 30 (0)), v1_e53))) FU (0) C48)))) FU C6)))
def Agree (Inv : Mem → Mem → Prop) (o1 o2 : Option (Mem × Int)) : Prop := ∃ (C' X' : Mem) (z : Int), o1 = some (C', z) ∧ o2 = some (X', z) ∧ Inv C' X'
def LawOk (Inv : Mem → Mem → Prop) : Prop := ∀ C X : Mem, Inv C X → ∀ a b c : Int, R32 a → R32 b → R32 c → (Agree Inv (f_X7_type a C) (f_X8_type a X)) ∧ (Agree Inv (f_X7_clear C) (f_X8_clear X)) ∧ (Agree Inv (f_X7_run C) (f_X8_run X)) ∧ (Agree Inv (f_X7_put a b c C) (f_X8_put a b c X)) ∧ (Agree Inv (f_X7_take a b C) (f_X8_take a b X)) ∧ (Agree Inv (f_X7_load a b c C) (f_X8_load a b c X)) ∧ (Agree Inv (f_X7_find a b C) (f_X8_find a b X)) ∧ (Agree Inv (f_X7_rank a b c C) (f_X8_rank a b c X)) ∧ (Agree Inv (f_X7_path a b c C) (f_X8_path a b c X)) ∧ (Agree Inv (f_X7_letter a b C) (f_X8_letter a b X)) ∧ (Agree Inv (f_X7_value a C) (f_X8_value a X)) ∧ (Agree Inv (f_X7_page a b C) (f_X8_page a b X)) ∧ (Agree Inv (f_X7_byteAt a b C) (f_X8_byteAt a b X)) ∧ (Agree Inv (f_X7_check a b c C) (f_X8_check a b c X)) ∧ (Agree Inv (f_X7_count a C) (f_X8_count a X)) ∧ (Agree Inv (f_X7_digest C) (f_X8_digest X)) ∧ (Agree Inv (f_X7_keep a C) (f_X8_keep a X)) ∧ (Agree Inv (f_X7_back a C) (f_X8_back a X)) ∧ (Agree Inv (f_X7_times a C) (f_X8_times a X))
def C0 : Mem := fun k j => if k = 1 ∧ j = 5 then 1 else if k = 61 ∧ j = 0 then 1 else 0
def X0 : Mem := fun k j => if k = 95 ∧ j = 2 then 1 else if k = 96 ∧ j = 0 then 1 else 0
end
section
/-! LIBRARY of the pure side: tests, reads and writes. -/
section LB
variable {β : Type} {x y : Option β}
theorem cLt_t {a b : Int} (h : R32 a ∧ R32 b ∧ a < b) : cLt a b x y = x := by unfold cLt; rw [if_pos ⟨h.1, h.2.1⟩, if_pos h.2.2]
theorem cLt_f {a b : Int} (h : R32 a ∧ R32 b ∧ b ≤ a) : cLt a b x y = y := by unfold cLt; rw [if_pos ⟨h.1, h.2.1⟩, if_neg (by omega)]
theorem cLt_i {a b : Int} (h : R32 a ∧ R32 b) : cLt a b x y = if a < b then x else y := by unfold cLt; rw [if_pos h]
theorem cEq_t {a b : Int} (h : R32 a ∧ R32 b ∧ a = b) : cEq a b x y = x := by unfold cEq; rw [if_pos ⟨h.1, h.2.1⟩, if_pos h.2.2]
theorem cEq_f {a b : Int} (h : R32 a ∧ R32 b ∧ a ≠ b) : cEq a b x y = y := by unfold cEq; rw [if_pos ⟨h.1, h.2.1⟩, if_neg h.2.2]
theorem cEq_i {a b : Int} (h : R32 a ∧ R32 b) : cEq a b x y = if a = b then x else y := by unfold cEq; rw [if_pos h]
theorem ix_t {i : Int} {n : Nat} (h : 0 ≤ i ∧ i < n) : ix i n x = x := by unfold ix; rw [if_pos h]
theorem dv_t {a : Int} (h : 0 ≤ a ∧ a < 2147483648) : dv a x = x := by unfold dv; rw [if_pos h]
theorem rg_t {a b : Int} (h : R32 a ∧ R32 b) : rg a b x = x := by unfold rg; rw [if_pos h]
theorem bo_t {z : Int} (h : z = 0 ∨ z = 1) : bo z x = x := by unfold bo; rw [if_pos h]
theorem bd_some {α β : Type} {C : Mem} {z : α} {k : Mem → α → Option (Mem × β)} : bd (some (C, z)) k = k C z := rfl
theorem jn_eq {α β : Type} {k : α} {b : α → β} : jn k b = b k := rfl
/-- a test of a 0/1 answer -/
theorem cEq_b {c : Prop} [Decidable c] : cEq (if c then 1 else 0) 0 x y = if c then y else x := by
  by_cases h : c
  · rw [if_pos h, if_pos h]; exact cEq_f ⟨by decide, by decide, by decide⟩
  · rw [if_neg h, if_neg h]; exact cEq_t ⟨by decide, by decide, rfl⟩
theorem bo_b {c : Prop} [Decidable c] : bo (if c then 1 else 0) x = x := bo_t (by by_cases h : c <;> simp [h])
end LB
theorem up_same {M : Mem} {k j : Nat} {z : Int} : up M k j z k j = z := by unfold up; rw [if_pos ⟨rfl, rfl⟩]
theorem up_k {M : Mem} {k j a b : Nat} {z : Int} (h : a ≠ k) : up M k j z a b = M a b := by unfold up; rw [if_neg (fun q => h q.1)]
theorem up_j {M : Mem} {k j a b : Nat} {z : Int} (h : b ≠ j) : up M k j z a b = M a b := by unfold up; rw [if_neg (fun q => h q.2)]
theorem pl_64 {i : Nat} (h : i ≠ 33) : pl i = 64 := by unfold pl; rw [if_neg h]
theorem pl_33 : pl 33 = 256 := rfl
theorem pl_ge (i : Nat) : 64 ≤ pl i ∧ pl i ≤ 256 := by unfold pl; split <;> omega
end
section
/-! ENTRIES in bytes. An entry: its letters, its tail. -/
abbrev Ent : Type := List Int × Int
def e1 (e : Ent) : List Int := (e.1.length : Int) :: (e.1 ++ [e.2])
def flat (es : List Ent) : List Int := es.flatMap e1
def szs : List Ent → Nat
  | [] => 0
  | e :: r => e.1.length + 2 + szs r
def enc (s l : Int) (es : List Ent) (j : Nat) : Int := if j = 0 then s else if j = 1 then (es.length : Int) else if j = 2 then l else (flat es).getD (j - 3) 0
theorem flat_nil : flat [] = [] := rfl
theorem flat_cons (e : Ent) (r : List Ent) : flat (e :: r) = e1 e ++ flat r := rfl
theorem flat_app (a b : List Ent) : flat (a ++ b) = flat a ++ flat b := by unfold flat; exact List.flatMap_append
theorem szs_nil : szs [] = 0 := rfl
theorem szs_cons (e : Ent) (r : List Ent) : szs (e :: r) = e.1.length + 2 + szs r := rfl
theorem szs_app : ∀ (a b : List Ent), szs (a ++ b) = szs a + szs b
  | [], b => by simp [szs]
  | e :: r, b => by simp [szs, szs_app r b]; omega
theorem e1_len (e : Ent) : (e1 e).length = e.1.length + 2 := by simp [e1]
theorem flat_len : ∀ (es : List Ent), (flat es).length = szs es
  | [] => rfl
  | e :: r => by rw [flat_cons, List.length_append, flat_len r, e1_len]; rfl
theorem len_szs : ∀ (es : List Ent), 2 * es.length ≤ szs es
  | [] => by simp [szs]
  | e :: r => by have := len_szs r; simp [szs]; omega
theorem gd_l {a b : List Int} {j : Nat} (h : j < a.length) : (a ++ b).getD j 0 = a.getD j 0 := by
  rw [List.getD_eq_getElem?_getD, List.getElem?_append_left h, ← List.getD_eq_getElem?_getD]
theorem gd_r {a b : List Int} {j : Nat} (h : a.length ≤ j) : (a ++ b).getD j 0 = b.getD (j - a.length) 0 := by
  rw [List.getD_eq_getElem?_getD, List.getElem?_append_right h, ← List.getD_eq_getElem?_getD]
theorem gd_out {a : List Int} {j : Nat} (h : a.length ≤ j) : a.getD j 0 = 0 := by
  rw [List.getD_eq_getElem?_getD, List.getElem?_eq_none h]; rfl
theorem gd_mem {a : List Int} {j : Nat} (h : j < a.length) : a.getD j 0 ∈ a := by
  rw [List.getD_eq_getElem?_getD, List.getElem?_eq_getElem h]; exact List.getElem_mem h
theorem e1_0 (e : Ent) : (e1 e).getD 0 0 = (e.1.length : Int) := rfl
theorem e1_l (e : Ent) {j : Nat} (h : j < e.1.length) : (e1 e).getD (1 + j) 0 = e.1.getD j 0 := by
  rw [Nat.add_comm]
  show (e.1 ++ [e.2]).getD j 0 = _
  exact gd_l h
theorem e1_t (e : Ent) : (e1 e).getD (1 + e.1.length) 0 = e.2 := by
  rw [Nat.add_comm]
  show (e.1 ++ [e.2]).getD e.1.length 0 = _
  simp
section EN
variable {s l : Int} {es a b : List Ent} {e : Ent} {j : Nat}
theorem enc_0 : enc s l es 0 = s := rfl
theorem enc_1 : enc s l es 1 = (es.length : Int) := rfl
theorem enc_2 : enc s l es 2 = l := rfl
theorem enc_3 : enc s l es (3 + j) = (flat es).getD j 0 := by
  unfold enc
  rw [if_neg (by omega), if_neg (by omega), if_neg (by omega), show 3 + j - 3 = j by omega]
theorem enc_g (h : 3 ≤ j) : enc s l es j = (flat es).getD (j - 3) 0 := by
  unfold enc
  rw [if_neg (by omega), if_neg (by omega), if_neg (by omega)]
/-- a byte of an entry -/
theorem enc_e (hj : j < e.1.length + 2) : enc s l (a ++ e :: b) (3 + (szs a + j)) = (e1 e).getD j 0 := by
  rw [enc_3, flat_app, gd_r (by rw [flat_len]; omega), flat_len, show szs a + j - szs a = j by omega, flat_cons, gd_l (by rw [e1_len]; omega)]
theorem enc_len {z : Nat} (hz : z = 3 + szs a) : enc s l (a ++ e :: b) z = (e.1.length : Int) := by
  rw [hz, show 3 + szs a = 3 + (szs a + 0) by omega, enc_e (by omega), e1_0]
theorem enc_let {z : Nat} (hj : j < e.1.length) (hz : z = 3 + szs a + 1 + j) : enc s l (a ++ e :: b) z = e.1.getD j 0 := by
  rw [hz, show 3 + szs a + 1 + j = 3 + (szs a + (1 + j)) by omega, enc_e (by omega), e1_l e hj]
theorem enc_tail {z : Nat} (hz : z = 3 + szs a + 1 + e.1.length) : enc s l (a ++ e :: b) z = e.2 := by
  rw [hz, show 3 + szs a + 1 + e.1.length = 3 + (szs a + (1 + e.1.length)) by omega, enc_e (by omega), e1_t e]
theorem enc_out (h : 3 + szs es ≤ j) : enc s l es j = 0 := by
  rw [enc_g (by omega), gd_out (by rw [flat_len]; omega)]
/-- entries that may stand in a page -/
def EOk (e : Ent) : Prop := 1 ≤ e.1.length ∧ e.1.length ≤ 8 ∧ (∀ x ∈ e.1, 97 ≤ x ∧ x ≤ 122) ∧ 0 ≤ e.2 ∧ e.2 ≤ 255
def EsOk (es : List Ent) : Prop := ∀ e ∈ es, EOk e
theorem EsOk_app : EsOk (a ++ b) ↔ EsOk a ∧ EsOk b := by
  unfold EsOk
  constructor
  · intro h
    exact ⟨fun x hx => h x (List.mem_append_left _ hx), fun x hx => h x (List.mem_append_right _ hx)⟩
  · rintro ⟨h1, h2⟩ x hx
    rcases List.mem_append.mp hx with h | h
    · exact h1 x h
    · exact h2 x h
theorem EsOk_cons : EsOk (e :: b) ↔ EOk e ∧ EsOk b := by
  unfold EsOk
  simp
theorem EsOk_mid (h : EsOk (a ++ e :: b)) : EOk e := (EsOk_cons.mp (EsOk_app.mp h).2).1
theorem e1_rng (h : EOk e) {x : Int} (hx : x ∈ e1 e) : 0 ≤ x ∧ x ≤ 255 := by
  obtain ⟨h1, h2, h3, h4, h5⟩ := h
  unfold e1 at hx
  rcases List.mem_cons.mp hx with h | h
  · omega
  · rcases List.mem_append.mp h with h | h
    · have := h3 x h; omega
    · have := List.mem_singleton.mp h; omega
theorem flat_rng (h : EsOk es) {x : Int} (hx : x ∈ flat es) : 0 ≤ x ∧ x ≤ 255 := by
  unfold flat at hx
  obtain ⟨e, he, hx⟩ := List.mem_flatMap.mp hx
  exact e1_rng (h e he) hx
theorem enc_rng (h : EsOk es) (hs : 0 ≤ s ∧ s ≤ 255) (hl : 0 ≤ l ∧ l ≤ 255) (hz : szs es ≤ 253) : 0 ≤ enc s l es j ∧ enc s l es j ≤ 255 := by
  unfold enc
  have hn := len_szs es
  split
  · exact hs
  · split
    · omega
    · split
      · exact hl
      · by_cases hk : j - 3 < (flat es).length
        · exact flat_rng h (gd_mem hk)
        · rw [gd_out (by omega)]; omega
theorem len_szs3 : ∀ (es : List Ent), EsOk es → 3 * es.length ≤ szs es
  | [], _ => by simp [szs]
  | e :: r, h => by have h1 := EsOk_cons.mp h; have := len_szs3 r h1.2; have := h1.1.1; simp [szs]; omega
end EN
/-! ORDER of letters -/
def cmp : List Int → List Int → Int
  | [], [] => 0
  | [], _ :: _ => -1
  | _ :: _, [] => 1
  | a :: r, b :: t => if a = b then cmp r t else if a < b then -1 else 1
theorem cmp_rng : ∀ (u v : List Int), cmp u v = -1 ∨ cmp u v = 0 ∨ cmp u v = 1
  | [], [] => by simp [cmp]
  | [], _ :: _ => by simp [cmp]
  | _ :: _, [] => by simp [cmp]
  | a :: r, b :: t => by
    unfold cmp
    split
    · exact cmp_rng r t
    · split <;> simp
theorem cmp_anti : ∀ (u v : List Int), cmp u v = - cmp v u
  | [], [] => by simp [cmp]
  | [], _ :: _ => by simp [cmp]
  | _ :: _, [] => by simp [cmp]
  | a :: r, b :: t => by
    unfold cmp
    by_cases h : a = b
    · rw [if_pos h, if_pos h.symm]; exact cmp_anti r t
    · rw [if_neg h, if_neg (Ne.symm h)]
      by_cases h2 : a < b
      · rw [if_pos h2, if_neg (by omega)]
      · rw [if_neg h2, if_pos (by omega)]; rfl
theorem cmp_eq : ∀ (u v : List Int), cmp u v = 0 ↔ u = v
  | [], [] => by simp [cmp]
  | [], _ :: _ => by simp [cmp]
  | _ :: _, [] => by simp [cmp]
  | a :: r, b :: t => by
    unfold cmp
    by_cases h : a = b
    · rw [if_pos h, cmp_eq r t]; simp [h]
    · rw [if_neg h]
      split <;> simp [h]
theorem cmp_refl (u : List Int) : cmp u u = 0 := (cmp_eq u u).mpr rfl
theorem cmp_trans : ∀ (u v w : List Int), cmp u v < 0 → cmp v w < 0 → cmp u w < 0
  | [], [], w => by intro h; simp [cmp] at h
  | [], b :: t, [] => by intro _ h; simp [cmp] at h
  | [], b :: t, c :: q => by intro _ _; simp [cmp]
  | a :: r, [], w => by intro h; simp [cmp] at h
  | a :: r, b :: t, [] => by intro _ h; simp [cmp] at h
  | a :: r, b :: t, c :: q => by
    unfold cmp
    by_cases h1 : a = b
    · subst h1
      rw [if_pos rfl]
      by_cases h2 : a = c
      · subst h2
        rw [if_pos rfl, if_pos rfl]
        exact cmp_trans r t q
      · rw [if_neg h2, if_neg h2]
        intro _ h
        exact h
    · rw [if_neg h1]
      by_cases h2 : a < b
      · rw [if_pos h2]
        intro _
        by_cases h3 : b = c
        · subst h3
          rw [if_neg h1, if_pos h2]
          intro _
          decide
        · rw [if_neg h3]
          by_cases h4 : b < c
          · intro _
            rw [if_neg (by omega), if_pos (by omega)]
            decide
          · rw [if_neg h4]; intro h; exact absurd h (by decide)
      · rw [if_neg h2]; intro h; exact absurd h (by decide)
theorem cmp_nil_le (u : List Int) : cmp [] u ≤ 0 := by cases u <;> simp [cmp]
/-- u not above v, v below w -/
theorem cmp_le_lt {u v w : List Int} (h1 : cmp u v ≤ 0) (h2 : cmp v w < 0) : cmp u w < 0 := by
  by_cases h : cmp u v = 0
  · rw [(cmp_eq u v).mp h]; exact h2
  · exact cmp_trans u v w (by omega) h2
theorem cmp_lt_le {u v w : List Int} (h1 : cmp u v < 0) (h2 : cmp v w ≤ 0) : cmp u w < 0 := by
  by_cases h : cmp v w = 0
  · rw [← (cmp_eq v w).mp h]; exact h1
  · exact cmp_trans u v w h1 (by omega)
theorem cmp_le_le {u v w : List Int} (h1 : cmp u v ≤ 0) (h2 : cmp v w ≤ 0) : cmp u w ≤ 0 := by
  by_cases h : cmp u v = 0
  · rw [(cmp_eq u v).mp h]; exact h2
  · have := cmp_lt_le (u := u) (v := v) (w := w) (by omega) h2
    omega
/-- one letter of a comparison: letters are above 0 -/
theorem cmp_drop {u v : List Int} (hu : ∀ x ∈ u, 0 < x) (hv : ∀ x ∈ v, 0 < x) (j : Nat) : cmp (u.drop j) (v.drop j) = if u.getD j 0 = v.getD j 0 then cmp (u.drop (j + 1)) (v.drop (j + 1)) else if u.getD j 0 < v.getD j 0 then -1 else 1 := by
  by_cases h1 : j < u.length
  · have e1 : u.getD j 0 = u[j] := by rw [List.getD_eq_getElem?_getD, List.getElem?_eq_getElem h1]; rfl
    have p1 := hu _ (List.getElem_mem h1)
    rw [List.drop_eq_getElem_cons h1]
    by_cases h2 : j < v.length
    · have e2 : v.getD j 0 = v[j] := by rw [List.getD_eq_getElem?_getD, List.getElem?_eq_getElem h2]; rfl
      rw [List.drop_eq_getElem_cons h2, e1, e2]
      rfl
    · rw [List.drop_eq_nil_of_le (show v.length ≤ j by omega), gd_out (show v.length ≤ j by omega), e1, if_neg (by omega), if_neg (by omega)]
      rfl
  · rw [List.drop_eq_nil_of_le (show u.length ≤ j by omega), gd_out (show u.length ≤ j by omega), List.drop_eq_nil_of_le (show u.length ≤ j + 1 by omega)]
    by_cases h2 : j < v.length
    · have e2 : v.getD j 0 = v[j] := by rw [List.getD_eq_getElem?_getD, List.getElem?_eq_getElem h2]; rfl
      have p2 := hv _ (List.getElem_mem h2)
      rw [List.drop_eq_getElem_cons h2, e2, if_neg (by omega), if_pos p2]
      rfl
    · rw [List.drop_eq_nil_of_le (show v.length ≤ j by omega), gd_out (show v.length ≤ j by omega), if_pos rfl, List.drop_eq_nil_of_le (show v.length ≤ j + 1 by omega)]
/-- how far two go alike -/
def cp : List Int → List Int → Nat
  | a :: r, b :: t => if a = b then cp r t + 1 else 0
  | _, _ => 0
theorem cp_le : ∀ (u v : List Int), cp u v ≤ u.length ∧ cp u v ≤ v.length
  | [], v => by simp [cp]
  | _ :: _, [] => by simp [cp]
  | a :: r, b :: t => by
    unfold cp
    have := cp_le r t
    split <;> simp <;> omega
theorem cp_lt : ∀ (u v : List Int), cmp u v < 0 → cp u v < v.length
  | [], [] => by intro h; simp [cmp] at h
  | [], b :: t => by simp [cp]
  | a :: r, [] => by intro h; simp [cmp] at h
  | a :: r, b :: t => by
    unfold cmp cp
    by_cases h : a = b
    · rw [if_pos h, if_pos h]; intro q; have := cp_lt r t q; simp; omega
    · rw [if_neg h, if_neg h]; simp
/-- the shortest head of v that is above u -/
def sep (u v : List Int) : List Int := v.take (cp u v + 1)
theorem sep_gt : ∀ (u v : List Int), cmp u v < 0 → cmp u (sep u v) < 0
  | [], [] => by intro h; simp [cmp] at h
  | [], b :: t => by intro _; simp [sep, cp, cmp]
  | a :: r, [] => by intro h; simp [cmp] at h
  | a :: r, b :: t => by
    intro h
    have ih := sep_gt r t
    unfold sep cp
    unfold cmp at h
    by_cases q : a = b
    · rw [if_pos q] at h
      rw [if_pos q, List.take_succ_cons]
      unfold cmp
      rw [if_pos q]
      exact ih h
    · rw [if_neg q] at h
      rw [if_neg q, List.take_succ_cons]
      unfold cmp
      rw [if_neg q]
      exact h
theorem cmp_take : ∀ (v : List Int) (k : Nat), cmp (v.take k) v ≤ 0
  | [], k => by simp [cmp]
  | b :: t, 0 => by simp [cmp]
  | b :: t, k + 1 => by
    rw [List.take_succ_cons]
    unfold cmp
    rw [if_pos rfl]
    exact cmp_take t k
theorem sep_le (u v : List Int) : cmp (sep u v) v ≤ 0 := cmp_take v _
theorem sep_len {u v : List Int} (h : cmp u v < 0) : (sep u v).length = cp u v + 1 := by
  unfold sep
  rw [List.length_take]
  have := cp_lt u v h
  omega
end
section
/-! CLASS: what reads a page. -/
section TS
variable {β : Type} {x y : Option β}
theorem tLt {a b : Int} (h : -2147483648 ≤ a ∧ b < 2147483648 ∧ a < b) : cLt a b x y = x := cLt_t ⟨⟨h.1, by omega⟩, ⟨by omega, h.2.1⟩, h.2.2⟩
theorem fLt {a b : Int} (h : -2147483648 ≤ b ∧ a < 2147483648 ∧ b ≤ a) : cLt a b x y = y := cLt_f ⟨⟨by omega, h.2.1⟩, ⟨h.1, by omega⟩, h.2.2⟩
theorem tEq {a b : Int} (h : -2147483648 ≤ a ∧ a < 2147483648 ∧ a = b) : cEq a b x y = x := cEq_t ⟨⟨h.1, h.2.1⟩, ⟨by omega, by omega⟩, h.2.2⟩
theorem fEq {a b : Int} (h : -2147483648 ≤ a ∧ a < 2147483648 ∧ -2147483648 ≤ b ∧ b < 2147483648 ∧ a ≠ b) : cEq a b x y = y := cEq_f ⟨⟨h.1, h.2.1⟩, ⟨h.2.2.1, h.2.2.2.1⟩, h.2.2.2.2⟩
theorem iLt {a b : Int} (h : -2147483648 ≤ a ∧ a < 2147483648 ∧ -2147483648 ≤ b ∧ b < 2147483648) : cLt a b x y = if a < b then x else y := cLt_i ⟨⟨h.1, h.2.1⟩, ⟨h.2.2.1, h.2.2.2⟩⟩
theorem iEq {a b : Int} (h : -2147483648 ≤ a ∧ a < 2147483648 ∧ -2147483648 ≤ b ∧ b < 2147483648) : cEq a b x y = if a = b then x else y := cEq_i ⟨⟨h.1, h.2.1⟩, ⟨h.2.2.1, h.2.2.2⟩⟩
end TS
theorem nat2 {z : Int} {n : Nat} (h : z = (n : Int)) : z.toNat = n := by omega
def PgC (C : Mem) (i : Nat) (s l : Int) (es : List Ent) : Prop := (∀ j, j < pl i → C (61 + i) j = enc s l es j) ∧ EsOk es ∧ 3 + szs es ≤ pl i ∧ (0 ≤ s ∧ s ≤ 255) ∧ (0 ≤ l ∧ l ≤ 255)
def LOk (w : List Int) : Prop := w.length ≤ 8 ∧ ∀ x ∈ w, 97 ≤ x ∧ x ≤ 122
def KyC (C : Mem) (k : Nat) (w : List Int) : Prop := C (10 + 2 * k) 1 = (w.length : Int) ∧ (∀ j, j < w.length → C (11 + 2 * k) j = w.getD j 0) ∧ LOk w
theorem LOk_gd {w : List Int} (h : LOk w) (j : Nat) : 0 ≤ w.getD j 0 ∧ w.getD j 0 ≤ 122 := by
  by_cases hj : j < w.length
  · have := h.2 _ (gd_mem hj); omega
  · rw [gd_out (by omega)]; omega
theorem LOk_pos {w : List Int} (h : LOk w) : ∀ x ∈ w, 0 < x := fun x hx => by have := h.2 x hx; omega
theorem EOk_L {e : Ent} (h : EOk e) : LOk e.1 := ⟨h.2.1, h.2.2.1⟩
section CR
variable {C : Mem} {i : Nat} {s l : Int} {es a b : List Ent} {e : Ent} {w : List Int} {k : Nat}
theorem PgC_len (h : PgC C i s l es) : szs es ≤ 253 ∧ 2 * es.length ≤ 253 := by
  have h1 := h.2.2.1
  have h2 := pl_ge i
  have h3 := len_szs es
  omega
theorem sp_at (h : PgC C i s l es) {z : Int} (h0 : 0 ≤ z) (h1 : z < 2147483648) : f_X4_at i z C = some (C, enc s l es z.toNat) := by
  have h2 := pl_ge i
  unfold f_X4_at
  rw [fLt (by omega)]
  by_cases hz : z < (pl i : Nat)
  · rw [tLt (by omega), ix_t (by omega), h.1 _ (by omega)]
  · rw [fLt (by omega), enc_out (by have := h.2.2.1; omega)]
theorem sp_entries (h : PgC C i s l es) : f_X4_entries i C = some (C, (es.length : Int)) := by
  have h2 := pl_ge i
  unfold f_X4_entries
  rw [ix_t (by omega), h.1 1 (by omega), enc_1]
theorem sp_sort (h : PgC C i s l es) : f_X4_sort i C = some (C, s) := by
  have h2 := pl_ge i
  unfold f_X4_sort
  rw [ix_t (by omega), h.1 0 (by omega), enc_0]
theorem sp_link (h : PgC C i s l es) : f_X4_link i C = some (C, l) := by
  have h2 := pl_ge i
  unfold f_X4_link
  rw [ix_t (by omega), h.1 2 (by omega), enc_2]
theorem lp_offset {K : Int → Int → Mem → Option (Mem × Int)} {u : Int} (h : PgC C i s l es) : ∀ (b a c : List Ent) (n : Nat) (v2 v3 : Int), es = a ++ b ++ c → u = ((a ++ b).length : Int) → b.length < n → v2 = (3 + szs a : Nat) → v3 = (a.length : Int) → f_X4_offset_4 i u K n v2 v3 C = K ((3 + szs (a ++ b) : Nat) : Int) u C
  | _, _, _, 0 => by intros; omega
  | [], a, c, n + 1 => by
    intro v2 v3 h1 h2 h3 h4 h5
    have h6 := PgC_len h
    rw [List.append_nil] at h2 ⊢
    have h7 : a.length ≤ es.length := by rw [h1]; simp
    unfold f_X4_offset_4
    rw [fLt (by omega), h4, h5, h2]
  | e :: b, a, c, n + 1 => by
    intro v2 v3 h1 h2 h3 h4 h5
    have h6 := PgC_len h
    have h7 := pl_ge i
    have h8 : szs es = szs a + (e.1.length + 2 + szs b) + szs c := by rw [h1, szs_app, szs_app, szs_cons]
    have h9 : es.length = a.length + (b.length + 1) + c.length := by rw [h1]; simp; omega
    have hu : u = ((a.length + (b.length + 1) : Nat) : Int) := by rw [h2]; simp
    have hf := h.2.2.1
    have he : C (61 + i) v2.toNat = (e.1.length : Int) := by
      rw [nat2 h4, h.1 _ (by omega), h1, List.append_assoc, List.cons_append, enc_len rfl]
    unfold f_X4_offset_4
    rw [tLt (by omega), tLt (by omega), ix_t (by omega), he]
    have q := lp_offset (K := K) (u := u) h b (a ++ [e]) c n (v2 + ((e.1.length : Int) + 2)) (v3 + 1) (by rw [h1]; simp) (by rw [h2]; simp) (by simp at h3; omega) (by rw [szs_app, szs_cons, szs_nil]; omega) (by simp; omega)
    rw [q, List.append_assoc]
    rfl
theorem sp_offset (h : PgC C i s l (a ++ b)) {z : Int} (hz : z = (a.length : Int)) : f_X4_offset i z C = some (C, ((3 + szs a : Nat) : Int)) := by
  unfold f_X4_offset
  have h6 := PgC_len h
  have hf := FU_eq
  have q := lp_offset (K := fun (v2_e4 : Int) (v3_e4 : Int) (C_e4 : Mem) => (some (C_e4, v2_e4))) (u := z) h a [] b FU 3 0 (by simp) (by rw [hz]; simp) (by simp at h6; omega) (by rw [szs_nil]; rfl) rfl
  rw [q]
  rfl
theorem sp_offset_all (h : PgC C i s l es) {z : Int} (hz : z = (es.length : Int)) : f_X4_offset i z C = some (C, ((3 + szs es : Nat) : Int)) := sp_offset (b := []) (by rw [List.append_nil]; exact h) hz
theorem sp_used (h : PgC C i s l es) (hs : s ≠ 0) : f_X4_used i C = some (C, ((3 + szs es : Nat) : Int)) := by
  unfold f_X4_used
  have := h.2.2.2.1
  rw [sp_sort h, bd_some, fEq (by omega), sp_entries h, bd_some, sp_offset_all h rfl, bd_some]
theorem sp_used0 (h : PgC C i 0 l es) : f_X4_used i C = some (C, 0) := by
  unfold f_X4_used
  rw [sp_sort h, bd_some, tEq (by omega)]
theorem sp_letters (h : PgC C i s l (a ++ e :: b)) {z : Int} (hz : z = (a.length : Int)) : f_X4_letters i z C = some (C, (e.1.length : Int)) := by
  have h6 := PgC_len h
  rw [szs_app] at h6
  unfold f_X4_letters
  rw [sp_offset h hz, bd_some, sp_at h (by omega) (by omega), bd_some, nat2 rfl, enc_len rfl]
theorem sp_tail (h : PgC C i s l (a ++ e :: b)) {z : Int} (hz : z = (a.length : Int)) : f_X4_tail i z C = some (C, e.2) := by
  have h6 := PgC_len h
  rw [szs_app, szs_cons] at h6
  have h' : PgC C i s l ((a ++ [e]) ++ b) := by rw [List.append_assoc]; exact h
  unfold f_X4_tail
  rw [sp_offset h' (by simp; omega), bd_some, szs_app, szs_cons, szs_nil, sp_at h (by omega) (by omega), bd_some, enc_tail (by omega)]
theorem sp_child0 (h : PgC C i s l es) : f_X4_child i 0 C = some (C, l) := by
  unfold f_X4_child
  rw [fLt (by omega), sp_link h, bd_some]
theorem sp_child1 (h : PgC C i s l (a ++ e :: b)) {z : Int} (hz : z = (a.length : Int) + 1) : f_X4_child i z C = some (C, e.2) := by
  have h6 := PgC_len h
  have h7 : (a ++ e :: b).length = a.length + (b.length + 1) := by simp
  have q := sp_tail h (z := z - 1) (by omega)
  unfold f_X4_tail at q
  unfold f_X4_child
  rw [tLt (by omega)]
  rw [show z - 1 + 1 = z by omega] at q
  exact q
theorem sp_kat (h : KyC C k w) {z : Int} (h0 : 0 ≤ z) (h1 : z < 2147483648) : f_X3_at k z C = some (C, w.getD z.toNat 0) := by
  unfold f_X3_at
  have h2 := h.2.2.1
  rw [fLt (by omega), h.1]
  by_cases hz : z < w.length
  · rw [tLt (by omega), tLt (by omega), ix_t (by omega), h.2.1 _ (by omega)]
  · rw [fLt (by omega), gd_out (by omega)]
theorem lp_compare {K : Int → Mem → Option (Mem × Int)} (h : PgC C i s l (a ++ e :: b)) (hk : KyC C k w) : ∀ (m n : Nat) (v : Int), v = ((8 - m : Nat) : Int) → m ≤ 8 → m < n → f_X4_compare_16 i k ((3 + szs a : Nat) : Int) (e.1.length : Int) (fun _ C => some (C, 0)) n v C = some (C, cmp (e.1.drop (8 - m)) (w.drop (8 - m)))
  | _, 0 => by intros; omega
  | 0, n + 1 => by
    intro v hv _ _
    have h6 := (EsOk_mid h.2.1).2.1
    unfold f_X4_compare_16
    rw [fLt (by omega), List.drop_eq_nil_of_le (by omega), List.drop_eq_nil_of_le (show w.length ≤ 8 - 0 by have := hk.2.2.1; omega)]
    rfl
  | m + 1, n + 1 => by
    intro v hv hm hn
    have he := EsOk_mid h.2.1
    have h6 := PgC_len h
    rw [szs_app, szs_cons] at h6
    have hkl := LOk_gd hk.2.2 (8 - (m + 1))
    have hel := LOk_gd (EOk_L he) (8 - (m + 1))
    have q := lp_compare (K := K) h hk m n (v + 1) (by omega) (by omega) (by omega)
    have hstep := cmp_drop (LOk_pos (EOk_L he)) (LOk_pos hk.2.2) (8 - (m + 1))
    rw [show 8 - (m + 1) + 1 = 8 - m by omega] at hstep
    rw [hstep]
    unfold f_X4_compare_16
    rw [tLt (by omega), jn_eq]
    have tl : ∀ z : Int, z = e.1.getD (8 - (m + 1)) 0 → (fun (s0_44 : Int) (C_44 : Mem) => (bd (f_X3_at k (v) C_44) (fun C51 r51 => (cEq (s0_44) (r51) (f_X4_compare_16 i k ((3 + szs a : Nat) : Int) (e.1.length : Int) (fun _ C => some (C, 0)) n (v + 1) C51) (bd (f_X3_at k (v) C51) (fun C62 r62 => (cLt (s0_44) (r62) (some (C62, -1)) (some (C62, 1))))))))) z C = some (C, if e.1.getD (8 - (m + 1)) 0 = w.getD (8 - (m + 1)) 0 then cmp (e.1.drop (8 - m)) (w.drop (8 - m)) else if e.1.getD (8 - (m + 1)) 0 < w.getD (8 - (m + 1)) 0 then -1 else 1) := by
      intro z hz
      rw [← hz] at hel ⊢
      show bd (f_X3_at k v C) _ = _
      rw [sp_kat hk (by omega) (by omega), bd_some, nat2 hv]
      by_cases hc : z = w.getD (8 - (m + 1)) 0
      · rw [tEq (by omega), q, if_pos hc]
      · rw [fEq (by omega), sp_kat hk (by omega) (by omega), bd_some, nat2 hv, if_neg hc]
        by_cases hd : z < w.getD (8 - (m + 1)) 0
        · rw [tLt (by omega), if_pos hd]
        · rw [fLt (by omega), if_neg hd]
    by_cases hj : 8 - (m + 1) < e.1.length
    · rw [tLt (by omega), sp_at h (by omega) (by omega), bd_some]
      refine tl _ ?_
      rw [enc_let hj (by omega)]
    · rw [fLt (by have := he.2.1; omega)]
      refine tl _ ?_
      rw [gd_out (by omega)]
theorem sp_compare (h : PgC C i s l (a ++ e :: b)) (hk : KyC C k w) {z : Int} (hz : z = (a.length : Int)) : f_X4_compare i z k C = some (C, cmp e.1 w) := by
  have h6 := PgC_len h
  rw [szs_app] at h6
  unfold f_X4_compare
  have hf := FU_eq
  rw [sp_offset h hz, bd_some, sp_at h (by omega) (by omega), bd_some, nat2 rfl, enc_len rfl]
  exact lp_compare (K := fun _ C => some (C, 0)) h hk 8 FU 0 rfl (by omega) (by omega)
/-- how many stand ahead: t = 0: below w; t = 1: below or alike -/
def cb (t : Int) (w : List Int) : List Ent → Nat
  | [] => 0
  | e :: r => if cmp e.1 w < t then cb t w r + 1 else 0
theorem lp_below {K : Int → Mem → Option (Mem × Int)} {t : Int} (ht : t = 0 ∨ t = 1) (h : PgC C i s l es) (hk : KyC C k w) : ∀ (b a : List Ent) (n : Nat) (v : Int), es = a ++ b → v = (a.length : Int) → b.length < n → f_X4_entriesBelow_2 i k t K n v C = K ((a.length + cb t w b : Nat) : Int) C
  | _, _, 0 => by intros; omega
  | [], a, n + 1 => by
    intro v h1 hv _
    have h6 := PgC_len h
    unfold f_X4_entriesBelow_2
    rw [sp_entries h, bd_some, fLt (by rw [h1] at h6 ⊢; simp at h6 ⊢; omega), hv]
    rfl
  | e :: b, a, n + 1 => by
    intro v h1 hv hn
    have h6 := PgC_len h
    have h9 : es.length = a.length + (b.length + 1) := by rw [h1]; simp
    have hc := cmp_rng e.1 w
    have q := lp_below (K := K) ht h hk b (a ++ [e]) n (v + 1) (by rw [h1]; simp) (by simp; omega) (by simp at hn; omega)
    unfold f_X4_entriesBelow_2
    rw [sp_entries h, bd_some, tLt (by omega), sp_compare (by rw [← h1]; exact h) hk hv, bd_some, jn_eq]
    unfold cb
    have fin : cLt (cmp e.1 w) t (f_X4_entriesBelow_2 i k t K n (v + 1) C) (K v C) = K ((a.length + (if cmp e.1 w < t then cb t w b + 1 else 0) : Nat) : Int) C := by
      by_cases hd : cmp e.1 w < t
      · rw [tLt (by omega), q, if_pos hd]
        congr 1
        simp
        omega
      · rw [fLt (by omega), if_neg hd, hv]
        rfl
    rcases ht with ht | ht
    · subst ht
      rw [tEq (by omega)]
      exact fin
    · subst ht
      rw [fEq (by omega)]
      exact fin
theorem sp_below {t : Int} (ht : t = 0 ∨ t = 1) (h : PgC C i s l es) (hk : KyC C k w) : f_X4_entriesBelow i k t C = some (C, (cb t w es : Int)) := by
  have h6 := PgC_len h
  have hf := FU_eq
  unfold f_X4_entriesBelow
  rw [lp_below ht h hk es [] FU 0 rfl rfl (by omega)]
  simp
theorem sp_isEntry (h : PgC C i s l (a ++ e :: b)) (hk : KyC C k w) {z : Int} (hz : z = (a.length : Int)) : f_X4_isEntry i z k C = some (C, if cmp e.1 w = 0 then 1 else 0) := by
  have h6 := PgC_len h
  have h7 : (a ++ e :: b).length = a.length + (b.length + 1) := by simp
  have hc := cmp_rng e.1 w
  unfold f_X4_isEntry
  rw [sp_entries h, bd_some, tLt (by omega), sp_compare h hk hz, bd_some]
  by_cases hd : cmp e.1 w = 0
  · rw [tEq (by omega), if_pos hd]
  · rw [fEq (by omega), if_neg hd]
theorem sp_isEntry_end (h : PgC C i s l es) {z : Int} (hz : z = (es.length : Int)) : f_X4_isEntry i z k C = some (C, 0) := by
  have h6 := PgC_len h
  unfold f_X4_isEntry
  rw [sp_entries h, bd_some, fLt (by omega)]
end CR
end
section
/-! CLASS: what writes a page. -/
def stI (C : Mem) (k m n : Nat) (g : Nat → Int) : Mem := fun a b => if a = k ∧ m ≤ b ∧ b < n then g b else C a b
def stP (C : Mem) (i : Nat) (g : Nat → Int) : Mem := stI C (61 + i) 0 (pl i) g
section WR
variable {C : Mem} {i k m n : Nat} {g : Nat → Int} {s l : Int} {es a b c : List Ent} {e : Ent} {w : List Int}
theorem stI_ap {x y : Nat} : stI C k m n g x y = if x = k ∧ m ≤ y ∧ y < n then g y else C x y := rfl
theorem up_ap {x y : Nat} {z : Int} : up C k m z x y = if x = k ∧ y = m then z else C x y := rfl
theorem stI_nil : stI C k m m g = C := by
  funext x y
  unfold stI
  rw [if_neg (by omega)]
theorem stI_up (h : m ≤ n) {z : Int} (hz : z = g n) : up (stI C k m n g) k n z = stI C k m (n + 1) g := by
  funext x y
  rw [up_ap, stI_ap, stI_ap]
  by_cases h1 : x = k ∧ y = n
  · rw [if_pos h1, if_pos (by omega), hz, h1.2]
  · rw [if_neg h1]
    by_cases h2 : x = k ∧ m ≤ y ∧ y < n
    · rw [if_pos h2, if_pos (by omega)]
    · rw [if_neg h2, if_neg (by omega)]
theorem stI_dn (h : m < n) {z : Int} (hz : z = g m) : up (stI C k (m + 1) n g) k m z = stI C k m n g := by
  funext x y
  rw [up_ap, stI_ap, stI_ap]
  by_cases h1 : x = k ∧ y = m
  · rw [if_pos h1, if_pos (by omega), hz, h1.2]
  · rw [if_neg h1]
    by_cases h2 : x = k ∧ m + 1 ≤ y ∧ y < n
    · rw [if_pos h2, if_pos (by omega)]
    · rw [if_neg h2, if_neg (by omega)]
theorem stI_k {x y : Nat} (h : x ≠ k) : stI C k m n g x y = C x y := by
  unfold stI
  rw [if_neg (by omega)]
theorem stI_out {x y : Nat} (h : y < m ∨ n ≤ y) : stI C k m n g x y = C x y := by
  unfold stI
  rw [if_neg (by omega)]
theorem stI_in {y : Nat} (h : m ≤ y ∧ y < n) : stI C k m n g k y = g y := by
  unfold stI
  rw [if_pos ⟨rfl, h⟩]
theorem stP_k {x y : Nat} (h : x ≠ 61 + i) : stP C i g x y = C x y := stI_k h
theorem stP_in {y : Nat} (h : y < pl i) : stP C i g (61 + i) y = g y := stI_in ⟨Nat.zero_le _, h⟩
theorem rw_at {z : Int} (h : 0 ≤ z ∧ z < (pl i : Nat)) : f_X4_at i z C = some (C, C (61 + i) z.toNat) := by
  have h2 := pl_ge i
  unfold f_X4_at
  rw [fLt (by omega), tLt (by omega), ix_t (by omega)]
theorem rw_at_out {z : Int} (h : (pl i : Nat) ≤ z ∧ z < 2147483648) : f_X4_at i z C = some (C, 0) := by
  have h2 := pl_ge i
  unfold f_X4_at
  rw [fLt (by omega), fLt (by omega)]
theorem sp_set {z v : Int} (h : 0 ≤ z ∧ z < (pl i : Nat)) : f_X4_set i z v C = some (up C (61 + i) z.toNat v, 0) := by
  have h2 := pl_ge i
  unfold f_X4_set
  rw [fLt (by omega), tLt (by omega), ix_t (by omega)]
theorem sp_setLink {v : Int} : f_X4_setLink i v C = some (up C (61 + i) 2 v, 0) := by
  have h2 := pl_ge i
  unfold f_X4_setLink
  rw [ix_t (by omega)]
theorem lp_fill {v : Int} {K : Int → Mem → Option (Mem × Int)} : ∀ (m n : Nat) (z : Int), z = ((pl i - m : Nat) : Int) → m ≤ pl i → m < n → f_J7_fill_53178_5 i v ((pl i : Nat) : Int) K n z (stI C (61 + i) 0 (pl i - m) (fun _ => v)) = K ((pl i : Nat) : Int) (stP C i (fun _ => v))
  | _, 0 => by intros; omega
  | 0, n + 1 => by
    intro z hz _ _
    have h2 := pl_ge i
    unfold f_J7_fill_53178_5
    rw [fLt (by omega), hz]
    rfl
  | m + 1, n + 1 => by
    intro z hz hm hn
    have h2 := pl_ge i
    have q := lp_fill (v := v) (K := K) m n (z + 1) (by omega) (by omega) (by omega)
    unfold f_J7_fill_53178_5
    rw [tLt (by omega), ix_t (by omega), nat2 hz, stI_up (by omega) rfl, show pl i - (m + 1) + 1 = pl i - m by omega]
    exact q
theorem sp_fill {v : Int} : f_J7_fill_53178 i v C = some (stP C i (fun _ => v), 0) := by
  have h2 := pl_ge i
  have hf := FU_eq
  unfold f_J7_fill_53178
  have q := lp_fill (C := C) (i := i) (v := v) (K := fun (v2_e5 : Int) (C_e5 : Mem) => (some (C_e5, 0))) (pl i) FU 0 (by omega) (by omega) (by omega)
  rw [show pl i - pl i = 0 by omega, stI_nil] at q
  exact q
theorem sp_release : f_X4_release i C = some (stP C i (enc 0 0 []), 0) := by
  unfold f_X4_release
  rw [sp_fill, bd_some]
  congr 2
  congr 1
  funext j
  unfold enc
  simp [flat]
theorem sp_begin : f_X4_begin i s l C = some (stP C i (enc s l []), 0) := by
  have h2 := pl_ge i
  unfold f_X4_begin
  rw [sp_fill, bd_some, ix_t (by omega), ix_t (by omega)]
  congr 2
  funext x y
  unfold stP
  rw [up_ap, up_ap, stI_ap, stI_ap]
  unfold enc
  by_cases h1 : x = 61 + i
  · by_cases hy2 : y = 2
    · rw [if_pos ⟨h1, hy2⟩, if_pos (by omega), if_neg (by omega), if_neg (by omega), if_pos hy2]
    · rw [if_neg (by omega)]
      by_cases hy0 : y = 0
      · rw [if_pos ⟨h1, hy0⟩, if_pos (by omega), if_pos hy0]
      · rw [if_neg (by omega)]
        by_cases hy : y < pl i
        · rw [if_pos (by omega), if_pos (by omega), if_neg hy0, if_neg hy2]
          simp [flat]
        · rw [if_neg (by omega), if_neg (by omega)]
  · rw [if_neg (by omega), if_neg (by omega), if_neg (by omega), if_neg (by omega)]
/-- copying a page -/
theorem lp_copy {K : Int → Mem → Option (Mem × Int)} {j : Nat} (hij : i ≠ j) (h : PgC C j s l es) : ∀ (m n : Nat) (z : Int), z = ((pl i - m : Nat) : Int) → m ≤ pl i → m < n → f_X4_copyFrom_2 i j K n z (stI C (61 + i) 0 (pl i - m) (enc s l es)) = K ((pl i : Nat) : Int) (stP C i (enc s l es))
  | _, 0 => by intros; omega
  | 0, n + 1 => by
    intro z hz _ _
    have h2 := pl_ge i
    unfold f_X4_copyFrom_2
    rw [fLt (by omega), hz]
    rfl
  | m + 1, n + 1 => by
    intro z hz hm hn
    have h2 := pl_ge i
    have h3 : PgC (stI C (61 + i) 0 (pl i - (m + 1)) (enc s l es)) j s l es := ⟨fun y hy => by rw [stI_k (by omega)]; exact h.1 y hy, h.2⟩
    have q := lp_copy (K := K) hij h m n (z + 1) (by omega) (by omega) (by omega)
    unfold f_X4_copyFrom_2
    rw [tLt (by omega), sp_at h3 (by omega) (by omega), bd_some, ix_t (by omega), nat2 hz, stI_up (by omega) rfl, show pl i - (m + 1) + 1 = pl i - m by omega]
    exact q
theorem sp_copy {j : Nat} (hij : i ≠ j) (h : PgC C j s l es) : f_X4_copyFrom i j C = some (stP C i (enc s l es), 0) := by
  have h2 := pl_ge i
  have hf := FU_eq
  unfold f_X4_copyFrom
  have q := lp_copy (K := fun (v2_e2 : Int) (C_e2 : Mem) => (some (C_e2, 0))) hij h (pl i) FU 0 (by omega) (by omega) (by omega)
  rw [show pl i - pl i = 0 by omega, stI_nil] at q
  exact q
theorem PgC_st (h1 : EsOk es) (h2 : 3 + szs es ≤ pl i) (h3 : 0 ≤ s ∧ s ≤ 255) (h4 : 0 ≤ l ∧ l ≤ 255) : PgC (stP C i (enc s l es)) i s l es := ⟨fun y hy => stP_in hy, h1, h2, h3, h4⟩
theorem PgC_k {j : Nat} (hij : j ≠ i) (h : PgC C j s l es) : PgC (stP C i g) j s l es := ⟨fun y hy => by rw [stP_k (by omega)]; exact h.1 y hy, h.2⟩
theorem PgC_up {j x y : Nat} {z : Int} (hij : x ≠ 61 + j) (h : PgC C j s l es) : PgC (up C x y z) j s l es := ⟨fun v hv => by rw [up_k (by omega)]; exact h.1 v hv, h.2⟩
theorem KC_st (h : KyC C k w) (hk : k < 5) : KyC (stP C i g) k w := ⟨by rw [stP_k (by omega)]; exact h.1, fun j hj => by rw [stP_k (by omega)]; exact h.2.1 j hj, h.2.2⟩
/-- bytes of a changed page -/
theorem enc_lo {j : Nat} (h : j < 3 + szs a) (h1 : j ≠ 1) : enc s l (a ++ b) j = enc s l a j := by
  unfold enc
  by_cases h0 : j = 0
  · rw [if_pos h0, if_pos h0]
  · rw [if_neg h0, if_neg h0, if_neg h1, if_neg h1]
    by_cases h2 : j = 2
    · rw [if_pos h2, if_pos h2]
    · rw [if_neg h2, if_neg h2, flat_app, gd_l (by rw [flat_len]; omega)]
theorem enc_hi {j : Nat} (h : 3 + szs a ≤ j) : enc s l (a ++ b) j = (flat b).getD (j - 3 - szs a) 0 := by
  rw [enc_g (by omega), flat_app, gd_r (by rw [flat_len]; omega), flat_len]
/-- an entry comes in -/
theorem lp_ins1 {K : Int → Mem → Option (Mem × Int)} {v3 : Int} {st mo : Nat} : ∀ (m n : Nat) (z : Int), z = ((st + m : Nat) : Int) - 1 → m < n → ∀ en : Nat, st + m ≤ en → en + mo ≤ pl i → f_X4_insert_27 i k v3 (st : Int) (mo : Int) K n z (stI C (61 + i) (st + m + mo) (en + mo) (fun j => C (61 + i) (j - mo))) = K ((st : Int) - 1) (stI C (61 + i) (st + mo) (en + mo) (fun j => C (61 + i) (j - mo)))
  | _, 0 => by intros; omega
  | 0, n + 1 => by
    intro z hz _ en h1 h3
    have h2 := pl_ge i
    unfold f_X4_insert_27
    rw [tLt (by omega), hz]
    rfl
  | m + 1, n + 1 => by
    intro z hz hn en h1 h3
    have h2 := pl_ge i
    have q := lp_ins1 (K := K) (v3 := v3) (st := st) (mo := mo) m n (z + -1) (by omega) (by omega) en (by omega) h3
    have hz2 : z = ((st + m : Nat) : Int) := by omega
    unfold f_X4_insert_27
    by_cases hmo : mo = 0
    · subst hmo
      rw [fLt (by omega), rw_at (by omega), bd_some, sp_set (by omega), bd_some]
      have e1 : ∀ p : Nat, stI C (61 + i) p (en + 0) (fun j => C (61 + i) (j - 0)) = C := by
        intro p
        funext x y
        unfold stI
        split
        · rename_i hh; rw [hh.1]; rfl
        · rfl
      rw [e1] at q ⊢
      have e2 : up C (61 + i) (z + ((0 : Nat) : Int)).toNat (C (61 + i) z.toNat) = C := by
        funext x y
        unfold up
        split
        · rename_i hh; rw [hh.1, hh.2, show z + ((0 : Nat) : Int) = z by omega]
        · rfl
      rw [e2, q, e1]
    · rw [fLt (by omega), rw_at (by omega), bd_some, sp_set (by omega), bd_some, nat2 hz2, stI_out (by omega), show (z + (mo : Int)).toNat = st + m + mo by omega, show st + (m + 1) + mo = (st + m + mo) + 1 by omega, stI_dn (by omega) (by rw [show st + m + mo - mo = st + m by omega])]
      exact q
theorem lp_ins2 {K : Int → Mem → Option (Mem × Int)} {v3 v5 : Int} {st : Nat} (hk : KyC C k w) (hk5 : k < 5) (hf : st + 1 + w.length ≤ pl i) : ∀ (m n : Nat) (z : Int), z = ((w.length - m : Nat) : Int) → m ≤ w.length → m < n → f_X4_insert_68 i k v3 (st : Int) v5 K n z (stI C (61 + i) (st + 1) (st + 1 + (w.length - m)) (fun j => w.getD (j - (st + 1)) 0)) = K (w.length : Int) (stI C (61 + i) (st + 1) (st + 1 + w.length) (fun j => w.getD (j - (st + 1)) 0))
  | _, 0 => by intros; omega
  | 0, n + 1 => by
    intro z hz _ _
    have h2 := pl_ge i
    unfold f_X4_insert_68
    rw [stI_k (by omega), hk.1, fLt (by omega), hz]
    rfl
  | m + 1, n + 1 => by
    intro z hz hm hn
    have h2 := pl_ge i
    have hl := hk.2.2.1
    have q := lp_ins2 (K := K) (v3 := v3) (v5 := v5) (st := st) hk hk5 hf m n (z + 1) (by omega) (by omega) (by omega)
    have hk2 : KyC (stI C (61 + i) (st + 1) (st + 1 + (w.length - (m + 1))) (fun j => w.getD (j - (st + 1)) 0)) k w := ⟨by rw [stI_k (by omega)]; exact hk.1, fun j hj => by rw [stI_k (by omega)]; exact hk.2.1 j hj, hk.2.2⟩
    unfold f_X4_insert_68
    rw [hk2.1, tLt (by omega), sp_kat hk2 (by omega) (by omega), bd_some, sp_set (by omega), bd_some, show ((st : Int) + 1 + z).toNat = st + 1 + (w.length - (m + 1)) by omega, stI_up (by omega) (by rw [nat2 hz, show st + 1 + (w.length - (m + 1)) - (st + 1) = w.length - (m + 1) by omega]), show st + 1 + (w.length - (m + 1)) + 1 = st + 1 + (w.length - m) by omega]
    exact q
theorem sp_insert (h : PgC C i s l (a ++ b)) (hk : KyC C k w) (hk5 : k < 5) {z t : Int} (hz : z = (a.length : Int)) (hf : 3 + szs (a ++ (w, t) :: b) ≤ pl i) : f_X4_insert i z k t C = some (stP C i (enc s l (a ++ (w, t) :: b)), 0) := by
  have h2 := pl_ge i
  have hfu := FU_eq
  have h6 := PgC_len h
  have hl := hk.2.2.1
  have hfit := hf
  rw [szs_app, szs_cons] at hf
  have hf' : 3 + (szs a + (w.length + 2 + szs b)) ≤ pl i := hf
  have hsz : szs (a ++ b) = szs a + szs b := szs_app a b
  unfold f_X4_insert
  rw [sp_offset h hz, bd_some, sp_entries h, bd_some, sp_offset_all h rfl, bd_some, hk.1]
  have q1 := lp_ins1 (C := C) (i := i) (k := k) (v3 := t) (st := 3 + szs a) (mo := w.length + 2) (K := (fun (v6_e27 : Int) (C_e27 : Mem) => (bd (f_X4_set i ((3 + szs a : Nat) : Int) (C_e27 (10 + 2 * k) 1) C_e27) (fun C62 _ => (f_X4_insert_68 i k (t) ((3 + szs a : Nat) : Int) (((w.length : Nat) : Int) + 2) (fun (v6_e68 : Int) (C_e68 : Mem) => (bd (f_X4_set i ((((3 + szs a : Nat) : Int) + (((w.length : Nat) : Int) + 2)) - 1) (t) C_e68) (fun C109 _ => (ix (1) (pl i) (ix (1) (pl i) (some ((up C109 (61 + i) 1 ((C109 (61 + i) 1) + 1)), 0))))))) FU (0) C62))))) (szs b) FU ((3 + szs (a ++ b) : Nat) - 1) (by omega) (by omega) (3 + szs (a ++ b)) (by omega) (by omega)
  rw [show 3 + szs a + szs b + (w.length + 2) = 3 + szs (a ++ b) + (w.length + 2) by omega, stI_nil] at q1
  rw [show (((w.length + 2 : Nat)) : Int) = ((w.length : Nat) : Int) + 2 by omega] at q1
  rw [q1]
  show bd (f_X4_set i _ _ _) _ = _
  rw [stI_k (by omega), hk.1, sp_set (by omega), bd_some, nat2 rfl]
  have hk2 : KyC (up (stI C (61 + i) (3 + szs a + (w.length + 2)) (3 + szs (a ++ b) + (w.length + 2)) (fun j => C (61 + i) (j - (w.length + 2)))) (61 + i) (3 + szs a) (w.length : Int)) k w := ⟨by rw [up_k (by omega), stI_k (by omega)]; exact hk.1, fun j hj => by rw [up_k (by omega), stI_k (by omega)]; exact hk.2.1 j hj, hk.2.2⟩
  have q2 := lp_ins2 (i := i) (v3 := t) (v5 := (((w.length : Nat) : Int) + 2)) (st := 3 + szs a) (K := fun (v6_e68 : Int) (C_e68 : Mem) => (bd (f_X4_set i ((((3 + szs a : Nat) : Int) + (((w.length : Nat) : Int) + 2)) - 1) (t) C_e68) (fun C109 _ => (ix (1) (pl i) (ix (1) (pl i) (some ((up C109 (61 + i) 1 ((C109 (61 + i) 1) + 1)), 0))))))) hk2 hk5 (by omega) w.length FU 0 (by omega) (by omega) (by omega)
  rw [show 3 + szs a + 1 + (w.length - w.length) = 3 + szs a + 1 by omega, stI_nil] at q2
  rw [q2]
  show bd (f_X4_set i _ _ _) _ = _
  rw [sp_set (by omega), bd_some, ix_t (by omega), ix_t (by omega)]
  congr 2
  funext x y
  by_cases hx : x = 61 + i
  · subst hx
    by_cases hy : y < pl i
    · rw [stP_in hy]
      by_cases hy1 : y = 1
      · subst hy1
        rw [up_same, up_j (by omega), stI_out (by omega), up_j (by omega), stI_out (by omega), h.1 1 (by omega), enc_1, enc_1]
        simp
        omega
      · rw [up_j hy1]
        by_cases hlo : y < 3 + szs a
        · rw [up_j (by omega), stI_out (by omega), up_j (by omega), stI_out (by omega), h.1 y hy, enc_lo hlo hy1, enc_lo hlo hy1]
        · rw [enc_hi (by omega), flat_cons]
          by_cases hy2 : y = 3 + szs a
          · rw [up_j (by omega), stI_out (by omega), hy2, up_same, show 3 + szs a - 3 - szs a = 0 by omega]
            rfl
          · by_cases hy3 : y < 3 + szs a + 1 + w.length
            · rw [up_j (by omega), stI_in (by omega), gd_l (by rw [e1_len]; show _ < w.length + 2; omega), show y - 3 - szs a = 1 + (y - (3 + szs a + 1)) by omega, e1_l _ (by show _ < w.length; omega)]
            · by_cases hy4 : y = 3 + szs a + 1 + w.length
              · rw [show (((3 + szs a : Nat) : Int) + (((w.length : Nat) : Int) + 2) - 1).toNat = y by omega, up_same, gd_l (by rw [e1_len]; show _ < w.length + 2; omega), show y - 3 - szs a = 1 + (w, t).1.length by show _ = 1 + w.length; omega, e1_t]
              · rw [up_j (by omega), stI_out (by omega), up_j (by omega), gd_r (by rw [e1_len]; show w.length + 2 ≤ _; omega), e1_len]
                show _ = (flat b).getD (y - 3 - szs a - (w.length + 2)) 0
                by_cases hy5 : y < 3 + szs (a ++ b) + (w.length + 2)
                · rw [stI_in (by omega), h.1 _ (by omega), enc_hi (by omega)]
                  congr 1
                  omega
                · rw [stI_out (by omega), h.1 _ (by omega), enc_out (by omega), gd_out (by rw [flat_len]; omega)]
    · rw [up_j (by omega), up_j (by omega), stI_out (by omega), up_j (by omega), stI_out (by omega)]
      unfold stP
      rw [stI_out (by omega)]
  · rw [up_k hx, up_k hx, stI_k hx, up_k hx, stI_k hx, stP_k hx]
end WR
end
section
/-! CLASS: what writes a page, second; keys. -/
section W2
variable {C : Mem} {i k m n : Nat} {g g' : Nat → Int} {s l : Int} {es a b c x y z : List Ent} {e : Ent} {w u v : List Int}
theorem gd_c {q : List Int} {j j' : Nat} (h : j = j') : q.getD j 0 = q.getD j' 0 := by rw [h]
theorem some_c {M M' : Mem} {t t' : Int} (h : M = M') (h2 : t = t') : some (M, t) = some (M', t') := by rw [h, h2]
theorem stP_ext {M : Mem} (h1 : ∀ p q, p ≠ 61 + i → M p q = C p q) (h2 : ∀ q, pl i ≤ q → M (61 + i) q = C (61 + i) q) (h3 : ∀ q, q < pl i → M (61 + i) q = g q) : M = stP C i g := by
  funext p q
  by_cases hp : p = 61 + i
  · subst hp
    by_cases hq : q < pl i
    · rw [h3 q hq, stP_in hq]
    · rw [h2 q (by omega)]
      unfold stP
      rw [stI_out (by omega)]
  · rw [h1 p q hp, stP_k hp]
theorem stP_stP : stP (stP C i g) i g' = stP C i g' := by
  refine stP_ext ?_ ?_ ?_
  · intro p q hp
    rw [stP_k hp, stP_k hp]
  · intro q hq
    unfold stP
    rw [stI_out (by omega), stI_out (by omega)]
  · intro q hq
    rw [stP_in hq]
theorem rw_link : f_X4_link i C = some (C, C (61 + i) 2) := by
  have h2 := pl_ge i
  unfold f_X4_link
  rw [ix_t (by omega)]
theorem sp_setTail (h : PgC C i s l (a ++ e :: b)) {q t : Int} (hq : q = (a.length : Int)) : f_X4_setTail i q t C = some (stP C i (enc s l (a ++ (e.1, t) :: b)), 0) := by
  have h6 := PgC_len h
  have hf := h.2.2.1
  rw [szs_app, szs_cons] at h6 hf
  have h' : PgC C i s l ((a ++ [e]) ++ b) := by rw [List.append_assoc]; exact h
  unfold f_X4_setTail
  rw [sp_offset h' (by simp; omega), bd_some, szs_app, szs_cons, szs_nil, sp_set (by omega), bd_some]
  refine some_c ?_ rfl
  refine stP_ext ?_ ?_ ?_
  · intro p q hp
    rw [up_k hp]
  · intro q hq
    rw [up_j (by omega)]
  · intro j hj
    by_cases h1 : j = 3 + szs a + 1 + e.1.length
    · rw [show (((3 + (szs a + (e.1.length + 2 + 0)) : Nat) : Int) - 1).toNat = j by omega, up_same]
      exact (enc_tail (e := (e.1, t)) h1).symm
    · rw [up_j (by omega), h.1 j hj]
      by_cases hlo : j < 3 + szs a ∧ j ≠ 1
      · rw [enc_lo hlo.1 hlo.2, enc_lo hlo.1 hlo.2]
      · by_cases hj1 : j = 1
        · subst hj1
          rw [enc_1, enc_1]; simp
        · rw [enc_hi (by omega), enc_hi (by omega), flat_cons, flat_cons]
          by_cases h3 : j - 3 - szs a < e.1.length + 2
          · rw [gd_l (by rw [e1_len]; omega), gd_l (by rw [e1_len]; exact h3)]
            by_cases h4 : j - 3 - szs a = 0
            · rw [h4]; rfl
            · rw [show j - 3 - szs a = 1 + (j - 3 - szs a - 1) by omega, e1_l _ (by omega), e1_l _ (by show _ < e.1.length; omega)]
          · rw [gd_r (by rw [e1_len]; omega), gd_r (by rw [e1_len]; show e.1.length + 2 ≤ _; omega), e1_len, e1_len]
/-- an entry goes -/
theorem lp_rem {K : Int → Mem → Option (Mem × Int)} {le st : Nat} (hle : 0 < le) (hle2 : le < 1000) : ∀ (m n : Nat) (z : Int), z = ((pl i - m : Nat) : Int) → m + st ≤ pl i → m < n → f_X4_remove_19 i (le : Int) K n z (stI C (61 + i) st (pl i - m) (fun j => if j + le < pl i then C (61 + i) (j + le) else 0)) = K ((pl i : Nat) : Int) (stI C (61 + i) st (pl i) (fun j => if j + le < pl i then C (61 + i) (j + le) else 0))
  | _, 0 => by intros; omega
  | 0, n + 1 => by
    intro z hz _ _
    have h2 := pl_ge i
    unfold f_X4_remove_19
    rw [fLt (by omega), hz]
    rfl
  | m + 1, n + 1 => by
    intro z hz hm hn
    have h2 := pl_ge i
    have q := lp_rem (K := K) (st := st) hle hle2 m n (z + 1) (by omega) (by omega) (by omega)
    unfold f_X4_remove_19
    rw [tLt (by omega)]
    by_cases hb : pl i - (m + 1) + le < pl i
    · rw [rw_at (by omega), bd_some, ix_t (by omega), nat2 hz, show (z + (le : Int)).toNat = pl i - (m + 1) + le by omega, stI_out (by omega), stI_up (by omega) (by rw [if_pos hb]), show pl i - (m + 1) + 1 = pl i - m by omega]
      exact q
    · rw [rw_at_out (by omega), bd_some, ix_t (by omega), nat2 hz, stI_up (by omega) (by rw [if_neg hb]), show pl i - (m + 1) + 1 = pl i - m by omega]
      exact q
theorem sp_remove (h : PgC C i s l (a ++ e :: b)) {q : Int} (hq : q = (a.length : Int)) : f_X4_remove i q C = some (stP C i (enc s l (a ++ b)), 0) := by
  have h2 := pl_ge i
  have hfu := FU_eq
  have h6 := PgC_len h
  have hf := h.2.2.1
  rw [szs_app, szs_cons] at h6 hf
  have hsz : szs (a ++ b) = szs a + szs b := szs_app a b
  have h' : PgC C i s l ((a ++ [e]) ++ b) := by rw [List.append_assoc]; exact h
  unfold f_X4_remove
  rw [sp_offset h hq, bd_some, sp_offset h' (by simp; omega), bd_some, szs_app a [e], szs_cons, szs_nil]
  have q1 := lp_rem (C := C) (i := i) (le := e.1.length + 2) (st := 3 + szs a) (K := (fun (v4_e19 : Int) (C_e19 : Mem) => (ix (1) (pl i) (ix (1) (pl i) (some ((up C_e19 (61 + i) 1 ((C_e19 (61 + i) 1) - 1)), 0)))))) (by omega) (by omega) (pl i - (3 + szs a)) FU ((3 + szs a : Nat) : Int) (by omega) (by omega) (by omega)
  rw [show pl i - (pl i - (3 + szs a)) = 3 + szs a by omega, stI_nil] at q1
  rw [show ((3 + (szs a + (e.1.length + 2 + 0)) : Nat) : Int) - ((3 + szs a : Nat) : Int) = ((e.1.length + 2 : Nat) : Int) by omega, q1]
  show ix 1 (pl i) _ = _
  rw [ix_t (by omega), ix_t (by omega)]
  refine some_c ?_ rfl
  refine stP_ext ?_ ?_ ?_
  · intro p q hp
    rw [up_k hp, stI_k hp]
  · intro q hq
    rw [up_j (by omega), stI_out (by omega)]
  · intro j hj
    by_cases hj1 : j = 1
    · subst hj1
      rw [up_same, stI_out (by omega), h.1 1 (by omega), enc_1, enc_1]
      simp
      omega
    · rw [up_j hj1]
      by_cases hlo : j < 3 + szs a
      · rw [stI_out (by omega), h.1 j hj, enc_lo hlo hj1, enc_lo hlo hj1]
      · rw [stI_in (by omega), enc_hi (by omega)]
        by_cases hh : j + (e.1.length + 2) < pl i
        · rw [if_pos hh, h.1 _ hh, enc_hi (by omega), flat_cons, gd_r (by rw [e1_len]; omega), e1_len]
          exact gd_c (by omega)
        · rw [if_neg hh, gd_out (by rw [flat_len]; omega)]
/-- entries of another page come behind -/
theorem lp_app {K : Int → Mem → Option (Mem × Int)} {j : Nat} {u2 u3 : Int} {s' l' : Int} (hij : i ≠ j) (h : PgC C j s' l' (x ++ y ++ z)) {en : Nat} (hf : en + szs y ≤ pl i) : ∀ (m n : Nat) (q : Int), q = ((szs y - m : Nat) : Int) → m ≤ szs y → m < n → f_X4_append_30 i j u2 u3 (en : Int) ((3 + szs x : Nat) : Int) ((szs y : Nat) : Int) K n q (stI C (61 + i) en (en + (szs y - m)) (fun p => enc s' l' (x ++ y ++ z) (3 + szs x + (p - en)))) = K ((szs y : Nat) : Int) (stI C (61 + i) en (en + szs y) (fun p => enc s' l' (x ++ y ++ z) (3 + szs x + (p - en))))
  | _, 0 => by intros; omega
  | 0, n + 1 => by
    intro q hq _ _
    have h2 := pl_ge i
    unfold f_X4_append_30
    rw [fLt (by omega), hq]
    rfl
  | m + 1, n + 1 => by
    intro q hq hm hn
    have h2 := pl_ge i
    have h3 := PgC_len h
    rw [szs_app, szs_app] at h3
    have hc : PgC (stI C (61 + i) en (en + (szs y - (m + 1))) (fun p => enc s' l' (x ++ y ++ z) (3 + szs x + (p - en)))) j s' l' (x ++ y ++ z) := ⟨fun t ht => by rw [stI_k (by omega)]; exact h.1 t ht, h.2⟩
    have ih := lp_app (K := K) (u2 := u2) (u3 := u3) hij h hf m n (q + 1) (by omega) (by omega) (by omega)
    unfold f_X4_append_30
    rw [tLt (by omega), sp_at hc (by omega) (by omega), bd_some, sp_set (by omega), bd_some, show ((en : Int) + q).toNat = en + (szs y - (m + 1)) by omega, stI_up (by omega) (by congr 1; omega), show en + (szs y - (m + 1)) + 1 = en + (szs y - m) by omega]
    exact ih
theorem sp_append {j : Nat} {s' l' : Int} (hij : i ≠ j) (h : PgC C i s l es) (h' : PgC C j s' l' (x ++ y ++ z)) {q1 q2 : Int} (hq1 : q1 = (x.length : Int)) (hq2 : q2 = ((x ++ y).length : Int)) (hf : 3 + szs (es ++ y) ≤ pl i) : f_X4_append i j q1 q2 C = some (stP C i (enc s l (es ++ y)), 0) := by
  have h2 := pl_ge i
  have hfu := FU_eq
  have h6 := PgC_len h
  have h7 := PgC_len h'
  have h7' := h'.2.2.1
  have h8 := pl_ge j
  rw [szs_app, szs_app] at h7 h7'
  have hsz : szs (es ++ y) = szs es + szs y := szs_app es y
  have h'' : PgC C j s' l' (x ++ (y ++ z)) := by rw [← List.append_assoc]; exact h'
  unfold f_X4_append
  rw [sp_entries h, bd_some, sp_offset_all h rfl, bd_some, sp_offset h'' hq1, bd_some, sp_offset h' hq2, bd_some, szs_app x y]
  have q := lp_app (C := C) (i := i) (u2 := q1) (u3 := q2) (en := 3 + szs es) (K := (fun (v7_e30 : Int) (C_e30 : Mem) => (ix (1) (pl i) (ix (1) (pl i) (some ((up C_e30 (61 + i) 1 ((C_e30 (61 + i) 1) + (q2 - q1))), 0)))))) hij h' (by omega) (szs y) FU 0 (by omega) (by omega) (by omega)
  rw [show 3 + szs es + (szs y - szs y) = 3 + szs es by omega, stI_nil] at q
  rw [show ((3 + (szs x + szs y) : Nat) : Int) - ((3 + szs x : Nat) : Int) = ((szs y : Nat) : Int) by omega, q]
  show ix 1 (pl i) _ = _
  rw [ix_t (by omega), ix_t (by omega)]
  refine some_c ?_ rfl
  refine stP_ext ?_ ?_ ?_
  · intro p q hp
    rw [up_k hp, stI_k hp]
  · intro q hq
    rw [up_j (by omega), stI_out (by omega)]
  · intro t ht
    by_cases hj1 : t = 1
    · subst hj1
      rw [up_same, stI_out (by omega), h.1 1 (by omega), enc_1, enc_1, hq1, hq2]
      simp
      omega
    · rw [up_j hj1]
      by_cases hlo : t < 3 + szs es
      · rw [stI_out (by omega), h.1 t ht, enc_lo hlo hj1]
      · rw [enc_hi (by omega)]
        by_cases hh : t < 3 + szs es + szs y
        · rw [stI_in (by omega), List.append_assoc, enc_hi (by omega), flat_app, gd_l (by rw [flat_len]; omega)]
          exact gd_c (by omega)
        · rw [stI_out (by omega), h.1 t ht, enc_out (by omega), gd_out (by rw [flat_len]; omega)]
/-! keys -/
def stK (C : Mem) (k : Nat) (w : List Int) : Mem := fun x y => if x = 10 + 2 * k ∧ y = 1 then (w.length : Int) else if x = 11 + 2 * k ∧ y < w.length then w.getD y 0 else C x y
theorem stK_ap {p q : Nat} : stK C k w p q = if p = 10 + 2 * k ∧ q = 1 then (w.length : Int) else if p = 11 + 2 * k ∧ q < w.length then w.getD q 0 else C p q := rfl
theorem stK_o {p q : Nat} (h1 : p ≠ 10 + 2 * k) (h2 : p ≠ 11 + 2 * k) : stK C k w p q = C p q := by
  rw [stK_ap, if_neg (by omega), if_neg (by omega)]
theorem stK_l : stK C k w (10 + 2 * k) 1 = (w.length : Int) := by rw [stK_ap, if_pos ⟨rfl, rfl⟩]
theorem stK_KC (h : LOk w) : KyC (stK C k w) k w := ⟨stK_l, fun j hj => by rw [stK_ap, if_neg (by omega), if_pos (by omega)], h⟩
theorem stK_nil : up C (10 + 2 * k) 1 0 = stK C k [] := by
  funext p q
  rw [up_ap, stK_ap]
  by_cases h : p = 10 + 2 * k ∧ q = 1
  · rw [if_pos h, if_pos h]; rfl
  · rw [if_neg h, if_neg h, if_neg (by simp)]
theorem sp_empty : f_X3_empty k C = some (stK C k [], 0) := by
  unfold f_X3_empty
  rw [stK_nil]
theorem sp_add {t : Int} (h : w.length < 8) : f_X3_add k t (stK C k w) = some (stK C k (w ++ [t]), 0) := by
  unfold f_X3_add
  rw [stK_l, fLt (by omega), tLt (by omega), ix_t (by omega)]
  refine some_c ?_ rfl
  funext p q
  rw [nat2 rfl, up_ap, stK_ap (w := w ++ [t])]
  by_cases h1 : p = 10 + 2 * k ∧ q = 1
  · rw [if_pos h1, if_pos h1, up_k (by omega), stK_l]
    simp
  · rw [if_neg h1, if_neg h1, up_ap]
    by_cases h2 : p = 11 + 2 * k ∧ q = w.length
    · rw [if_pos h2, if_pos (by simp; omega), h2.2]
      simp
    · rw [if_neg h2, stK_ap, if_neg h1]
      by_cases h3 : p = 11 + 2 * k ∧ q < w.length
      · rw [if_pos h3, if_pos (by simp; omega), gd_l h3.2]
      · rw [if_neg h3, if_neg (by simp; omega)]
theorem lp_readKey {K : Int → Mem → Option (Mem × Int)} (hk : k < 5) (h : PgC C i s l (a ++ e :: b)) : ∀ (r q : List Int) (n : Nat) (z : Int), e.1 = q ++ r → z = (q.length : Int) + 1 → r.length < n → f_X4_readKey_25 i k ((3 + szs a : Nat) : Int) (e.1.length : Int) K n z (stK C k q) = K ((e.1.length : Int) + 1) (stK C k e.1)
  | _, _, 0 => by intros; omega
  | [], q, n + 1 => by
    intro z h1 hz _
    have h3 := (EsOk_mid h.2.1).2.1
    rw [List.append_nil] at h1
    have h4 := congrArg List.length h1
    unfold f_X4_readKey_25
    rw [tLt (by omega), hz, h1]
  | t :: r, q, n + 1 => by
    intro z h1 hz hn
    have h3 := (EsOk_mid h.2.1).2.1
    have h6 := PgC_len h
    rw [szs_app, szs_cons] at h6
    have hl : e.1.length = q.length + (r.length + 1) := by rw [h1]; simp
    have hc : PgC (stK C k q) i s l (a ++ e :: b) := ⟨fun p hp => by rw [stK_o (by omega) (by omega)]; exact h.1 p hp, h.2⟩
    have ih := lp_readKey (K := K) hk h r (q ++ [t]) n (z + 1) (by rw [h1]; simp) (by simp; omega) (by simp at hn; omega)
    unfold f_X4_readKey_25
    rw [fLt (by omega), sp_at hc (by omega) (by omega), bd_some, enc_let (j := q.length) (by omega) (by omega), h1, gd_r (by omega), Nat.sub_self]
    rw [h1] at ih
    show bd (f_X3_add k t (stK C k q)) _ = _
    rw [sp_add (by omega), bd_some]
    exact ih
theorem sp_readKey (hk : k < 5) (h : PgC C i s l (a ++ e :: b)) {z : Int} (hz : z = (a.length : Int)) : f_X4_readKey i z k C = some (stK C k e.1, 0) := by
  have hfu := FU_eq
  have h3 := (EsOk_mid h.2.1).2.1
  have h6 := PgC_len h
  rw [szs_app, szs_cons] at h6
  unfold f_X4_readKey
  rw [sp_offset h hz, bd_some, sp_at h (by omega) (by omega), bd_some, nat2 rfl, enc_len rfl, rg_t (by simp only [R32]; omega), sp_empty, bd_some, show min (e.1.length : Int) 8 = (e.1.length : Int) by omega, lp_readKey hk h e.1 [] FU 1 rfl rfl (by omega)]
theorem lp_kcopy {K : Int → Mem → Option (Mem × Int)} {j : Nat} (hk : k ≠ j) (h : KyC C j w) : ∀ (r q : List Int) (n : Nat) (z : Int), w = q ++ r → z = (q.length : Int) → r.length < n → f_X3_copyFrom_6 k j K n z (stK C k q) = K (w.length : Int) (stK C k w)
  | _, _, 0 => by intros; omega
  | [], q, n + 1 => by
    intro z h1 hz _
    have h3 := h.2.2.1
    rw [List.append_nil] at h1
    unfold f_X3_copyFrom_6
    rw [stK_o (by omega) (by omega), h.1, fLt (by rw [h1] at h3 ⊢; omega), hz, h1]
  | t :: r, q, n + 1 => by
    intro z h1 hz hn
    have h3 := h.2.2.1
    have hl : w.length = q.length + (r.length + 1) := by rw [h1]; simp
    have hc : KyC (stK C k q) j w := ⟨by rw [stK_o (by omega) (by omega)]; exact h.1, fun p hp => by rw [stK_o (by omega) (by omega)]; exact h.2.1 p hp, h.2.2⟩
    have ih := lp_kcopy (K := K) hk h r (q ++ [t]) n (z + 1) (by rw [h1]; simp) (by simp; omega) (by simp at hn; omega)
    unfold f_X3_copyFrom_6
    rw [stK_o (by omega) (by omega), h.1, tLt (by omega), sp_kat hc (by omega) (by omega), bd_some, nat2 hz]
    have ht : w.getD q.length 0 = t := by rw [h1, gd_r (by omega), Nat.sub_self]; rfl
    rw [ht, sp_add (by omega), bd_some]
    exact ih
theorem sp_kcopy {j : Nat} (hk : k ≠ j) (h : KyC C j w) : f_X3_copyFrom k j C = some (stK C k w, 0) := by
  have hfu := FU_eq
  have h3 := h.2.2.1
  unfold f_X3_copyFrom
  rw [sp_empty, bd_some, lp_kcopy hk h w [] FU 0 rfl rfl (by omega)]
/-- figures to the base 26 -/
def spl : Nat → Int → List Int
  | 0, _ => []
  | n + 1, q => spl n (q / 26) ++ [97 + q % 26]
theorem spl_len : ∀ (n : Nat) (q : Int), (spl n q).length = n
  | 0, _ => rfl
  | n + 1, q => by unfold spl; simp [spl_len n]
theorem spl_rng : ∀ (n : Nat) (q : Int), ∀ t ∈ spl n q, 97 ≤ t ∧ t ≤ 122
  | 0, _ => by simp [spl]
  | n + 1, q => by
    intro t ht
    unfold spl at ht
    rcases List.mem_append.mp ht with h | h
    · exact spl_rng n _ t h
    · have := List.mem_singleton.mp h
      omega
theorem spl_LOk {n : Nat} (h : n ≤ 8) (q : Int) : LOk (spl n q) := ⟨by rw [spl_len]; exact h, spl_rng n q⟩
theorem stI_spl {q : Int} : stI (up C k m (97 + q % 26)) k 0 m (fun j => (spl m (q / 26)).getD j 0) = stI C k 0 (m + 1) (fun j => (spl (m + 1) q).getD j 0) := by
  funext p t
  rw [stI_ap, stI_ap, up_ap]
  by_cases h1 : p = k
  · by_cases h2 : t < m
    · rw [if_pos (by omega), if_pos (by omega)]
      show _ = (spl m (q / 26) ++ [97 + q % 26]).getD t 0
      rw [gd_l (by rw [spl_len]; exact h2)]
    · by_cases h3 : t = m
      · rw [if_neg (by omega), if_pos (by omega), if_pos (by omega)]
        show _ = (spl m (q / 26) ++ [97 + q % 26]).getD t 0
        rw [gd_r (by rw [spl_len]; omega), spl_len, h3, Nat.sub_self]
        rfl
      · rw [if_neg (by omega), if_neg (by omega), if_neg (by omega)]
  · rw [if_neg (by omega), if_neg (by omega), if_neg (by omega)]
theorem lp_spell {K : Int → Int → Mem → Option (Mem × Int)} : ∀ (m n : Nat) (q z : Int) (M : Mem), z = (m : Int) - 1 → m ≤ 8 → m < n → 0 ≤ q → q < 2147483648 → ∃ q', f_X3_spell_27 k K n q z M = K q' (-1) (stI M (11 + 2 * k) 0 m (fun j => (spl m q).getD j 0))
  | _, 0 => by intros; omega
  | 0, n + 1 => by
    intro q z M hz _ _ _ _
    unfold f_X3_spell_27
    rw [tLt (by omega), stI_nil, hz]
    exact ⟨q, rfl⟩
  | m + 1, n + 1 => by
    intro q z M hz hm hn h0 h1
    obtain ⟨q', ih⟩ := lp_spell (K := K) m n (q / 26) (z + -1) (up M (11 + 2 * k) m (97 + q % 26)) (by omega) (by omega) (by omega) (by omega) (by omega)
    unfold f_X3_spell_27
    rw [fLt (by omega), dv_t (by omega), ix_t (by omega), dv_t (by omega), show z.toNat = m by omega, ih, stI_spl]
    exact ⟨q', rfl⟩
theorem sp_spell {q z : Int} (hz : z = (n : Int)) (hn : n ≤ 8) (h0 : 0 ≤ q) (h1 : q < 2147483648) : f_X3_spell k q z C = some (stK C k (spl n q), 0) := by
  have hfu := FU_eq
  unfold f_X3_spell
  rw [rg_t (by simp only [R32]; omega), rg_t (by simp only [R32]; omega), show max 0 (min z ((8 : Nat) : Int)) = (n : Int) by omega, up_same]
  obtain ⟨q', ih⟩ := lp_spell (k := k) (K := (fun (v3_e27 : Int) (v4_e27 : Int) (C_e27 : Mem) => (some (C_e27, 0)))) n FU q ((n : Int) - 1) (up C (10 + 2 * k) 1 (n : Int)) rfl hn (by omega) h0 h1
  rw [ih]
  refine some_c ?_ rfl
  funext p t
  rw [stI_ap, up_ap, stK_ap, spl_len]
  by_cases h : p = 10 + 2 * k ∧ t = 1
  · rw [if_neg (by omega), if_pos h, if_pos h]
  · rw [if_neg h, if_neg h]
    by_cases h2 : p = 11 + 2 * k ∧ t < n
    · rw [if_pos (by omega), if_pos h2]
    · rw [if_neg (by omega), if_neg h2]
theorem cp_drop (hv : ∀ x ∈ v, 0 < x) (j : Nat) : cp (u.drop j) (v.drop j) = if j < v.length ∧ v.getD j 0 = u.getD j 0 then cp (u.drop (j + 1)) (v.drop (j + 1)) + 1 else 0 := by
  by_cases h2 : j < v.length
  · have e2 : v.getD j 0 = v[j] := by rw [List.getD_eq_getElem?_getD, List.getElem?_eq_getElem h2]; rfl
    have p2 := hv _ (List.getElem_mem h2)
    rw [List.drop_eq_getElem_cons h2, e2]
    by_cases h1 : j < u.length
    · have e1 : u.getD j 0 = u[j] := by rw [List.getD_eq_getElem?_getD, List.getElem?_eq_getElem h1]; rfl
      rw [List.drop_eq_getElem_cons h1, e1]
      show (if u[j] = v[j] then cp (List.drop (j + 1) u) (List.drop (j + 1) v) + 1 else 0) = _
      by_cases h3 : u[j] = v[j]
      · rw [if_pos h3, if_pos ⟨h2, h3.symm⟩]
      · rw [if_neg h3, if_neg (fun q => h3 q.2.symm)]
    · rw [List.drop_eq_nil_of_le (show u.length ≤ j by omega), gd_out (show u.length ≤ j by omega), if_neg (by omega)]
      rfl
  · rw [if_neg (by omega), List.drop_eq_nil_of_le (show v.length ≤ j by omega)]
    cases List.drop j u <;> rfl
theorem lp_cut {K : Int → Mem → Option (Mem × Int)} {j : Nat} (hv : KyC C k v) (hu : KyC C j u) : ∀ (m n : Nat) (z : Int), m ≤ 8 → z = ((8 - m : Nat) : Int) → m < n → f_X3_cutAbove_2 k j K n z C = K ((8 - m + cp (u.drop (8 - m)) (v.drop (8 - m)) : Nat) : Int) C
  | _, 0 => by intros; omega
  | 0, n + 1 => by
    intro z h1 hz _
    have h3 := hv.2.2.1
    unfold f_X3_cutAbove_2
    rw [hv.1, fLt (by omega), cp_drop (LOk_pos hv.2.2), if_neg (by omega), hz]
  | m + 1, n + 1 => by
    intro z h1 hz hn
    have h3 := hv.2.2.1
    have g1 := LOk_gd hv.2.2 (8 - (m + 1))
    have g2 := LOk_gd hu.2.2 (8 - (m + 1))
    have ih := lp_cut (K := K) hv hu m n (z + 1) (by omega) (by omega) (by omega)
    unfold f_X3_cutAbove_2
    rw [hv.1, cp_drop (LOk_pos hv.2.2)]
    by_cases h2 : 8 - (m + 1) < v.length
    · rw [tLt (by omega), sp_kat hv (by omega) (by omega), bd_some, sp_kat hu (by omega) (by omega), bd_some, nat2 hz]
      by_cases h4 : v.getD (8 - (m + 1)) 0 = u.getD (8 - (m + 1)) 0
      · rw [tEq (by omega), if_pos ⟨h2, h4⟩, ih, show 8 - (m + 1) + 1 = 8 - m by omega]
        congr 1
        omega
      · rw [fEq (by omega), if_neg (fun q => h4 q.2), hz]
        rfl
    · rw [fLt (by omega), if_neg (by omega), hz]
      rfl
theorem sp_cut {j : Nat} (hv : KyC C k v) (hu : KyC C j u) (h : cmp u v < 0) : f_X3_cutAbove k j C = some (up C (10 + 2 * k) 1 ((sep u v).length : Int), 0) := by
  have hfu := FU_eq
  have h1 := cp_lt u v h
  have h2 := hv.2.2.1
  unfold f_X3_cutAbove
  rw [lp_cut hv hu 8 FU 0 (by omega) rfl (by omega)]
  show rg _ _ _ = _
  rw [hv.1, rg_t (by simp only [R32, Nat.sub_self, List.drop_zero]; omega), sep_len h, Nat.sub_self, List.drop_zero, List.drop_zero]
  refine some_c ?_ rfl
  congr 1
  omega
theorem gd_take {j q : Nat} (h : j < q) : (v.take q).getD j 0 = v.getD j 0 := by
  rw [List.getD_eq_getElem?_getD, List.getElem?_take, if_pos h, List.getD_eq_getElem?_getD]
theorem sep_LOk (h : LOk v) : LOk (sep u v) := by
  unfold sep
  refine ⟨?_, fun x hx => h.2 x (List.mem_of_mem_take hx)⟩
  have := h.1
  simp
  omega
theorem sep_pos (h : cmp u v < 0) : 1 ≤ (sep u v).length := by rw [sep_len h]; omega
theorem KC_cut (hv : KyC C k v) (h : cmp u v < 0) : KyC (up C (10 + 2 * k) 1 ((sep u v).length : Int)) k (sep u v) := by
  refine ⟨up_same, ?_, sep_LOk hv.2.2⟩
  intro j hj
  have h1 := sep_len h
  have h2 := cp_lt u v h
  rw [up_k (by omega), hv.2.1 j (by omega)]
  unfold sep
  rw [gd_take (by omega)]
/-- where two halves part -/
def hfA (all : Nat) : Nat → List Ent → Nat
  | _, [] => 0
  | acc, e :: r => if 2 * acc < all then hfA all (acc + (e.1.length + 2)) r + 1 else 0
def hf (es : List Ent) : Nat := hfA (szs es) 0 es
theorem lp_half {K : Int → Mem → Option (Mem × Int)} (h : PgC C i s l es) {all : Nat} (hall : all ≤ 253) : ∀ (b a : List Ent) (n : Nat) (z : Int), es = a ++ b → z = (a.length : Int) → b.length < n → f_X4_half_13 i (all : Int) K n z C = K ((a.length + hfA all (szs a) b : Nat) : Int) C
  | _, _, 0 => by intros; omega
  | [], a, n + 1 => by
    intro z h1 hz _
    have h6 := PgC_len h
    rw [List.append_nil] at h1
    unfold f_X4_half_13
    rw [sp_entries h, bd_some, fLt (by rw [h1] at h6 ⊢; omega), hz]
    rfl
  | e :: b, a, n + 1 => by
    intro z h1 hz hn
    have h6 := PgC_len h
    have h9 : es.length = a.length + (b.length + 1) := by rw [h1]; simp
    have h8 : szs es = szs a + (e.1.length + 2 + szs b) := by rw [h1, szs_app, szs_cons]
    have ih := lp_half (K := K) h hall b (a ++ [e]) n (z + 1) (by rw [h1]; simp) (by simp; omega) (by simp at hn; omega)
    rw [szs_app, szs_cons, szs_nil] at ih
    unfold f_X4_half_13 hfA
    rw [sp_entries h, bd_some, tLt (by omega), sp_offset (by rw [← h1]; exact h) hz, bd_some]
    by_cases hd : 2 * szs a < all
    · rw [tLt (by omega), if_pos hd, ih]
      congr 1
      simp
      omega
    · rw [fLt (by omega), if_neg hd, hz]
      rfl
theorem sp_half (h : PgC C i s l es) : f_X4_half i C = some (C, ((hf es : Nat) : Int)) := by
  have hfu := FU_eq
  have h6 := PgC_len h
  unfold f_X4_half
  rw [sp_entries h, bd_some, sp_offset_all h rfl, bd_some, show ((3 + szs es : Nat) : Int) - 3 = ((szs es : Nat) : Int) by omega, lp_half h (by omega) es [] FU 0 rfl rfl (by omega)]
  unfold hf
  simp [szs]
end W2
end
section
/-! CLASS: the tree's pages, sharing, splitting. -/
theorem hfA_spec (all : Nat) : ∀ (es : List Ent) (acc : Nat), 2 * acc < all → all ≤ 2 * (acc + szs es) → ∃ x u y, es = x ++ u :: y ∧ hfA all acc es = x.length + 1 ∧ 2 * (acc + szs x) < all ∧ all ≤ 2 * (acc + szs x + (u.1.length + 2))
  | [], acc => by intro h1 h2; simp [szs] at h2; omega
  | e :: r, acc => by
    intro h1 h2
    unfold hfA
    rw [if_pos h1]
    by_cases h3 : 2 * (acc + (e.1.length + 2)) < all
    · obtain ⟨x, u, y, e1, e2, e3, e4⟩ := hfA_spec all r (acc + (e.1.length + 2)) h3 (by simp [szs] at h2; omega)
      refine ⟨e :: x, u, y, by rw [e1]; rfl, by rw [e2]; rfl, ?_, ?_⟩
      · simp [szs]; omega
      · simp [szs]; omega
    · refine ⟨[], e, r, rfl, ?_, by simp [szs]; omega, by simp [szs]; omega⟩
      cases r with
      | nil => rfl
      | cons f t => unfold hfA; rw [if_neg h3]; rfl
theorem hf_split {es : List Ent} (h : EsOk es) (h1 : 61 < szs es) : ∃ x u v y, es = (x ++ [u]) ++ v :: y ∧ hf es = (x ++ [u]).length ∧ 2 * szs x < szs es ∧ szs es ≤ 2 * szs (x ++ [u]) ∧ szs (x ++ [u]) ≤ szs x + 10 := by
  obtain ⟨x, u, y, e1, e2, e3, e4⟩ := hfA_spec (szs es) es 0 (by omega) (by omega)
  have hu : EOk u := by rw [e1] at h; exact EsOk_mid h
  have hu2 := hu.2.1
  have h3 : szs es = szs x + (u.1.length + 2 + szs y) := by
    conv => lhs; rw [e1]
    rw [szs_app, szs_cons]
  have h4 : szs (x ++ [u]) = szs x + (u.1.length + 2) := by rw [szs_app, szs_cons, szs_nil]
  cases y with
  | nil => rw [szs_nil] at h3; omega
  | cons v t => exact ⟨x, u, v, t, by rw [e1]; simp, by unfold hf; rw [e2]; simp, by omega, by omega, by omega⟩
abbrev Pg : Type := Int × Int × List Ent
def eP (p : Pg) : Nat → Int := enc p.1 p.2.1 p.2.2
def POk (p : Pg) : Prop := EsOk p.2.2 ∧ szs p.2.2 ≤ 61 ∧ (0 ≤ p.1 ∧ p.1 ≤ 2) ∧ (0 ≤ p.2.1 ∧ p.2.1 ≤ 255)
def TOk (P : Nat → Pg) : Prop := ∀ i, i < 32 → POk (P i)
def TC (C : Mem) (P : Nat → Pg) : Prop := ∀ i, i < 32 → ∀ j, j < 64 → C (61 + i) j = eP (P i) j
def uP (P : Nat → Pg) (i : Nat) (p : Pg) : Nat → Pg := fun k => if k = i then p else P k
def IsLF (P : Nat → Pg) (q : Nat) : Prop := q < 32 ∧ (P q).1 = 0 ∧ ∀ i, i < q → (P i).1 ≠ 0
/-- what no change of the tree touches -/
def Fc (C C' : Mem) : Prop := ∀ x y, x ≠ 2 → (x < 10 ∨ (20 ≤ x ∧ x < 61)) → C' x y = C x y
/-- keys alone -/
def Fk (C C' : Mem) : Prop := ∀ x y, (x < 10 ∨ 20 ≤ x) → C' x y = C x y
section TR
variable {C C' : Mem} {P : Nat → Pg} {i j k q : Nat} {s l : Int} {es x y : List Ent} {p : Pg} {u v : Ent} {w : List Int}
theorem uP_s : uP P i p i = p := by unfold uP; rw [if_pos rfl]
theorem uP_o (h : j ≠ i) : uP P i p j = P j := by unfold uP; rw [if_neg h]
theorem TOk_u (h : TOk P) (hp : POk p) : TOk (uP P i p) := by
  intro j hj
  by_cases hji : j = i
  · subst hji; rw [uP_s]; exact hp
  · rw [uP_o hji]; exact h j hj
theorem pl_32 (h : i < 32) : pl i = 64 := pl_64 (by omega)
theorem TC_pg (ho : TOk P) (h : TC C P) (hi : i < 32) : PgC C i (P i).1 (P i).2.1 (P i).2.2 := by
  have h1 := ho i hi
  refine ⟨fun j hj => h i hi j (by rw [pl_32 hi] at hj; exact hj), h1.1, ?_, ⟨h1.2.2.1.1, by have := h1.2.2.1; omega⟩, h1.2.2.2⟩
  rw [pl_32 hi]
  have := h1.2.1
  omega
theorem TC_st (h : TC C P) (hi : i < 32) (hp : s = p.1 ∧ l = p.2.1 ∧ es = p.2.2) : TC (stP C i (enc s l es)) (uP P i p) := by
  obtain ⟨h1, h2, h3⟩ := hp
  subst h1 h2 h3
  intro j hj t ht
  by_cases hji : j = i
  · subst hji; rw [uP_s, stP_in (by rw [pl_32 hi]; exact ht)]; rfl
  · rw [uP_o hji, stP_k (by omega)]; exact h j hj t ht
theorem TC_w {g : Nat → Int} (h : TC C P) (hi : 32 ≤ i) : TC (stP C i g) P := by
  intro j hj t ht
  rw [stP_k (by omega)]; exact h j hj t ht
theorem TC_up {t : Nat} {z : Int} (h : TC C P) (hk : k < 61) : TC (up C k t z) P := by
  intro j hj a ha
  rw [up_k (by omega)]; exact h j hj a ha
theorem TC_fr (h : TC C P) (hf : ∀ x y, 61 ≤ x → C' x y = C x y) : TC C' P := by
  intro j hj t ht
  rw [hf _ _ (by omega)]; exact h j hj t ht
theorem Fk_TC (h : TC C P) (hf : Fk C C') : TC C' P := TC_fr h (fun x y hx => hf x y (by omega))
theorem Fk_PgC (h : PgC C i s l es) (hf : Fk C C') : PgC C' i s l es := ⟨fun j hj => by rw [hf _ _ (by omega)]; exact h.1 j hj, h.2⟩
theorem Fk_stK (hk : k < 5) : Fk C (stK C k w) := fun x y h => stK_o (by omega) (by omega)
theorem Fk_up {t : Nat} {z : Int} (hk : 10 ≤ k ∧ k < 20) (h : Fk C C') : Fk C (up C' k t z) := fun x y hx => by rw [up_k (by omega)]; exact h x y hx
theorem Fk_tr {C2 : Mem} (h1 : Fk C C') (h2 : Fk C' C2) : Fk C C2 := fun x y hx => by rw [h2 x y hx, h1 x y hx]
theorem Fk_Fc (h : Fk C C') : Fc C C' := fun x y _ hx => h x y (by omega)
theorem Fc_refl : Fc C C := fun _ _ _ _ => rfl
theorem Fc_tr {C2 : Mem} (h1 : Fc C C') (h2 : Fc C' C2) : Fc C C2 := fun x y hx hy => by rw [h2 x y hx hy, h1 x y hx hy]
theorem Fc_st {g : Nat → Int} (h : Fc C C') : Fc C (stP C' i g) := fun x y hx hy => by rw [stP_k (by omega)]; exact h x y hx hy
theorem Fc_up2 {t : Nat} {z : Int} (h : Fc C C') : Fc C (up C' 2 t z) := fun x y hx hy => by rw [up_k hx]; exact h x y hx hy
theorem Fc_upg {t : Nat} {z : Int} (hk : 61 ≤ k) (h : Fc C C') : Fc C (up C' k t z) := fun x y hx hy => by rw [up_k (by omega)]; exact h x y hx hy
theorem sp_pageOf {z : Int} (h : z = (i : Int)) (hi : i < 32) : f_X6_pageOf z C = some (C, i) := by
  unfold f_X6_pageOf
  rw [fLt (by omega), tLt (by omega), ix_t (by omega), nat2 h]
theorem lp_lf {K : Int → Mem → Option (Mem × Int)} (ho : TOk P) (h : TC C P) (hq : IsLF P q) : ∀ (m n : Nat) (z : Int), m ≤ q → z = ((q - m : Nat) : Int) → m < n → f_X6_lowestFree_2 K n z C = K (q : Int) C
  | _, 0 => by intros; omega
  | 0, n + 1 => by
    intro z _ hz _
    have h1 := hq.1
    have h2 := sp_sort (TC_pg ho h h1)
    unfold f_X6_lowestFree_2
    rw [tLt (by omega), sp_pageOf (i := q) (by omega) h1, bd_some, h2, bd_some, tEq (by rw [hq.2.1]; omega), hz]
    rfl
  | m + 1, n + 1 => by
    intro z hm hz hn
    have h1 := hq.1
    have h2 := sp_sort (TC_pg ho h (show q - (m + 1) < 32 by omega))
    have h3 := hq.2.2 (q - (m + 1)) (by omega)
    have h4 := (ho (q - (m + 1)) (by omega)).2.2.1
    have ih := lp_lf (K := K) ho h hq m n (z + 1) (by omega) (by omega) (by omega)
    unfold f_X6_lowestFree_2
    rw [tLt (by omega), sp_pageOf hz (by omega), bd_some, h2, bd_some, fEq (by omega), ih]
theorem sp_lf (ho : TOk P) (h : TC C P) (hq : IsLF P q) : f_X6_lowestFree C = some (C, (q : Int)) := by
  have hfu := FU_eq
  have h1 := hq.1
  unfold f_X6_lowestFree
  rw [lp_lf ho h hq q FU 0 (by omega) (by omega) (by omega)]
/-- the separator of a shared row, left in key 1 -/
theorem sp_rsL {lw : Int} (h : PgC C 33 1 lw ((x ++ [u]) ++ v :: y)) (hc : cmp u.1 v.1 < 0) {z : Int} (hz : z = ((x ++ [u]).length : Int)) : ∃ C', f_X0_readSeparator z C = some (C', 0) ∧ KyC C' 1 (sep u.1 v.1) ∧ Fk C C' := by
  have hv := EOk_L (EsOk_mid h.2.1)
  have h1 : PgC (stK C 1 v.1) 33 1 lw ((x ++ [u]) ++ v :: y) := Fk_PgC h (Fk_stK (by omega))
  have h1' : PgC (stK C 1 v.1) 33 1 lw (x ++ u :: (v :: y)) := by rw [List.append_assoc] at h1; exact h1
  have hu := EOk_L (EsOk_mid h1'.2.1)
  have k2 : KyC (stK (stK C 1 v.1) 2 u.1) 2 u.1 := stK_KC hu
  have k1 : KyC (stK (stK C 1 v.1) 2 u.1) 1 v.1 := ⟨by rw [stK_o (by omega) (by omega)]; exact stK_l, fun j hj => by rw [stK_o (by omega) (by omega)]; exact (stK_KC hv).2.1 j hj, hv⟩
  refine ⟨up (stK (stK C 1 v.1) 2 u.1) (10 + 2 * 1) 1 ((sep u.1 v.1).length : Int), ?_, KC_cut k1 hc, Fk_up (by omega) (Fk_tr (Fk_stK (by omega)) (Fk_stK (by omega)))⟩
  unfold f_X0_readSeparator
  rw [sp_readKey (by omega) h hz, bd_some, sp_sort h1, bd_some, tEq (by omega), sp_readKey (by omega) h1' (by rw [hz]; simp), bd_some, sp_cut k1 k2 hc, bd_some]
theorem sp_rsI {lw : Int} (h : PgC C 33 2 lw (x ++ v :: y)) {z : Int} (hz : z = (x.length : Int)) : ∃ C', f_X0_readSeparator z C = some (C', 0) ∧ KyC C' 1 v.1 ∧ Fk C C' := by
  have hv := EOk_L (EsOk_mid h.2.1)
  have h1 : PgC (stK C 1 v.1) 33 2 lw (x ++ v :: y) := Fk_PgC h (Fk_stK (by omega))
  refine ⟨stK C 1 v.1, ?_, stK_KC hv, Fk_stK (by omega)⟩
  unfold f_X0_readSeparator
  rw [sp_readKey (by omega) h hz, bd_some, sp_sort h1, bd_some, fEq (by omega)]
/-- dealing the wide page out -/
theorem sp_dealL {lw l1 l2 : Int} (h : PgC C 33 1 lw (x ++ y)) (hi : i < 32) (hj : j < 32) (hij : i ≠ j) (h1 : C (61 + i) 2 = l1) (h2 : C (61 + j) 2 = l2) (hl1 : 0 ≤ l1 ∧ l1 ≤ 255) (hl2 : 0 ≤ l2 ∧ l2 ≤ 255) (hx : szs x ≤ 61) (hy : szs y ≤ 61) {z : Int} (hz : z = (x.length : Int)) : f_X0_deal z i j C = some (stP (stP C i (enc 1 l1 x)) j (enc 1 l2 y), 0) := by
  have e1 := EsOk_app.mp h.2.1
  have p1 : pl i = 64 := pl_32 hi
  have p2 : pl j = 64 := pl_32 hj
  have s1 : PgC (stP C i (enc 1 l1 [])) i 1 l1 [] := PgC_st (by intro e he; cases he) (by rw [szs_nil]; omega) (by omega) hl1
  have w1 : PgC (stP C i (enc 1 l1 [])) 33 1 lw ([] ++ x ++ y) := PgC_k (by omega) (by rw [List.nil_append]; exact h)
  have w2 : PgC (stP C i (enc 1 l1 x)) 33 1 lw (x ++ y) := PgC_k (by omega) h
  have s2 : PgC (stP (stP C i (enc 1 l1 x)) j (enc 1 l2 [])) j 1 l2 [] := PgC_st (by intro e he; cases he) (by rw [szs_nil]; omega) (by omega) hl2
  have w3 : PgC (stP (stP C i (enc 1 l1 x)) j (enc 1 l2 [])) 33 1 lw (x ++ y ++ []) := PgC_k (by omega) (by rw [List.append_nil]; exact w2)
  have w3' : PgC (stP (stP C i (enc 1 l1 x)) j (enc 1 l2 [])) 33 1 lw (x ++ y) := PgC_k (by omega) w2
  unfold f_X0_deal
  rw [sp_sort h, bd_some, jn_eq, fEq (by omega)]
  dsimp only
  rw [sp_sort h, bd_some, rw_link, bd_some, h1, sp_begin, bd_some, sp_append (x := []) (by omega) s1 w1 (by rfl) (by rw [hz]; simp) (by simp; omega), bd_some, stP_stP, List.nil_append, sp_sort w2, bd_some, jn_eq, tEq (by omega), rw_link, bd_some, stP_k (by omega), h2]
  dsimp only
  rw [sp_begin, bd_some, jn_eq, tEq (by omega)]
  dsimp only
  rw [sp_entries w3', bd_some, sp_append (by omega) s2 w3 hz rfl (by simp; omega), bd_some, stP_stP, List.nil_append]
theorem sp_dealI {lw l1 : Int} (h : PgC C 33 2 lw (x ++ v :: y)) (hi : i < 32) (hj : j < 32) (hij : i ≠ j) (h1 : C (61 + i) 2 = l1) (hl1 : 0 ≤ l1 ∧ l1 ≤ 255) (hx : szs x ≤ 61) (hy : szs y ≤ 61) {z : Int} (hz : z = (x.length : Int)) : f_X0_deal z i j C = some (stP (stP C i (enc 2 l1 x)) j (enc 2 v.2 y), 0) := by
  have e1 := EsOk_mid h.2.1
  have p1 : pl i = 64 := pl_32 hi
  have p2 : pl j = 64 := pl_32 hj
  have s1 : PgC (stP C i (enc 2 l1 [])) i 2 l1 [] := PgC_st (by intro e he; cases he) (by rw [szs_nil]; omega) (by omega) hl1
  have w1 : PgC (stP C i (enc 2 l1 [])) 33 2 lw ([] ++ x ++ v :: y) := PgC_k (by omega) (by rw [List.nil_append]; exact h)
  have w2 : PgC (stP C i (enc 2 l1 x)) 33 2 lw (x ++ v :: y) := PgC_k (by omega) h
  have s2 : PgC (stP (stP C i (enc 2 l1 x)) j (enc 2 v.2 [])) j 2 v.2 [] := PgC_st (by intro e he; cases he) (by rw [szs_nil]; omega) (by omega) e1.2.2.2
  have w3' : PgC (stP (stP C i (enc 2 l1 x)) j (enc 2 v.2 [])) 33 2 lw (x ++ v :: y) := PgC_k (by omega) w2
  have w3 : PgC (stP (stP C i (enc 2 l1 x)) j (enc 2 v.2 [])) 33 2 lw ((x ++ [v]) ++ y ++ []) := by
    rw [List.append_nil, List.append_assoc]; exact w3'
  unfold f_X0_deal
  rw [sp_sort h, bd_some, jn_eq, tEq (by omega)]
  dsimp only
  rw [sp_sort h, bd_some, rw_link, bd_some, h1, sp_begin, bd_some, sp_append (x := []) (by omega) s1 w1 (by rfl) (by rw [hz]; simp) (by simp; omega), bd_some, stP_stP, List.nil_append, sp_sort w2, bd_some, jn_eq, fEq (by omega), sp_tail w2 hz, bd_some]
  dsimp only
  rw [sp_begin, bd_some, jn_eq, fEq (by omega)]
  dsimp only
  rw [sp_entries w3', bd_some, sp_append (by omega) s2 w3 (by rw [hz]; simp) (by simp) (by simp; omega), bd_some, stP_stP, List.nil_append]
/-- splitting a leaf; the wide page holds its entries -/
theorem sp_splitL {lw : Int} (ho : TOk P) (h : TC C P) (hi : i < 32) (hq : IsLF P q) (hs : (P i).1 = 1) (hw : PgC C 33 1 lw es) (he : es = (x ++ [u]) ++ v :: y) (hh : hf es = (x ++ [u]).length) (hc : cmp u.1 v.1 < 0) (hx : szs (x ++ [u]) ≤ 61) (hy : szs (v :: y) ≤ 61) : ∃ C', f_X0_split i C = some (C', (q : Int)) ∧ TC C' (uP (uP P i (1, (q : Int) + 1, x ++ [u])) q (1, (P i).2.1, v :: y)) ∧ KyC C' 1 (sep u.1 v.1) ∧ Fc C C' ∧ C' 2 4 = C 2 4 + 1 ∧ C' 2 5 = C 2 5 ∧ C' 2 6 = C 2 6 := by
  have hiq : i ≠ q := by intro e; rw [e, hq.2.1] at hs; omega
  have hq32 := hq.1
  have hl := (ho i hi).2.2.2
  have e0 : C (61 + i) 2 = (P i).2.1 := (TC_pg ho h hi).1 2 (by rw [pl_32 hi]; omega)
  have w1 : PgC (up (up C (61 + q) 2 (P i).2.1) (61 + i) 2 ((q : Int) + 1)) 33 1 lw es := PgC_up (by omega) (PgC_up (by omega) hw)
  obtain ⟨C1, r1, r2, r3⟩ := sp_rsL (z := ((hf es : Nat) : Int)) (by rw [he] at w1; exact w1) hc (by rw [hh])
  have w2 : PgC C1 33 1 lw ((x ++ [u]) ++ v :: y) := by rw [← he]; exact Fk_PgC w1 r3
  have d := sp_dealL (l1 := (q : Int) + 1) (l2 := (P i).2.1) w2 hi hq32 hiq (by rw [r3 _ _ (by omega), up_same]) (by rw [r3 _ _ (by omega), up_k (by omega), up_same]) (by omega) hl hx hy (z := ((hf es : Nat) : Int)) (by rw [hh])
  refine ⟨up (stP (stP C1 i (enc 1 ((q : Int) + 1) (x ++ [u]))) q (enc 1 (P i).2.1 (v :: y))) 2 4 (C 2 4 + 1), ?_, ?_, ?_, ?_, ?_, ?_, ?_⟩
  · unfold f_X0_split
    rw [sp_lf ho h hq, bd_some, sp_pageOf rfl hq32, bd_some, sp_sort hw, bd_some, jn_eq, tEq (by omega), rw_link, bd_some, sp_setLink, bd_some, e0, sp_setLink, bd_some]
    dsimp only
    rw [sp_half w1, bd_some, r1, bd_some, d, bd_some, stP_k (by omega), stP_k (by omega), r3 _ _ (by omega), up_k (by omega), up_k (by omega)]
  · have t1 : TC (stP (stP C1 i (enc 1 ((q : Int) + 1) (x ++ [u]))) q (enc 1 (P i).2.1 (v :: y))) (uP (uP P i (1, (q : Int) + 1, x ++ [u])) q (1, (P i).2.1, v :: y)) := by
      intro a ha t ht
      by_cases haq : a = q
      · subst haq; rw [uP_s, stP_in (by rw [pl_32 ha]; exact ht)]; rfl
      · rw [uP_o haq, stP_k (by omega)]
        by_cases hai : a = i
        · subst hai; rw [uP_s, stP_in (by rw [pl_32 ha]; exact ht)]; rfl
        · rw [uP_o hai, stP_k (by omega), r3 _ _ (by omega), up_k (by omega), up_k (by omega)]
          exact h a ha t ht
    exact TC_up t1 (by omega)
  · have := KC_st (i := q) (g := enc 1 (P i).2.1 (v :: y)) (KC_st (i := i) (g := enc 1 ((q : Int) + 1) (x ++ [u])) r2 (by omega)) (by omega)
    exact ⟨by rw [up_k (by omega)]; exact this.1, fun a ha => by rw [up_k (by omega)]; exact this.2.1 a ha, this.2.2⟩
  · exact Fc_up2 (Fc_st (Fc_st (Fc_tr (Fc_upg (by omega) (Fc_upg (by omega) Fc_refl)) (Fk_Fc r3))))
  · rw [up_same]
  · rw [up_j (by omega), stP_k (by omega), stP_k (by omega), r3 _ _ (by omega), up_k (by omega), up_k (by omega)]
  · rw [up_j (by omega), stP_k (by omega), stP_k (by omega), r3 _ _ (by omega), up_k (by omega), up_k (by omega)]
theorem sp_splitI {lw : Int} (ho : TOk P) (h : TC C P) (hi : i < 32) (hq : IsLF P q) (hs : (P i).1 = 2) (hw : PgC C 33 2 lw es) (he : es = x ++ v :: y) (hh : hf es = x.length) (hx : szs x ≤ 61) (hy : szs y ≤ 61) : ∃ C', f_X0_split i C = some (C', (q : Int)) ∧ TC C' (uP (uP P i (2, (P i).2.1, x)) q (2, v.2, y)) ∧ KyC C' 1 v.1 ∧ Fc C C' ∧ C' 2 4 = C 2 4 + 1 ∧ C' 2 5 = C 2 5 ∧ C' 2 6 = C 2 6 := by
  have hiq : i ≠ q := by intro e; rw [e, hq.2.1] at hs; omega
  have hq32 := hq.1
  have hl := (ho i hi).2.2.2
  have e0 : C (61 + i) 2 = (P i).2.1 := (TC_pg ho h hi).1 2 (by rw [pl_32 hi]; omega)
  obtain ⟨C1, r1, r2, r3⟩ := sp_rsI (z := ((hf es : Nat) : Int)) (by rw [he] at hw; exact hw) (by rw [hh])
  have w2 : PgC C1 33 2 lw (x ++ v :: y) := by rw [← he]; exact Fk_PgC hw r3
  have d := sp_dealI (l1 := (P i).2.1) w2 hi hq32 hiq (by rw [r3 _ _ (by omega), e0]) hl hx hy (z := ((hf es : Nat) : Int)) (by rw [hh])
  refine ⟨up (stP (stP C1 i (enc 2 (P i).2.1 x)) q (enc 2 v.2 y)) 2 4 (C 2 4 + 1), ?_, ?_, ?_, ?_, ?_, ?_, ?_⟩
  · unfold f_X0_split
    rw [sp_lf ho h hq, bd_some, sp_pageOf rfl hq32, bd_some, sp_sort hw, bd_some, jn_eq, fEq (by omega)]
    dsimp only
    rw [sp_half hw, bd_some, r1, bd_some, d, bd_some, stP_k (by omega), stP_k (by omega), r3 _ _ (by omega)]
  · exact TC_up (TC_st (TC_st (Fk_TC h r3) hi ⟨rfl, rfl, rfl⟩) hq32 ⟨rfl, rfl, rfl⟩) (by omega)
  · have := KC_st (i := q) (g := enc 2 v.2 y) (KC_st (i := i) (g := enc 2 (P i).2.1 x) r2 (by omega)) (by omega)
    exact ⟨by rw [up_k (by omega)]; exact this.1, fun a ha => by rw [up_k (by omega)]; exact this.2.1 a ha, this.2.2⟩
  · exact Fc_up2 (Fc_st (Fc_st (Fk_Fc r3)))
  · rw [up_same]
  · rw [up_j (by omega), stP_k (by omega), stP_k (by omega), r3 _ _ (by omega)]
  · rw [up_j (by omega), stP_k (by omega), stP_k (by omega), r3 _ _ (by omega)]
end TR
end
section
/-! CLASS: the way down, what comes in upward, mending. -/
def chd (p : Pg) (n : Nat) : Int := ((([], p.2.1) :: p.2.2).getD n ([], 0)).2
def tn (w : List Int) (p : Pg) : Nat := cb 1 w p.2.2
def WayC (M : Mem) (L : Nat) (W T : Nat → Nat) : Prop := (∀ t, t < L → M 21 t = (W t : Int)) ∧ (∀ t, t + 1 < L → M 22 (t + 1) = (T t : Int))
/-- the way that a key goes -/
def Down (P : Nat → Pg) (w : List Int) (root L : Nat) (W T : Nat → Nat) : Prop := W 0 = root ∧ (∀ t, t < L → W t < 32) ∧ (∀ t, t + 1 < L → T t = tn w (P (W t)) ∧ chd (P (W t)) (T t) = (W (t + 1) : Int))
/-- keys and the wide page alone -/
def Fw (C C' : Mem) : Prop := ∀ x y, (x < 10 ∨ 20 ≤ x) → x ≠ 94 → C' x y = C x y
section CH
variable {C C' : Mem} {P : Nat → Pg} {i j k q A L : Nat} {s l : Int} {es a b x y le re : List Ent} {p : Pg} {e u v : Ent} {w : List Int} {W T : Nat → Nat} {root : Nat}
theorem cb_le (t : Int) (w : List Int) : ∀ es : List Ent, cb t w es ≤ es.length
  | [] => by simp [cb]
  | e :: r => by
    unfold cb
    have := cb_le t w r
    split <;> simp <;> omega
theorem chd_0 : chd p 0 = p.2.1 := rfl
theorem chd_s (h : p.2.2 = a ++ e :: b) : chd p (a.length + 1) = e.2 := by
  unfold chd
  rw [h]
  simp
theorem sp_child (h : PgC C i s l es) {n : Nat} (hn : n ≤ es.length) {z : Int} (hz : z = (n : Int)) : f_X4_child i z C = some (C, chd (s, l, es) n) := by
  cases n with
  | zero => rw [hz]; exact sp_child0 h
  | succ m =>
    have hm : m < es.length := by omega
    have he : es = es.take m ++ es[m] :: es.drop (m + 1) := by rw [List.getElem_cons_drop, List.take_append_drop]
    have hl : (es.take m).length = m := by rw [List.length_take]; omega
    have h' := h
    rw [he] at h'
    have c := chd_s (p := (s, l, es)) he
    rw [hl] at c
    rw [c]
    exact sp_child1 h' (by rw [hl, hz]; rfl)
theorem lp_down {K : Int → Mem → Option (Mem × Int)} (ho : TOk P) (hT : TC C P) (hL : C 1 5 = (L : Int)) (hL32 : L ≤ 32) (hk : KyC C k w) (hk5 : k < 5) (hd : Down P w root L W T) : ∀ (m n : Nat) (z : Int) (M : Mem), m < L → z = ((L - m : Nat) : Int) → m < n → (∀ x y, x ≠ 21 → x ≠ 22 → M x y = C x y) → (∀ t, t < L - m → M 21 t = (W t : Int)) → (∀ t, t + 1 < L - m → M 22 (t + 1) = (T t : Int)) → ∃ M', f_X6_goDown_12 k K n z M = K (L : Int) M' ∧ (∀ x y, x ≠ 21 → x ≠ 22 → M' x y = C x y) ∧ WayC M' L W T
  | _, 0 => by intros; omega
  | 0, n + 1 => by
    intro z M _ hz _ h1 h2 h3
    refine ⟨M, ?_, h1, h2, h3⟩
    unfold f_X6_goDown_12
    rw [h1 _ _ (by omega) (by omega), hL, fLt (by omega), hz]
    rfl
  | m + 1, n + 1 => by
    intro z M hm hz hn h1 h2 h3
    have hM : TC M P := TC_fr hT (fun x y hx => h1 x y (by omega) (by omega))
    have hkM : KyC M k w := ⟨by rw [h1 _ _ (by omega) (by omega)]; exact hk.1, fun t ht => by rw [h1 _ _ (by omega) (by omega)]; exact hk.2.1 t ht, hk.2.2⟩
    have hw := hd.2.1 (L - (m + 1) - 1) (by omega)
    obtain ⟨d1, d2⟩ := hd.2.2 (L - (m + 1) - 1) (by omega)
    have hp := TC_pg ho hM hw
    have hle : T (L - (m + 1) - 1) ≤ (P (W (L - (m + 1) - 1))).2.2.length := by rw [d1]; exact cb_le _ _ _
    have hb := sp_below (Or.inr rfl) hp hkM
    have hc := sp_child (PgC_up (x := 22) (y := L - (m + 1)) (z := ((T (L - (m + 1) - 1) : Nat) : Int)) (by omega) hp) hle (z := ((T (L - (m + 1) - 1) : Nat) : Int)) rfl
    have e1 : (cb 1 w (P (W (L - (m + 1) - 1))).2.2 : Int) = ((T (L - (m + 1) - 1) : Nat) : Int) := by rw [d1]; rfl
    rw [e1] at hb
    obtain ⟨M', i1, i2, i3⟩ := lp_down (K := K) ho hT hL hL32 hk hk5 hd m n (z + 1) (up (up M 22 (L - (m + 1)) ((T (L - (m + 1) - 1) : Nat) : Int)) 21 (L - (m + 1)) ((W (L - (m + 1) - 1 + 1) : Nat) : Int)) (by omega) (by omega) (by omega) (fun x y hx hy => by rw [up_k hx, up_k hy, h1 x y hx hy]) (by
      intro t ht
      by_cases htt : t = L - (m + 1)
      · rw [htt, up_same, show L - (m + 1) - 1 + 1 = L - (m + 1) by omega]
      · rw [up_j htt, up_k (by omega), h2 t (by omega)]) (by
      intro t ht
      by_cases htt : t + 1 = L - (m + 1)
      · rw [htt, up_k (by omega), up_same, show L - (m + 1) - 1 = t by omega]
      · rw [up_k (by omega), up_j htt, h3 t (by omega)])
    refine ⟨M', ?_, i2, i3⟩
    unfold f_X6_goDown_12
    rw [h1 1 5 (by omega) (by omega), hL, tLt (by omega), tLt (by omega), tLt (by omega), ix_t (by omega), show (z - 1).toNat = L - (m + 1) - 1 by omega, h2 _ (by omega), sp_pageOf rfl hw, bd_some, hb, bd_some, ix_t (by omega), ix_t (by omega), nat2 hz, up_same, hc, bd_some, ix_t (by omega), d2]
    exact i1
theorem sp_down (ho : TOk P) (hT : TC C P) (hR : C 1 4 = (root : Int)) (hL : C 1 5 = (L : Int)) (hL1 : 1 ≤ L) (hL32 : L ≤ 32) (hk : KyC C k w) (hk5 : k < 5) (hd : Down P w root L W T) : ∃ C', f_X6_goDown k C = some (C', 0) ∧ (∀ x y, x ≠ 21 → x ≠ 22 → C' x y = C x y) ∧ WayC C' L W T := by
  have hfu := FU_eq
  unfold f_X6_goDown
  obtain ⟨M', i1, i2, i3⟩ := lp_down (K := (fun (v2_e12 : Int) (C_e12 : Mem) => (some (C_e12, 0)))) ho hT hL hL32 hk hk5 hd (L - 1) FU 1 (up C 21 0 (C 1 4)) (by omega) (by omega) (by omega) (fun x y hx hy => up_k hx) (by
    intro t ht
    have : t = 0 := by omega
    subst this
    rw [up_same, hR, hd.1]) (by intro t ht; omega)
  refine ⟨M', ?_, i2, i3⟩
  rw [ix_t (by omega), i1]
theorem sp_pageOn (h : WayC C L W T) (hL32 : L ≤ 32) {t : Nat} (ht : t < L) (hw : W t < 32) {z : Int} (hz : z = (t : Int)) : f_X6_pageOn z C = some (C, W t) := by
  unfold f_X6_pageOn f_X6_numberOn
  rw [fLt (by omega), tLt (by omega), ix_t (by omega), bd_some, nat2 hz, h.1 t ht, sp_pageOf rfl hw, bd_some]
theorem sp_slotOn {t : Nat} (ht : t < 32) {z : Int} (hz : z = (t : Int)) : f_X6_slotOn z C = some (C, C 22 t) := by
  unfold f_X6_slotOn
  rw [fLt (by omega), tLt (by omega), ix_t (by omega), nat2 hz]
/-- a new root over the old one -/
theorem sp_raise (ho : TOk P) (hT : TC C P) (hq : IsLF P q) (hR : C 1 4 = (root : Int)) (hr : root < 32) (hk : KyC C 1 w) {z : Int} (hz : 0 ≤ z ∧ z ≤ 255) : ∃ C', f_X0_raiseRoot z C = some (C', 0) ∧ TC C' (uP P q (2, (root : Int), [(w, z)])) ∧ C' 1 4 = (q : Int) ∧ C' 1 5 = C 1 5 + 1 ∧ (∀ x y, x ≠ 1 → x < 61 → C' x y = C x y) := by
  have hq32 := hq.1
  have p1 : pl q = 64 := pl_32 hq32
  have hl := hk.2.2.1
  have s1 : PgC (stP C q (enc 2 (root : Int) [])) q 2 (root : Int) ([] ++ []) := PgC_st (by intro e he; cases he) (by simp [szs]; omega) (by omega) (by omega)
  have k1 : KyC (stP C q (enc 2 (root : Int) [])) 1 w := KC_st hk (by omega)
  refine ⟨up (up (stP C q (enc 2 (root : Int) [(w, z)])) 1 4 (q : Int)) 1 5 (C 1 5 + 1), ?_, ?_, ?_, ?_, ?_⟩
  · unfold f_X0_raiseRoot
    rw [sp_lf ho hT hq, bd_some, sp_pageOf rfl hq32, bd_some, hR, sp_begin, bd_some, sp_insert s1 k1 (by omega) (by rfl) (by simp [szs]; omega), bd_some, stP_stP, List.nil_append, up_j (by omega), stP_k (by omega)]
  · exact TC_up (TC_up (TC_st hT hq32 ⟨rfl, rfl, rfl⟩) (by omega)) (by omega)
  · rw [up_j (by omega), up_same]
  · rw [up_same]
  · intro x y hx hy
    rw [up_k hx, up_k hx, stP_k (by omega)]
/-- one turn of what comes in upward: it fits -/
theorem sp_inFit {K : Int → Int → Int → Mem → Option (Mem × Int)} {n t : Nat} (ho : TOk P) (hT : TC C P) (hw : WayC C L W T) (hL32 : L ≤ 32) (ht : t < L) (hi : W t = i) (hi32 : i < 32) (hp : P i = (s, l, a ++ b)) (hs : s = 1 ∨ s = 2) (hk : KyC C 1 w) (hw1 : 1 ≤ w.length) {z v3 v5 : Int} (hz : 0 ≤ z ∧ z ≤ 255) (h3 : v3 = (a.length : Int)) (h5 : v5 = (t : Int)) (hf : szs (a ++ (w, z) :: b) ≤ 61) : ∃ C', f_X0_insertUpward_16 K (n + 1) v3 z v5 C = some (C', 0) ∧ TC C' (uP P i (s, l, a ++ (w, z) :: b)) ∧ Fc C C' ∧ C' 2 = C 2 := by
  have hpg := TC_pg ho hT hi32
  rw [hp] at hpg
  have hpg : PgC C i s l (a ++ b) := hpg
  have p1 : pl i = 64 := pl_32 hi32
  have p3 := pl_33
  have hl := hk.2.2
  have hes : EsOk (a ++ (w, z) :: b) := by
    have := EsOk_app.mp hpg.2.1
    exact EsOk_app.mpr ⟨this.1, EsOk_cons.mpr ⟨⟨hw1, hl.1, hl.2, hz⟩, this.2⟩⟩
  have hsz : szs (a ++ b) ≤ 61 := by rw [szs_app] at hf ⊢; rw [szs_cons] at hf; omega
  have w1 : PgC (stP C 33 (enc s l (a ++ b))) 33 s l (a ++ b) := PgC_st hpg.2.1 (by omega) hpg.2.2.2.1 hpg.2.2.2.2
  have w2 : PgC (stP C 33 (enc s l (a ++ (w, z) :: b))) 33 s l (a ++ (w, z) :: b) := PgC_st hes (by omega) hpg.2.2.2.1 hpg.2.2.2.2
  have k1 : KyC (stP C 33 (enc s l (a ++ b))) 1 w := KC_st hk (by omega)
  refine ⟨stP (stP C 33 (enc s l (a ++ (w, z) :: b))) i (enc s l (a ++ (w, z) :: b)), ?_, ?_, ?_, ?_⟩
  · unfold f_X0_insertUpward_16
    rw [fLt (by omega), sp_pageOn hw hL32 ht (by omega) h5, hi, bd_some, sp_copy (by omega) hpg, bd_some, sp_insert w1 k1 (by omega) h3 (by omega), bd_some, stP_stP, sp_used w2 (by omega), bd_some, fLt (by omega), sp_copy (by omega) w2, bd_some]
  · exact TC_st (TC_w hT (by omega)) hi32 ⟨rfl, rfl, rfl⟩
  · exact Fc_st (Fc_st Fc_refl)
  · funext y
    rw [stP_k (by omega), stP_k (by omega)]
/-- .. a leaf is split -/
theorem sp_inL {K : Int → Int → Int → Mem → Option (Mem × Int)} {n t : Nat} (ho : TOk P) (hT : TC C P) (hw : WayC C L W T) (hL32 : L ≤ 32) (ht : t < L) (hi : W t = i) (hi32 : i < 32) (hp : P i = (1, l, a ++ b)) (hk : KyC C 1 w) (hw1 : 1 ≤ w.length) {z v3 v5 : Int} (hz : 0 ≤ z ∧ z ≤ 255) (h3 : v3 = (a.length : Int)) (h5 : v5 = (t : Int)) (hfz : 61 < szs (a ++ (w, z) :: b)) (hq : IsLF P q) (he : a ++ (w, z) :: b = (x ++ [u]) ++ v :: y) (hh : hf (a ++ (w, z) :: b) = (x ++ [u]).length) (hc : cmp u.1 v.1 < 0) (hx : szs (x ++ [u]) ≤ 61) (hy : szs (v :: y) ≤ 61) : ∃ C', f_X0_insertUpward_16 K (n + 1) v3 z v5 C = f_X0_insertUpward_16 K n (C 22 t) (q : Int) ((t : Int) + -1) C' ∧ TC C' (uP (uP P i (1, (q : Int) + 1, x ++ [u])) q (1, l, v :: y)) ∧ KyC C' 1 (sep u.1 v.1) ∧ Fc C C' ∧ C' 2 4 = C 2 4 + 1 ∧ C' 2 5 = C 2 5 ∧ C' 2 6 = C 2 6 := by
  have hpg := TC_pg ho hT hi32
  rw [hp] at hpg
  have hpg : PgC C i 1 l (a ++ b) := hpg
  have p1 : pl i = 64 := pl_32 hi32
  have p3 := pl_33
  have hl := hk.2.2
  have hes : EsOk (a ++ (w, z) :: b) := by
    have := EsOk_app.mp hpg.2.1
    exact EsOk_app.mpr ⟨this.1, EsOk_cons.mpr ⟨⟨hw1, hl.1, hl.2, hz⟩, this.2⟩⟩
  have hsz : szs (a ++ b) ≤ 61 := by have := (ho i hi32).2.1; rw [hp] at this; exact this
  have hsz2 : szs (a ++ (w, z) :: b) ≤ 71 := by rw [szs_app] at hsz ⊢; rw [szs_cons]; have := hl.1; show _ + (w.length + 2 + _) ≤ _; omega
  have w1 : PgC (stP C 33 (enc 1 l (a ++ b))) 33 1 l (a ++ b) := PgC_st hpg.2.1 (by omega) hpg.2.2.2.1 hpg.2.2.2.2
  have w2 : PgC (stP C 33 (enc 1 l (a ++ (w, z) :: b))) 33 1 l (a ++ (w, z) :: b) := PgC_st hes (by omega) hpg.2.2.2.1 hpg.2.2.2.2
  have k1 : KyC (stP C 33 (enc 1 l (a ++ b))) 1 w := KC_st hk (by omega)
  obtain ⟨C', r1, r2, r3, r4, r5, r6, r7⟩ := sp_splitL ho (TC_w (i := 33) (g := enc 1 l (a ++ (w, z) :: b)) hT (by omega)) hi32 hq (by rw [hp]) w2 he hh hc hx hy
  rw [hp] at r2
  refine ⟨C', ?_, r2, r3, Fc_tr (Fc_st Fc_refl) r4, ?_, ?_, ?_⟩
  · rw [f_X0_insertUpward_16, fLt (by omega), sp_pageOn hw hL32 ht (by omega) h5, hi, bd_some, sp_copy (by omega) hpg, bd_some, sp_insert w1 k1 (by omega) h3 (by omega), bd_some, stP_stP, sp_used w2 (by omega), bd_some, tLt (by omega), r1, bd_some, sp_slotOn (t := t) (by omega) h5, bd_some, r4 _ _ (by omega) (by omega), stP_k (by omega), h5]
  · rw [r5, stP_k (by omega)]
  · rw [r6, stP_k (by omega)]
  · rw [r7, stP_k (by omega)]
/-- .. an inner one is split -/
theorem sp_inI {K : Int → Int → Int → Mem → Option (Mem × Int)} {n t : Nat} (ho : TOk P) (hT : TC C P) (hw : WayC C L W T) (hL32 : L ≤ 32) (ht : t < L) (hi : W t = i) (hi32 : i < 32) (hp : P i = (2, l, a ++ b)) (hk : KyC C 1 w) (hw1 : 1 ≤ w.length) {z v3 v5 : Int} (hz : 0 ≤ z ∧ z ≤ 255) (h3 : v3 = (a.length : Int)) (h5 : v5 = (t : Int)) (hfz : 61 < szs (a ++ (w, z) :: b)) (hq : IsLF P q) (he : a ++ (w, z) :: b = x ++ v :: y) (hh : hf (a ++ (w, z) :: b) = x.length) (hx : szs x ≤ 61) (hy : szs y ≤ 61) : ∃ C', f_X0_insertUpward_16 K (n + 1) v3 z v5 C = f_X0_insertUpward_16 K n (C 22 t) (q : Int) ((t : Int) + -1) C' ∧ TC C' (uP (uP P i (2, l, x)) q (2, v.2, y)) ∧ KyC C' 1 v.1 ∧ Fc C C' ∧ C' 2 4 = C 2 4 + 1 ∧ C' 2 5 = C 2 5 ∧ C' 2 6 = C 2 6 := by
  have hpg := TC_pg ho hT hi32
  rw [hp] at hpg
  have hpg : PgC C i 2 l (a ++ b) := hpg
  have p1 : pl i = 64 := pl_32 hi32
  have p3 := pl_33
  have hl := hk.2.2
  have hes : EsOk (a ++ (w, z) :: b) := by
    have := EsOk_app.mp hpg.2.1
    exact EsOk_app.mpr ⟨this.1, EsOk_cons.mpr ⟨⟨hw1, hl.1, hl.2, hz⟩, this.2⟩⟩
  have hsz : szs (a ++ b) ≤ 61 := by have := (ho i hi32).2.1; rw [hp] at this; exact this
  have hsz2 : szs (a ++ (w, z) :: b) ≤ 71 := by rw [szs_app] at hsz ⊢; rw [szs_cons]; have := hl.1; show _ + (w.length + 2 + _) ≤ _; omega
  have w1 : PgC (stP C 33 (enc 2 l (a ++ b))) 33 2 l (a ++ b) := PgC_st hpg.2.1 (by omega) hpg.2.2.2.1 hpg.2.2.2.2
  have w2 : PgC (stP C 33 (enc 2 l (a ++ (w, z) :: b))) 33 2 l (a ++ (w, z) :: b) := PgC_st hes (by omega) hpg.2.2.2.1 hpg.2.2.2.2
  have k1 : KyC (stP C 33 (enc 2 l (a ++ b))) 1 w := KC_st hk (by omega)
  obtain ⟨C', r1, r2, r3, r4, r5, r6, r7⟩ := sp_splitI ho (TC_w (i := 33) (g := enc 2 l (a ++ (w, z) :: b)) hT (by omega)) hi32 hq (by rw [hp]) w2 he hh hx hy
  rw [hp] at r2
  refine ⟨C', ?_, r2, r3, Fc_tr (Fc_st Fc_refl) r4, ?_, ?_, ?_⟩
  · rw [f_X0_insertUpward_16, fLt (by omega), sp_pageOn hw hL32 ht (by omega) h5, hi, bd_some, sp_copy (by omega) hpg, bd_some, sp_insert w1 k1 (by omega) h3 (by omega), bd_some, stP_stP, sp_used w2 (by omega), bd_some, tLt (by omega), r1, bd_some, sp_slotOn (t := t) (by omega) h5, bd_some, r4 _ _ (by omega) (by omega), stP_k (by omega), h5]
  · rw [r5, stP_k (by omega)]
  · rw [r6, stP_k (by omega)]
  · rw [r7, stP_k (by omega)]
end CH
end
section
/-! CLASS: mending. -/
section MD
variable {C C' : Mem} {P : Nat → Pg} {i j k q A L : Nat} {s l ll lr la : Int} {es a b x y le re ws : List Ent} {p : Pg} {e u v : Ent} {w : List Int} {W T : Nat → Nat} {root : Nat}
/-- what two neighbours have together -/
def Ws (s : Int) (e : Ent) (lr : Int) (le re ws : List Ent) : Prop := (s = 1 ∧ ws = le ++ re) ∨ (s = 2 ∧ ws = le ++ (e.1, lr) :: re)
theorem Fw_PgC (h : PgC C i s l es) (hi : i ≠ 33) (hf : Fw C C') : PgC C' i s l es := ⟨fun j hj => by rw [hf _ _ (by omega) (by omega)]; exact h.1 j hj, h.2⟩
theorem Fw_TC (h : TC C P) (hf : Fw C C') : TC C' P := fun i hi j hj => by rw [hf _ _ (by omega) (by omega)]; exact h i hi j hj
theorem Fw_Fc (h : Fw C C') : Fc C C' := fun x y hx hy => h x y (by omega) (by omega)
theorem Fk_Fw (h : Fk C C') : Fw C C' := fun x y hx _ => h x y hx
theorem Fw_tr {C2 : Mem} (h1 : Fw C C') (h2 : Fw C' C2) : Fw C C2 := fun x y hx hy => by rw [h2 x y hx hy, h1 x y hx hy]
theorem stP_link {z : Int} : up (stP C i (enc s l es)) (61 + i) 2 z = stP C i (enc s z es) := by
  have h2 := pl_ge i
  refine stP_ext ?_ ?_ ?_
  · intro p q hp
    rw [up_k hp, stP_k hp]
  · intro q hq
    unfold stP
    rw [up_j (by omega), stI_out (by omega)]
  · intro q hq
    by_cases h : q = 2
    · subst h; rw [up_same, enc_2]
    · rw [up_j h, stP_in hq]
      unfold enc
      by_cases h0 : q = 0
      · rw [if_pos h0, if_pos h0]
      · rw [if_neg h0, if_neg h0]
        by_cases h1 : q = 1
        · rw [if_pos h1, if_pos h1]
        · rw [if_neg h1, if_neg h1, if_neg h, if_neg h]
theorem sp_gather (hA : PgC C A 2 la (a ++ e :: b)) (hAn : A ≠ 33) (h1 : PgC C i s ll le) (hi : i ≠ 33) (h2 : PgC C j s lr re) (hj : j ≠ 33) (hw : Ws s e lr le re ws) (h61 : szs le ≤ 61) (h62 : szs re ≤ 61) {z : Int} (hz : z = (a.length : Int)) : ∃ C', f_X0_gather A z i j C = some (C', 0) ∧ PgC C' 33 s ll ws ∧ Fw C C' := by
  have p3 := pl_33
  have he := EsOk_mid hA.2.1
  have w1 : PgC (stP C 33 (enc s ll le)) 33 s ll le := PgC_st h1.2.1 (by omega) h1.2.2.2.1 h1.2.2.2.2
  rcases hw with ⟨hs, hws⟩ | ⟨hs, hws⟩
  · subst hs
    have g2 : PgC (stP C 33 (enc 1 ll le)) j 1 lr ([] ++ re ++ []) := PgC_k (by omega) (by simpa using h2)
    have g3 : PgC (stP C 33 (enc 1 ll le)) j 1 lr re := PgC_k (by omega) h2
    refine ⟨stP C 33 (enc 1 ll (le ++ re)), ?_, ?_, ?_⟩
    · unfold f_X0_gather
      rw [sp_copy (by omega) h1, bd_some, sp_sort w1, bd_some, jn_eq, fEq (by omega)]
      dsimp only
      rw [sp_entries g3, bd_some, sp_append (x := []) (by omega) w1 g2 (by rfl) (by simp) (by rw [szs_app]; omega), bd_some, stP_stP]
    · rw [hws]
      exact PgC_st (EsOk_app.mpr ⟨h1.2.1, h2.2.1⟩) (by rw [szs_app]; omega) h1.2.2.2.1 h1.2.2.2.2
    · exact fun x y hx hy => stP_k (by omega)
  · subst hs
    have hl := EOk_L he
    have k0 : Fk (stP C 33 (enc 2 ll le)) (stK (stP C 33 (enc 2 ll le)) 1 e.1) := Fk_stK (by omega)
    have w1' : PgC (stK (stP C 33 (enc 2 ll le)) 1 e.1) 33 2 ll (le ++ []) := by rw [List.append_nil]; exact Fk_PgC w1 k0
    have w1'' : PgC (stK (stP C 33 (enc 2 ll le)) 1 e.1) 33 2 ll le := Fk_PgC w1 k0
    have gA : PgC (stP C 33 (enc 2 ll le)) A 2 la (a ++ e :: b) := PgC_k (by omega) hA
    have g3 : PgC (stK (stP C 33 (enc 2 ll le)) 1 e.1) j 2 lr re := Fk_PgC (PgC_k (by omega) h2) k0
    have k1 : KyC (stK (stP C 33 (enc 2 ll le)) 1 e.1) 1 e.1 := stK_KC hl
    have hsz : szs (le ++ [(e.1, lr)]) ≤ 71 := by rw [szs_app, szs_cons, szs_nil]; have := hl.1; show _ + (e.1.length + 2 + 0) ≤ _; omega
    have hes : EsOk (le ++ [(e.1, lr)]) := EsOk_app.mpr ⟨h1.2.1, EsOk_cons.mpr ⟨⟨he.1, hl.1, hl.2, h2.2.2.2.2⟩, by intro e he; cases he⟩⟩
    have w2 : PgC (stP (stK (stP C 33 (enc 2 ll le)) 1 e.1) 33 (enc 2 ll (le ++ [(e.1, lr)]))) 33 2 ll (le ++ [(e.1, lr)]) := PgC_st hes (by omega) h1.2.2.2.1 h1.2.2.2.2
    have g4 : PgC (stP (stK (stP C 33 (enc 2 ll le)) 1 e.1) 33 (enc 2 ll (le ++ [(e.1, lr)]))) j 2 lr ([] ++ re ++ []) := PgC_k (by omega) (by simpa using g3)
    have g4' : PgC (stP (stK (stP C 33 (enc 2 ll le)) 1 e.1) 33 (enc 2 ll (le ++ [(e.1, lr)]))) j 2 lr re := PgC_k (by omega) g3
    refine ⟨stP (stK (stP C 33 (enc 2 ll le)) 1 e.1) 33 (enc 2 ll ((le ++ [(e.1, lr)]) ++ re)), ?_, ?_, ?_⟩
    · unfold f_X0_gather
      rw [sp_copy (by omega) h1, bd_some, sp_sort w1, bd_some, jn_eq, tEq (by omega), sp_readKey (by omega) gA hz, bd_some, sp_entries w1'', bd_some, sp_link g3, bd_some, sp_insert w1' k1 (by omega) rfl (by omega), bd_some]
      dsimp only
      rw [sp_entries g4', bd_some, sp_append (x := []) (by omega) w2 g4 (by rfl) (by simp) (by rw [szs_app]; omega), bd_some, stP_stP]
    · have e1 : ws = (le ++ [(e.1, lr)]) ++ re := by rw [hws]; simp
      rw [e1]
      exact PgC_st (EsOk_app.mpr ⟨hes, h2.2.1⟩) (by rw [szs_app]; omega) h1.2.2.2.1 h1.2.2.2.2
    · exact fun x y hx hy => by rw [stP_k (by omega), stK_o (by omega) (by omega), stP_k (by omega)]
theorem sp_join (hw : PgC C 33 s ll ws) (hs : s = 1 ∨ s = 2) (h61 : szs ws ≤ 61) (hi : i < 32) (hj : j < 32) (hij : i ≠ j) (hr : C (61 + j) 2 = lr) : f_X0_join i j C = some (up (stP (stP C i (enc s (if s = 1 then lr else ll) ws)) j (enc 0 0 [])) 2 5 (C 2 5 + 1), 0) := by
  have w2 : PgC (stP C i (enc s ll ws)) 33 s ll ws := PgC_k (by omega) hw
  unfold f_X0_join
  rw [sp_copy (by omega) hw, bd_some, sp_sort w2, bd_some, jn_eq]
  rcases hs with hs | hs
  · subst hs
    rw [tEq (by omega), rw_link, bd_some, stP_k (by omega), hr, sp_setLink, bd_some, stP_link]
    dsimp only
    rw [sp_release, bd_some, if_pos rfl, stP_k (by omega), stP_k (by omega)]
  · subst hs
    rw [fEq (by omega)]
    dsimp only
    rw [sp_release, bd_some, if_neg (by omega), stP_k (by omega), stP_k (by omega)]
/-- sharing anew: refused, or done -/
theorem sp_shareL (ho : TOk P) (hT : TC C P) (hA : P A = (2, la, a ++ e :: b)) (hA32 : A < 32) (hi : i < 32) (hj : j < 32) (hiA : i ≠ A) (hjA : j ≠ A) (hij : i ≠ j) (hw : PgC C 33 1 ll ws) (hws : ws = (x ++ [u]) ++ v :: y) (hh : hf ws = (x ++ [u]).length) (hc : cmp u.1 v.1 < 0) (hx : szs (x ++ [u]) ≤ 61) (hy : szs (v :: y) ≤ 61) {z : Int} (hz : z = (a.length : Int)) : ∃ C', f_X0_shareAnew A z i j C = some (C', 0) ∧ Fc C C' ∧ C' 2 4 = C 2 4 ∧ C' 2 5 = C 2 5 ∧ ((61 < szs (a ++ (sep u.1 v.1, e.2) :: b) ∧ TC C' P ∧ C' 2 6 = C 2 6) ∨ (szs (a ++ (sep u.1 v.1, e.2) :: b) ≤ 61 ∧ TC C' (uP (uP (uP P A (2, la, a ++ (sep u.1 v.1, e.2) :: b)) i (1, (P i).2.1, x ++ [u])) j (1, (P j).2.1, v :: y)) ∧ C' 2 6 = C 2 6 + 1)) := by
  have hpA := TC_pg ho hT hA32
  rw [hA] at hpA
  have hpA : PgC C A 2 la (a ++ e :: b) := hpA
  have p1 : pl A = 64 := pl_32 hA32
  have he := EsOk_mid hpA.2.1
  have hszA : szs (a ++ e :: b) ≤ 61 := by have := (ho A hA32).2.1; rw [hA] at this; exact this
  rw [szs_app, szs_cons] at hszA
  obtain ⟨C1, r1, r2, r3⟩ := sp_rsL (z := ((hf ws : Nat) : Int)) (by rw [hws] at hw; exact hw) hc (by rw [hh])
  have hl := r2.2.2.1
  have gA : PgC C1 A 2 la (a ++ e :: b) := Fk_PgC hpA r3
  have e9 : szs (a ++ (sep u.1 v.1, e.2) :: b) = szs a + ((sep u.1 v.1).length + 2 + szs b) := by rw [szs_app, szs_cons]
  have e8 : szs (a ++ e :: b) = szs a + (e.1.length + 2 + szs b) := by rw [szs_app, szs_cons]
  have kl : C1 (10 + 2 * 1) 1 = ((sep u.1 v.1).length : Int) := r2.1
  have pre : f_X0_shareAnew A z i j C = cLt (64) ((((3 + szs (a ++ e :: b) : Nat) : Int) - (e.1.length : Int)) + ((sep u.1 v.1).length : Int)) (some (C1, 0)) (bd (f_X4_child A (z + 1) C1) (fun C43 r43 => (bd (f_X4_remove A (z) C43) (fun C50 _ => (bd (f_X4_insert A (z) 1 (r43) C50) (fun C61 _ => (bd (f_X0_deal ((hf ws : Nat) : Int) i j C61) (fun C70 _ => (some ((up C70 2 6 ((C70 2 6) + 1)), 0)))))))))) := by
    unfold f_X0_shareAnew
    rw [sp_half hw, bd_some, r1, bd_some, sp_used gA (by omega), bd_some, sp_letters gA hz, bd_some, kl]
  rw [pre]
  by_cases hb : 61 < szs (a ++ (sep u.1 v.1, e.2) :: b)
  · rw [tLt (by omega)]
    exact ⟨C1, rfl, Fk_Fc r3, r3 _ _ (by omega), r3 _ _ (by omega), Or.inl ⟨hb, Fk_TC hT r3, r3 _ _ (by omega)⟩⟩
  · rw [fLt (by omega), sp_child1 gA (by omega), bd_some, sp_remove gA hz, bd_some]
    have hab := EsOk_app.mp hpA.2.1
    have hbb := EsOk_cons.mp hab.2
    have m1 : PgC (stP C1 A (enc 2 la (a ++ b))) A 2 la (a ++ b) := PgC_st (EsOk_app.mpr ⟨hab.1, hbb.2⟩) (by rw [szs_app]; omega) hpA.2.2.2.1 hpA.2.2.2.2
    have m2 : KyC (stP C1 A (enc 2 la (a ++ b))) 1 (sep u.1 v.1) := KC_st r2 (by omega)
    rw [sp_insert m1 m2 (by omega) hz (by omega), bd_some, stP_stP]
    have m3 : PgC (stP C1 A (enc 2 la (a ++ (sep u.1 v.1, e.2) :: b))) 33 1 ll ((x ++ [u]) ++ v :: y) := PgC_k (by omega) (by rw [← hws]; exact Fk_PgC hw r3)
    have li := (ho i hi).2.2.2
    have lj := (ho j hj).2.2.2
    rw [sp_dealL (l1 := (P i).2.1) (l2 := (P j).2.1) m3 hi hj hij (by rw [stP_k (by omega), r3 _ _ (by omega)]; exact (TC_pg ho hT hi).1 2 (by rw [pl_32 hi]; omega)) (by rw [stP_k (by omega), r3 _ _ (by omega)]; exact (TC_pg ho hT hj).1 2 (by rw [pl_32 hj]; omega)) li lj hx hy (by rw [hh]), bd_some]
    refine ⟨_, rfl, Fc_up2 (Fc_st (Fc_st (Fc_st (Fk_Fc r3)))), ?_, ?_, Or.inr ⟨by omega, ?_, ?_⟩⟩
    · rw [up_j (by omega), stP_k (by omega), stP_k (by omega), stP_k (by omega), r3 _ _ (by omega)]
    · rw [up_j (by omega), stP_k (by omega), stP_k (by omega), stP_k (by omega), r3 _ _ (by omega)]
    · exact TC_up (TC_st (TC_st (TC_st (Fk_TC hT r3) hA32 ⟨rfl, rfl, rfl⟩) hi ⟨rfl, rfl, rfl⟩) hj ⟨rfl, rfl, rfl⟩) (by omega)
    · rw [up_same, stP_k (by omega), stP_k (by omega), stP_k (by omega), r3 _ _ (by omega)]
theorem sp_shareI (ho : TOk P) (hT : TC C P) (hA : P A = (2, la, a ++ e :: b)) (hA32 : A < 32) (hi : i < 32) (hj : j < 32) (hiA : i ≠ A) (hjA : j ≠ A) (hij : i ≠ j) (hw : PgC C 33 2 ll ws) (hws : ws = x ++ v :: y) (hh : hf ws = x.length) (hx : szs x ≤ 61) (hy : szs y ≤ 61) {z : Int} (hz : z = (a.length : Int)) : ∃ C', f_X0_shareAnew A z i j C = some (C', 0) ∧ Fc C C' ∧ C' 2 4 = C 2 4 ∧ C' 2 5 = C 2 5 ∧ ((61 < szs (a ++ (v.1, e.2) :: b) ∧ TC C' P ∧ C' 2 6 = C 2 6) ∨ (szs (a ++ (v.1, e.2) :: b) ≤ 61 ∧ TC C' (uP (uP (uP P A (2, la, a ++ (v.1, e.2) :: b)) i (2, (P i).2.1, x)) j (2, v.2, y)) ∧ C' 2 6 = C 2 6 + 1)) := by
  have hpA := TC_pg ho hT hA32
  rw [hA] at hpA
  have hpA : PgC C A 2 la (a ++ e :: b) := hpA
  have p1 : pl A = 64 := pl_32 hA32
  have he := EsOk_mid hpA.2.1
  have hszA : szs (a ++ e :: b) ≤ 61 := by have := (ho A hA32).2.1; rw [hA] at this; exact this
  rw [szs_app, szs_cons] at hszA
  obtain ⟨C1, r1, r2, r3⟩ := sp_rsI (z := ((hf ws : Nat) : Int)) (by rw [hws] at hw; exact hw) (by rw [hh])
  have hl := r2.2.2.1
  have gA : PgC C1 A 2 la (a ++ e :: b) := Fk_PgC hpA r3
  have e9 : szs (a ++ (v.1, e.2) :: b) = szs a + (v.1.length + 2 + szs b) := by rw [szs_app, szs_cons]
  have e8 : szs (a ++ e :: b) = szs a + (e.1.length + 2 + szs b) := by rw [szs_app, szs_cons]
  have kl : C1 (10 + 2 * 1) 1 = (v.1.length : Int) := r2.1
  have pre : f_X0_shareAnew A z i j C = cLt (64) ((((3 + szs (a ++ e :: b) : Nat) : Int) - (e.1.length : Int)) + (v.1.length : Int)) (some (C1, 0)) (bd (f_X4_child A (z + 1) C1) (fun C43 r43 => (bd (f_X4_remove A (z) C43) (fun C50 _ => (bd (f_X4_insert A (z) 1 (r43) C50) (fun C61 _ => (bd (f_X0_deal ((hf ws : Nat) : Int) i j C61) (fun C70 _ => (some ((up C70 2 6 ((C70 2 6) + 1)), 0)))))))))) := by
    unfold f_X0_shareAnew
    rw [sp_half hw, bd_some, r1, bd_some, sp_used gA (by omega), bd_some, sp_letters gA hz, bd_some, kl]
  rw [pre]
  by_cases hb : 61 < szs (a ++ (v.1, e.2) :: b)
  · rw [tLt (by omega)]
    exact ⟨C1, rfl, Fk_Fc r3, r3 _ _ (by omega), r3 _ _ (by omega), Or.inl ⟨hb, Fk_TC hT r3, r3 _ _ (by omega)⟩⟩
  · rw [fLt (by omega), sp_child1 gA (by omega), bd_some, sp_remove gA hz, bd_some]
    have hab := EsOk_app.mp hpA.2.1
    have hbb := EsOk_cons.mp hab.2
    have m1 : PgC (stP C1 A (enc 2 la (a ++ b))) A 2 la (a ++ b) := PgC_st (EsOk_app.mpr ⟨hab.1, hbb.2⟩) (by rw [szs_app]; omega) hpA.2.2.2.1 hpA.2.2.2.2
    have m2 : KyC (stP C1 A (enc 2 la (a ++ b))) 1 v.1 := KC_st r2 (by omega)
    rw [sp_insert m1 m2 (by omega) hz (by omega), bd_some, stP_stP]
    have m3 : PgC (stP C1 A (enc 2 la (a ++ (v.1, e.2) :: b))) 33 2 ll (x ++ v :: y) := PgC_k (by omega) (by rw [← hws]; exact Fk_PgC hw r3)
    have li := (ho i hi).2.2.2
    rw [sp_dealI (l1 := (P i).2.1) m3 hi hj hij (by rw [stP_k (by omega), r3 _ _ (by omega)]; exact (TC_pg ho hT hi).1 2 (by rw [pl_32 hi]; omega)) li hx hy (by rw [hh]), bd_some]
    refine ⟨_, rfl, Fc_up2 (Fc_st (Fc_st (Fc_st (Fk_Fc r3)))), ?_, ?_, Or.inr ⟨by omega, ?_, ?_⟩⟩
    · rw [up_j (by omega), stP_k (by omega), stP_k (by omega), stP_k (by omega), r3 _ _ (by omega)]
    · rw [up_j (by omega), stP_k (by omega), stP_k (by omega), stP_k (by omega), r3 _ _ (by omega)]
    · exact TC_up (TC_st (TC_st (TC_st (Fk_TC hT r3) hA32 ⟨rfl, rfl, rfl⟩) hi ⟨rfl, rfl, rfl⟩) hj ⟨rfl, rfl, rfl⟩) (by omega)
    · rw [up_same, stP_k (by omega), stP_k (by omega), stP_k (by omega), r3 _ _ (by omega)]
end MD
end
section
/-! CLASS: mending, whole; the root goes. -/
section M2
variable {C C' : Mem} {P : Nat → Pg} {i j k q A L c t : Nat} {s l ll lr la : Int} {es a b x y le re ws : List Ent} {p : Pg} {e u v : Ent} {w : List Int} {W T : Nat → Nat} {root : Nat}
/-- which entry stands between a page and the neighbour that it is mended with -/
def Btw (T n c : Nat) : Prop := (T < n ∧ c = T) ∨ (n ≤ T ∧ c + 1 = T)
theorem sp_mend0 (ho : TOk P) (hT : TC C P) (hW : WayC C L W T) (hL32 : L ≤ 32) (ht : t + 1 < L) (hA : W t = A) (hA32 : A < 32) (hp : P A = (2, la, [])) (hTt : T t = 0) {z : Int} (hz : z = (t : Int) + 1) : f_X0_mend z C = some (C, 0) := by
  have hpA := TC_pg ho hT hA32
  rw [hp] at hpA
  have hpA : PgC C A 2 la [] := hpA
  have e0 := hW.2 t ht
  rw [hTt] at e0
  unfold f_X0_mend
  rw [sp_pageOn (t := t) hW hL32 (by omega) (by omega) (by omega), hA, bd_some, sp_slotOn (t := t + 1) (by omega) (by omega), bd_some, e0, sp_entries hpA, bd_some, jn_eq, fLt (by simp)]
  dsimp only
  rw [tLt (by omega)]
theorem sp_mend1 (ho : TOk P) (hT : TC C P) (hW : WayC C L W T) (hL32 : L ≤ 32) (ht : t + 1 < L) (hA : W t = A) (hA32 : A < 32) (hp : P A = (2, la, a ++ e :: b)) (hb : Btw (T t) (a ++ e :: b).length a.length) (hi : chd (P A) a.length = (i : Int)) (hi32 : i < 32) (hj : e.2 = (j : Int)) (hj32 : j < 32) (hpi : P i = (s, ll, le)) (hpj : P j = (s, lr, re)) (hs : s = 1 ∨ s = 2) (hw : Ws s e lr le re ws) {z : Int} (hz : z = (t : Int) + 1) : ∃ C1, PgC C1 33 s ll ws ∧ Fw C C1 ∧ f_X0_mend z C = cLt 64 ((3 + szs ws : Nat) : Int) (bd (f_X0_shareAnew A (a.length : Int) i j C1) (fun C123 _ => (some (C123, 0)))) (bd (f_X0_join i j C1) (fun C104 _ => (bd (f_X4_remove A (a.length : Int) C104) (fun C110 _ => (some (C110, 1)))))) := by
  have hpA := TC_pg ho hT hA32
  rw [hp] at hpA
  have hpA : PgC C A 2 la (a ++ e :: b) := hpA
  have hgi := TC_pg ho hT hi32
  rw [hpi] at hgi
  have hgi : PgC C i s ll le := hgi
  have hgj := TC_pg ho hT hj32
  rw [hpj] at hgj
  have hgj : PgC C j s lr re := hgj
  have si : szs le ≤ 61 := by have := (ho i hi32).2.1; rw [hpi] at this; exact this
  have sj : szs re ≤ 61 := by have := (ho j hj32).2.1; rw [hpj] at this; exact this
  have hlen := PgC_len hpA
  have hln : (a ++ e :: b).length = a.length + (b.length + 1) := by simp
  obtain ⟨C1, g1, g2, g3⟩ := sp_gather hpA (by omega) hgi (by omega) hgj (by omega) hw si sj (z := (a.length : Int)) rfl
  have hch := sp_child hpA (n := a.length) (by omega) (z := (a.length : Int)) rfl
  rw [hp] at hi
  rw [hi] at hch
  have hsw : szs ws ≤ 253 := (PgC_len g2).1
  refine ⟨C1, g2, g3, ?_⟩
  have e0 := hW.2 t ht
  unfold f_X0_mend
  rw [sp_pageOn (t := t) hW hL32 (by omega) (by omega) (by omega), hA, bd_some, sp_slotOn (t := t + 1) (by omega) (by omega), bd_some, e0, sp_entries hpA, bd_some, jn_eq]
  rcases hb with ⟨b1, b2⟩ | ⟨b1, b2⟩
  · rw [tLt (by omega)]
    dsimp only
    rw [show ((T t : Nat) : Int) = (a.length : Int) by omega, fLt (by omega), hch, bd_some, sp_pageOf rfl hi32, bd_some, sp_child1 hpA rfl, bd_some, sp_pageOf hj hj32, bd_some, g1, bd_some, sp_used g2 (by omega), bd_some]
  · rw [fLt (by omega)]
    dsimp only
    rw [show ((T t : Nat) : Int) - 1 = (a.length : Int) by omega, fLt (by omega), hch, bd_some, sp_pageOf rfl hi32, bd_some, sp_child1 hpA rfl, bd_some, sp_pageOf hj hj32, bd_some, g1, bd_some, sp_used g2 (by omega), bd_some]
theorem sp_mendJ (ho : TOk P) (hT : TC C P) (hW : WayC C L W T) (hL32 : L ≤ 32) (ht : t + 1 < L) (hA : W t = A) (hA32 : A < 32) (hp : P A = (2, la, a ++ e :: b)) (hb : Btw (T t) (a ++ e :: b).length a.length) (hi : chd (P A) a.length = (i : Int)) (hi32 : i < 32) (hj : e.2 = (j : Int)) (hj32 : j < 32) (hpi : P i = (s, ll, le)) (hpj : P j = (s, lr, re)) (hs : s = 1 ∨ s = 2) (hw : Ws s e lr le re ws) (h61 : szs ws ≤ 61) (hiA : i ≠ A) (hjA : j ≠ A) (hij : i ≠ j) {z : Int} (hz : z = (t : Int) + 1) : ∃ C', f_X0_mend z C = some (C', 1) ∧ TC C' (uP (uP (uP P i (s, if s = 1 then lr else ll, ws)) j (0, 0, [])) A (2, la, a ++ b)) ∧ Fc C C' ∧ C' 2 4 = C 2 4 ∧ C' 2 5 = C 2 5 + 1 ∧ C' 2 6 = C 2 6 := by
  obtain ⟨C1, g1, g2, g3⟩ := sp_mend1 ho hT hW hL32 ht hA hA32 hp hb hi hi32 hj hj32 hpi hpj hs hw hz
  have hpA := TC_pg ho hT hA32
  rw [hp] at hpA
  have hpA : PgC C A 2 la (a ++ e :: b) := hpA
  have hgj := TC_pg ho hT hj32
  rw [hpj] at hgj
  have hgj : PgC C j s lr re := hgj
  have lj : C1 (61 + j) 2 = lr := by rw [g2 _ _ (by omega) (by omega)]; exact hgj.1 2 (by rw [pl_32 hj32]; omega)
  have gA : PgC (up (stP (stP C1 i (enc s (if s = 1 then lr else ll) ws)) j (enc 0 0 [])) 2 5 (C1 2 5 + 1)) A 2 la (a ++ e :: b) := PgC_up (by omega) (PgC_k (by omega) (PgC_k (by omega) (Fw_PgC hpA (by omega) g2)))
  rw [g3, fLt (by omega), sp_join g1 hs h61 hi32 hj32 hij lj, bd_some, sp_remove gA rfl, bd_some]
  refine ⟨_, rfl, ?_, ?_, ?_, ?_, ?_⟩
  · exact TC_st (TC_up (TC_st (TC_st (Fw_TC hT g2) hi32 ⟨rfl, rfl, rfl⟩) hj32 ⟨rfl, rfl, rfl⟩) (by omega)) hA32 ⟨rfl, rfl, rfl⟩
  · exact Fc_st (Fc_up2 (Fc_st (Fc_st (Fw_Fc g2))))
  · rw [stP_k (by omega), up_j (by omega), stP_k (by omega), stP_k (by omega), g2 _ _ (by omega) (by omega)]
  · rw [stP_k (by omega), up_same, g2 _ _ (by omega) (by omega)]
  · rw [stP_k (by omega), up_j (by omega), stP_k (by omega), stP_k (by omega), g2 _ _ (by omega) (by omega)]
theorem sp_mendL (ho : TOk P) (hT : TC C P) (hW : WayC C L W T) (hL32 : L ≤ 32) (ht : t + 1 < L) (hA : W t = A) (hA32 : A < 32) (hp : P A = (2, la, a ++ e :: b)) (hb : Btw (T t) (a ++ e :: b).length a.length) (hi : chd (P A) a.length = (i : Int)) (hi32 : i < 32) (hj : e.2 = (j : Int)) (hj32 : j < 32) (hpi : P i = (1, ll, le)) (hpj : P j = (1, lr, re)) (h61 : 61 < szs (le ++ re)) (hiA : i ≠ A) (hjA : j ≠ A) (hij : i ≠ j) (hws : le ++ re = (x ++ [u]) ++ v :: y) (hh : hf (le ++ re) = (x ++ [u]).length) (hc : cmp u.1 v.1 < 0) (hx : szs (x ++ [u]) ≤ 61) (hy : szs (v :: y) ≤ 61) {z : Int} (hz : z = (t : Int) + 1) : ∃ C', f_X0_mend z C = some (C', 0) ∧ Fc C C' ∧ C' 2 4 = C 2 4 ∧ C' 2 5 = C 2 5 ∧ ((61 < szs (a ++ (sep u.1 v.1, e.2) :: b) ∧ TC C' P ∧ C' 2 6 = C 2 6) ∨ (szs (a ++ (sep u.1 v.1, e.2) :: b) ≤ 61 ∧ TC C' (uP (uP (uP P A (2, la, a ++ (sep u.1 v.1, e.2) :: b)) i (1, ll, x ++ [u])) j (1, lr, v :: y)) ∧ C' 2 6 = C 2 6 + 1)) := by
  obtain ⟨C1, g1, g2, g3⟩ := sp_mend1 ho hT hW hL32 ht hA hA32 hp hb hi hi32 hj hj32 hpi hpj (Or.inl rfl) (Or.inl ⟨rfl, rfl⟩) hz
  have hlen := PgC_len g1
  obtain ⟨C2, s1, s2, s3, s4, s5⟩ := sp_shareL ho (Fw_TC hT g2) hp hA32 hi32 hj32 hiA hjA hij g1 hws hh hc hx hy (z := (a.length : Int)) rfl
  rw [hpi, hpj] at s5
  rw [g2 _ _ (by omega) (by omega)] at s3 s4
  rw [g2 2 6 (by omega) (by omega)] at s5
  refine ⟨C2, ?_, Fc_tr (Fw_Fc g2) s2, s3, s4, s5⟩
  rw [g3, tLt (by omega), s1, bd_some]
theorem sp_mendI (ho : TOk P) (hT : TC C P) (hW : WayC C L W T) (hL32 : L ≤ 32) (ht : t + 1 < L) (hA : W t = A) (hA32 : A < 32) (hp : P A = (2, la, a ++ e :: b)) (hb : Btw (T t) (a ++ e :: b).length a.length) (hi : chd (P A) a.length = (i : Int)) (hi32 : i < 32) (hj : e.2 = (j : Int)) (hj32 : j < 32) (hpi : P i = (2, ll, le)) (hpj : P j = (2, lr, re)) (hws0 : ws = le ++ (e.1, lr) :: re) (h61 : 61 < szs ws) (hiA : i ≠ A) (hjA : j ≠ A) (hij : i ≠ j) (hws : ws = x ++ v :: y) (hh : hf ws = x.length) (hx : szs x ≤ 61) (hy : szs y ≤ 61) {z : Int} (hz : z = (t : Int) + 1) : ∃ C', f_X0_mend z C = some (C', 0) ∧ Fc C C' ∧ C' 2 4 = C 2 4 ∧ C' 2 5 = C 2 5 ∧ ((61 < szs (a ++ (v.1, e.2) :: b) ∧ TC C' P ∧ C' 2 6 = C 2 6) ∨ (szs (a ++ (v.1, e.2) :: b) ≤ 61 ∧ TC C' (uP (uP (uP P A (2, la, a ++ (v.1, e.2) :: b)) i (2, ll, x)) j (2, v.2, y)) ∧ C' 2 6 = C 2 6 + 1)) := by
  obtain ⟨C1, g1, g2, g3⟩ := sp_mend1 ho hT hW hL32 ht hA hA32 hp hb hi hi32 hj hj32 hpi hpj (Or.inr rfl) (Or.inr ⟨rfl, hws0⟩) hz
  have hlen := PgC_len g1
  obtain ⟨C2, s1, s2, s3, s4, s5⟩ := sp_shareI ho (Fw_TC hT g2) hp hA32 hi32 hj32 hiA hjA hij g1 hws hh hx hy (z := (a.length : Int)) rfl
  rw [hpi] at s5
  rw [g2 _ _ (by omega) (by omega)] at s3 s4
  rw [g2 2 6 (by omega) (by omega)] at s5
  refine ⟨C2, ?_, Fc_tr (Fw_Fc g2) s2, s3, s4, s5⟩
  rw [g3, tLt (by omega), s1, bd_some]
theorem sp_lower (ho : TOk P) (hT : TC C P) (hR : C 1 4 = (root : Int)) (hr : root < 32) (hp : P root = (2, l, [])) : ∃ C', f_X0_lowerRoot C = some (C', 0) ∧ TC C' (uP P root (0, 0, [])) ∧ C' 1 4 = l ∧ C' 1 5 = C 1 5 - 1 ∧ (∀ x y, x ≠ 1 → x < 61 → C' x y = C x y) := by
  have hpA := TC_pg ho hT hr
  rw [hp] at hpA
  have hpA : PgC C root 2 l [] := hpA
  refine ⟨stP (up (up C 1 4 l) 1 5 (C 1 5 - 1)) root (enc 0 0 []), ?_, ?_, ?_, ?_, ?_⟩
  · unfold f_X0_lowerRoot
    rw [hR, sp_pageOf rfl hr, bd_some, sp_sort hpA, bd_some, tEq (by omega), sp_entries hpA, bd_some, tEq (by simp), sp_link hpA, bd_some, sp_release, bd_some, up_j (by omega)]
  · exact TC_st (TC_up (TC_up hT (by omega)) (by omega)) hr ⟨rfl, rfl, rfl⟩
  · rw [stP_k (by omega), up_j (by omega), up_same]
  · rw [stP_k (by omega), up_same]
  · intro x y hx hy
    rw [stP_k (by omega), up_k hx, up_k hx]
theorem sp_lower0 (ho : TOk P) (hT : TC C P) (hR : C 1 4 = (root : Int)) (hr : root < 32) (hp : (P root).1 = 2 → (P root).2.2 ≠ []) : f_X0_lowerRoot C = some (C, 0) := by
  have hpA := TC_pg ho hT hr
  have hs := (ho root hr).2.2.1
  unfold f_X0_lowerRoot
  rw [hR, sp_pageOf rfl hr, bd_some, sp_sort hpA, bd_some]
  by_cases h2 : (P root).1 = 2
  · have hn := hp h2
    have hl := PgC_len hpA
    have : (P root).2.2.length ≠ 0 := fun h => hn (List.length_eq_zero_iff.mp h)
    rw [tEq (by omega), sp_entries hpA, bd_some, fEq (by omega)]
  · rw [fEq (by omega)]
/-- how many pages are of a sort -/
def nS (P : Nat → Pg) (s : Int) : Nat → Nat
  | 0 => 0
  | n + 1 => nS P s n + (if (P n).1 = s then 1 else 0)
theorem nS_le (P : Nat → Pg) (s : Int) : ∀ n, nS P s n ≤ n
  | 0 => by simp [nS]
  | n + 1 => by have := nS_le P s n; unfold nS; split <;> omega
theorem lp_pos {K : Int → Int → Mem → Option (Mem × Int)} (ho : TOk P) (hT : TC C P) (hs : 0 ≤ s ∧ s ≤ 2) : ∀ (m n : Nat) (v2 v3 : Int), m ≤ 32 → v2 = ((nS P s (32 - m) : Nat) : Int) → v3 = ((32 - m : Nat) : Int) → m < n → f_X6_pagesOfSort_4 s K n v2 v3 C = K ((nS P s 32 : Nat) : Int) 32 C
  | _, 0 => by intros; omega
  | 0, n + 1 => by
    intro v2 v3 _ h2 h3 _
    unfold f_X6_pagesOfSort_4
    rw [fLt (by omega), h2, h3]
    rfl
  | m + 1, n + 1 => by
    intro v2 v3 hm h2 h3 hn
    have hp := sp_sort (TC_pg ho hT (show 32 - (m + 1) < 32 by omega))
    have hsr := (ho (32 - (m + 1)) (by omega)).2.2.1
    have hst : nS P s (32 - m) = nS P s (32 - (m + 1)) + (if (P (32 - (m + 1))).1 = s then 1 else 0) := by
      rw [show 32 - m = (32 - (m + 1)) + 1 by omega]; rfl
    unfold f_X6_pagesOfSort_4
    rw [tLt (by omega), sp_pageOf h3 (by omega), bd_some, hp, bd_some]
    by_cases h : (P (32 - (m + 1))).1 = s
    · rw [if_pos h] at hst
      rw [tEq (by omega)]
      exact lp_pos ho hT hs m n _ _ (by omega) (by omega) (by omega) (by omega)
    · rw [if_neg h] at hst
      rw [fEq (by omega)]
      exact lp_pos ho hT hs m n _ _ (by omega) (by omega) (by omega) (by omega)
theorem sp_pos (ho : TOk P) (hT : TC C P) (hs : 0 ≤ s ∧ s ≤ 2) : f_X6_pagesOfSort s C = some (C, ((nS P s 32 : Nat) : Int)) := by
  have hfu := FU_eq
  unfold f_X6_pagesOfSort
  rw [lp_pos ho hT hs 32 FU 0 0 (by omega) rfl rfl (by omega)]
end M2
end
section
/-! MODEL: what reads a page. -/
def PgX (X : Mem) (i : Nat) (s l : Int) (es : List Ent) : Prop := (∀ j, j < 64 → X 96 (64 * i + j) = enc s l es j) ∧ EsOk es ∧ szs es ≤ 61 ∧ (0 ≤ s ∧ s ≤ 255) ∧ (0 ≤ l ∧ l ≤ 255) ∧ i < 32
def KX (X : Mem) (w : List Int) : Prop := X 95 12 = (w.length : Int) ∧ (∀ j, j < w.length → X 101 j = w.getD j 0) ∧ LOk w
section MR
variable {X : Mem} {i : Nat} {s l p : Int} {es a b : List Ent} {e : Ent} {w : List Int}
theorem PgX_len (h : PgX X i s l es) : 2 * es.length ≤ 61 := by
  have h1 := h.2.2.1
  have h3 := len_szs es
  omega
theorem mx_at (h : PgX X i s l es) (hp : p = (i : Int)) {z : Int} (hz : 0 ≤ z ∧ z < 64) : f_X8_at p z X = some (X, enc s l es z.toNat) := by
  have hi := h.2.2.2.2.2
  unfold f_X8_at
  rw [ix_t (by omega), show (64 * p + z).toNat = 64 * i + z.toNat by omega, h.1 _ (by omega)]
theorem mx_0 (h : PgX X i s l es) (hp : p = (i : Int)) : f_X8_at p 0 X = some (X, s) := mx_at h hp (by omega)
theorem mx_1 (h : PgX X i s l es) (hp : p = (i : Int)) : f_X8_at p 1 X = some (X, (es.length : Int)) := mx_at h hp (by omega)
theorem mx_2 (h : PgX X i s l es) (hp : p = (i : Int)) : f_X8_at p 2 X = some (X, l) := mx_at h hp (by omega)
theorem mx_len (h : PgX X i s l (a ++ e :: b)) (hp : p = (i : Int)) {z : Int} (hz : z = ((3 + szs a : Nat) : Int)) : f_X8_at p z X = some (X, (e.1.length : Int)) := by
  have h1 := h.2.2.1
  rw [szs_app, szs_cons] at h1
  rw [mx_at h hp (by omega), nat2 hz, enc_len rfl]
theorem mx_let (h : PgX X i s l (a ++ e :: b)) (hp : p = (i : Int)) {z : Int} {j : Nat} (hj : j < e.1.length) (hz : z = ((3 + szs a + 1 + j : Nat) : Int)) : f_X8_at p z X = some (X, e.1.getD j 0) := by
  have h1 := h.2.2.1
  rw [szs_app, szs_cons] at h1
  rw [mx_at h hp (by omega), nat2 hz, enc_let hj rfl]
theorem mx_tail (h : PgX X i s l (a ++ e :: b)) (hp : p = (i : Int)) {z : Int} (hz : z = ((3 + szs a + 1 + e.1.length : Nat) : Int)) : f_X8_at p z X = some (X, e.2) := by
  have h1 := h.2.2.1
  rw [szs_app, szs_cons] at h1
  rw [mx_at h hp (by omega), nat2 hz, enc_tail rfl]
theorem lm_start {K : Int → Int → Mem → Option (Mem × Int)} {u : Int} (h : PgX X i s l es) (hp : p = (i : Int)) : ∀ (b a c : List Ent) (n : Nat) (v2 v3 : Int), es = a ++ b ++ c → u = ((a ++ b).length : Int) → b.length < n → v2 = (3 + szs a : Nat) → v3 = (a.length : Int) → f_X8_startOf_5 p u K n v2 v3 X = K ((3 + szs (a ++ b) : Nat) : Int) u X
  | _, _, _, 0 => by intros; omega
  | [], a, c, n + 1 => by
    intro v2 v3 h1 h2 h3 h4 h5
    have h6 := PgX_len h
    rw [List.append_nil] at h2 ⊢
    have h7 : a.length ≤ es.length := by rw [h1]; simp
    unfold f_X8_startOf_5
    rw [fLt (by omega), h4, h5, h2]
  | e :: b, a, c, n + 1 => by
    intro v2 v3 h1 h2 h3 h4 h5
    have h6 := PgX_len h
    have h9 : es.length = a.length + (b.length + 1) + c.length := by rw [h1]; simp; omega
    have hu : u = ((a.length + (b.length + 1) : Nat) : Int) := by rw [h2]; simp
    have h' : PgX X i s l (a ++ e :: (b ++ c)) := by rw [h1, List.append_assoc] at h; exact h
    unfold f_X8_startOf_5
    rw [tLt (by omega), mx_len h' hp h4, bd_some]
    have q := lm_start (K := K) (u := u) h hp b (a ++ [e]) c n (v2 + ((e.1.length : Int) + 2)) (v3 + 1) (by rw [h1]; simp) (by rw [h2]; simp) (by simp at h3; omega) (by rw [szs_app, szs_cons, szs_nil]; omega) (by simp; omega)
    rw [q, List.append_assoc]
    rfl
theorem mx_start (h : PgX X i s l (a ++ b)) (hp : p = (i : Int)) {z : Int} (hz : z = (a.length : Int)) : f_X8_startOf p z X = some (X, ((3 + szs a : Nat) : Int)) := by
  unfold f_X8_startOf
  have h6 := PgX_len h
  have hf := FU_eq
  have q := lm_start (K := fun (v2_e4 : Int) (v3_e4 : Int) (C_e4 : Mem) => (some (C_e4, v2_e4))) (u := z) h hp a [] b FU 3 0 (by simp) (by rw [hz]; simp) (by simp at h6; omega) (by rw [szs_nil]; rfl) rfl
  rw [q]
  rfl
theorem mx_used (h : PgX X i s l es) (hp : p = (i : Int)) (hs : s ≠ 0) : f_X8_usedOf p X = some (X, ((3 + szs es : Nat) : Int)) := by
  have h1 := h.2.2.2.1
  have h' : PgX X i s l (es ++ []) := by rw [List.append_nil]; exact h
  unfold f_X8_usedOf
  rw [mx_0 h hp, bd_some, fEq (by omega), mx_1 h hp, bd_some, mx_start h' hp rfl, bd_some]
theorem mx_used0 (h : PgX X i 0 l es) (hp : p = (i : Int)) : f_X8_usedOf p X = some (X, 0) := by
  unfold f_X8_usedOf
  rw [mx_0 h hp, bd_some, tEq (by omega)]
theorem mx_child (h : PgX X i s l es) (hp : p = (i : Int)) {n : Nat} (hn : n ≤ es.length) {z : Int} (hz : z = (n : Int)) : f_X8_childOf p z X = some (X, chd (s, l, es) n) := by
  unfold f_X8_childOf
  have h6 := PgX_len h
  cases n with
  | zero =>
    rw [hz, tEq (by simp), mx_2 h hp, bd_some]
    rfl
  | succ m =>
    have hm : m < es.length := by omega
    have he : es = es.take m ++ es[m] :: es.drop (m + 1) := by rw [List.getElem_cons_drop, List.take_append_drop]
    have hl : (es.take m).length = m := by rw [List.length_take]; omega
    have h' := h
    rw [he] at h'
    have c := chd_s (p := (s, l, es)) he
    rw [hl] at c
    rw [c, fEq (by omega), mx_start h' hp (by rw [hl, hz]; simp), bd_some, mx_len h' hp rfl, bd_some, mx_tail h' hp (by omega), bd_some]
/-- a number that stands to 0 as letters stand to others -/
def Sg (r c : Int) : Prop := -1000 ≤ r ∧ r ≤ 1000 ∧ ((r < 0 ∧ c = -1) ∨ (r = 0 ∧ c = 0) ∨ (0 < r ∧ c = 1))
theorem lm_against {K : Int → Mem → Option (Mem × Int)} (h : PgX X i s l (a ++ e :: b)) (hp : p = (i : Int)) (hk : KX X w) : ∀ (m n : Nat) (v : Int), v = ((8 - m : Nat) : Int) → m ≤ 8 → m < n → ∃ j : Nat, f_X8_against_10 p ((3 + szs a : Nat) : Int) (e.1.length : Int) K n v X = K (j : Int) X ∧ cmp (w.drop (8 - m)) (e.1.drop (8 - m)) = cmp (w.drop j) (e.1.drop j) ∧ j ≤ 8 ∧ (w.length ≤ j ∨ e.1.length ≤ j ∨ w.getD j 0 ≠ e.1.getD j 0)
  | _, 0 => by intros; omega
  | 0, n + 1 => by
    intro v hv _ _
    have hw := hk.2.2.1
    refine ⟨8, ?_, rfl, by omega, Or.inl hw⟩
    unfold f_X8_against_10
    rw [hk.1, fLt (by omega), hv]
  | m + 1, n + 1 => by
    intro v hv hm hn
    have he := EsOk_mid h.2.1
    have h1 := h.2.2.1
    rw [szs_app, szs_cons] at h1
    have hw := hk.2.2.1
    have hkl := LOk_gd hk.2.2 (8 - (m + 1))
    have hel := LOk_gd (EOk_L he) (8 - (m + 1))
    obtain ⟨j, q1, q2, q3, q4⟩ := lm_against (K := K) h hp hk m n (v + 1) (by omega) (by omega) (by omega)
    have hstep := cmp_drop (LOk_pos hk.2.2) (LOk_pos (EOk_L he)) (8 - (m + 1))
    rw [show 8 - (m + 1) + 1 = 8 - m by omega] at hstep
    unfold f_X8_against_10
    rw [hk.1]
    by_cases c1 : 8 - (m + 1) < w.length
    · rw [tLt (by omega)]
      by_cases c2 : 8 - (m + 1) < e.1.length
      · rw [tLt (by omega), ix_t (by omega), mx_let h hp c2 (by omega), bd_some, nat2 hv, hk.2.1 _ c1]
        by_cases c3 : w.getD (8 - (m + 1)) 0 = e.1.getD (8 - (m + 1)) 0
        · rw [tEq (by omega)]
          rw [if_pos c3] at hstep
          exact ⟨j, q1, by rw [hstep]; exact q2, q3, q4⟩
        · rw [fEq (by omega)]
          exact ⟨8 - (m + 1), by rw [hv], rfl, by omega, Or.inr (Or.inr c3)⟩
      · rw [fLt (by have := he.2.1; omega)]
        exact ⟨8 - (m + 1), by rw [hv], rfl, by omega, Or.inr (Or.inl (by omega))⟩
    · rw [fLt (by omega)]
      exact ⟨8 - (m + 1), by rw [hv], rfl, by omega, Or.inl (by omega)⟩
theorem mx_against (h : PgX X i s l (a ++ e :: b)) (hp : p = (i : Int)) (hk : KX X w) {z : Int} (hz : z = ((3 + szs a : Nat) : Int)) : ∃ r, f_X8_against p z X = some (X, r) ∧ Sg r (cmp w e.1) := by
  have hf := FU_eq
  have he := EsOk_mid h.2.1
  have he2 := he.2.1
  have hw := hk.2.2.1
  subst hz
  unfold f_X8_against
  rw [mx_len h hp rfl, bd_some]
  obtain ⟨j, q1, q2, q3, q4⟩ := lm_against (K := (fun (v4_e10 : Int) (C_e10 : Mem) => (cLt (v4_e10) (C_e10 95 12) (cLt (v4_e10) (e.1.length : Int) (ix (v4_e10) 8 (bd (f_X8_at (p) ((((3 + szs a : Nat) : Int) + 1) + v4_e10) C_e10) (fun C82 r82 => (some (C82, (C_e10 (101) (v4_e10).toNat) - r82))))) (some (C_e10, (C_e10 95 12) - (e.1.length : Int)))) (some (C_e10, (C_e10 95 12) - (e.1.length : Int)))))) h hp hk 8 FU 0 rfl (by omega) (by omega)
  rw [q1]
  rw [Nat.sub_self, List.drop_zero, List.drop_zero] at q2
  rw [q2]
  have hkl := LOk_gd hk.2.2 j
  have hel := LOk_gd (EOk_L he) j
  have hstep := cmp_drop (LOk_pos hk.2.2) (LOk_pos (EOk_L he)) j
  rw [hk.1]
  by_cases c1 : j < w.length
  · rw [tLt (by omega)]
    by_cases c2 : j < e.1.length
    · rw [tLt (by omega), ix_t (by omega), mx_let h hp c2 (by omega), bd_some, nat2 rfl, hk.2.1 _ c1]
      refine ⟨_, rfl, by omega, by omega, ?_⟩
      have c3 : w.getD j 0 ≠ e.1.getD j 0 := by rcases q4 with q | q | q <;> omega
      rw [hstep, if_neg c3]
      by_cases c4 : w.getD j 0 < e.1.getD j 0
      · rw [if_pos c4]; exact Or.inl ⟨by omega, rfl⟩
      · rw [if_neg c4]; exact Or.inr (Or.inr ⟨by omega, rfl⟩)
    · rw [fLt (by omega)]
      refine ⟨_, rfl, by omega, by omega, ?_⟩
      rw [List.drop_eq_nil_of_le (show e.1.length ≤ j by omega), List.drop_eq_getElem_cons c1]
      exact Or.inr (Or.inr ⟨by omega, rfl⟩)
  · rw [fLt (by omega)]
    refine ⟨_, rfl, by omega, by omega, ?_⟩
    rw [List.drop_eq_nil_of_le (show w.length ≤ j by omega)]
    by_cases c2 : j < e.1.length
    · rw [List.drop_eq_getElem_cons c2]
      exact Or.inl ⟨by omega, rfl⟩
    · have hq2 : cmp w e.1 = 0 := by
        rw [q2, List.drop_eq_nil_of_le (show w.length ≤ j by omega), List.drop_eq_nil_of_le (show e.1.length ≤ j by omega)]; rfl
      have hq3 := (cmp_eq w e.1).mp hq2
      rw [List.drop_eq_nil_of_le (show e.1.length ≤ j by omega), hq3]
      exact Or.inr (Or.inl ⟨by omega, rfl⟩)
/-- the place of a key in a leaf -/
theorem lm_place {K : Int → Int → Mem → Option (Mem × Int)} (h : PgX X i s l es) (hp : p = (i : Int)) (hk : KX X w) : ∀ (b a : List Ent) (n : Nat) (v2 v3 : Int), es = a ++ b → v2 = (a.length : Int) → v3 = ((3 + szs a : Nat) : Int) → b.length < n → ∃ z, f_X8_placeIn_4 p K n v2 v3 X = K ((a.length + cb 0 w b : Nat) : Int) z X
  | _, _, 0 => by intros; omega
  | [], a, n + 1 => by
    intro v2 v3 h1 hv h3 _
    have h6 := PgX_len h
    unfold f_X8_placeIn_4
    rw [mx_1 h hp, bd_some, fLt (by rw [h1] at h6 ⊢; simp at h6 ⊢; omega), hv]
    exact ⟨v3, rfl⟩
  | e :: b, a, n + 1 => by
    intro v2 v3 h1 hv h3 hn
    have h6 := PgX_len h
    have h9 : es.length = a.length + (b.length + 1) := by rw [h1]; simp
    have h' : PgX X i s l (a ++ e :: b) := by rw [← h1]; exact h
    obtain ⟨r, r1, r2, r3, r4⟩ := mx_against h' hp hk h3
    have ha := cmp_anti e.1 w
    obtain ⟨z, ih⟩ := lm_place (K := K) h hp hk b (a ++ [e]) n (v2 + 1) (v3 + ((e.1.length : Int) + 2)) (by rw [h1]; simp) (by simp; omega) (by rw [szs_app, szs_cons, szs_nil]; omega) (by simp at hn; omega)
    unfold f_X8_placeIn_4 cb
    rw [mx_1 h hp, bd_some, tLt (by omega), r1, bd_some]
    by_cases hd : cmp e.1 w < 0
    · rw [tLt (by omega), mx_len h' hp h3, bd_some, ih, if_pos hd]
      refine ⟨z, ?_⟩
      congr 1
      simp
      omega
    · rw [fLt (by omega), if_neg hd, hv]
      exact ⟨v3, rfl⟩
theorem mx_place (h : PgX X i s l es) (hp : p = (i : Int)) (hk : KX X w) : f_X8_placeIn p X = some (X, (cb 0 w es : Int)) := by
  have h6 := PgX_len h
  have hf := FU_eq
  unfold f_X8_placeIn
  obtain ⟨z, q⟩ := lm_place (K := (fun (v2_e4 : Int) (v3_e4 : Int) (C_e4 : Mem) => (some (C_e4, v2_e4)))) h hp hk es [] FU 0 3 rfl rfl rfl (by omega)
  rw [q]
  simp
theorem mx_isAt (h : PgX X i s l (a ++ e :: b)) (hp : p = (i : Int)) (hk : KX X w) {z : Int} (hz : z = (a.length : Int)) : f_X8_isAt p z X = some (X, if cmp e.1 w = 0 then 1 else 0) := by
  have h6 := PgX_len h
  have h7 : (a ++ e :: b).length = a.length + (b.length + 1) := by simp
  obtain ⟨r, r1, r2, r3, r4⟩ := mx_against h hp hk rfl
  have ha := cmp_anti e.1 w
  unfold f_X8_isAt
  rw [mx_1 h hp, bd_some, tLt (by omega), mx_start h hp hz, bd_some, r1, bd_some]
  by_cases hd : cmp e.1 w = 0
  · rw [tEq (by omega), if_pos hd]
  · rw [fEq (by omega), if_neg hd]
theorem mx_isAt_end (h : PgX X i s l es) (hp : p = (i : Int)) {z : Int} (hz : z = (es.length : Int)) : f_X8_isAt p z X = some (X, 0) := by
  have h6 := PgX_len h
  unfold f_X8_isAt
  rw [mx_1 h hp, bd_some, fLt (by omega)]
theorem mx_tell (h : PgX X i s l (a ++ e :: b)) (hp : p = (i : Int)) {z : Int} (hz : z = (a.length : Int)) : f_X8_tellAt p z X = some (X, ((64 * i + (3 + szs a + 1 + e.1.length) : Nat) : Int)) := by
  unfold f_X8_tellAt
  rw [mx_start h hp hz, bd_some, mx_len h hp rfl, bd_some]
  congr 2
  omega
end MR
end
section
/-! MODEL: the row of entries. -/
def rowAt (X : Mem) (k : Nat) (e : Ent) : Prop := X 97 k = (e.1.length : Int) ∧ X 99 k = e.2 ∧ ∀ j, j < e.1.length → X 98 (8 * k + j) = e.1.getD j 0
def Rows (X : Mem) : Nat → List Ent → Prop
  | _, [] => True
  | o, e :: r => rowAt X o e ∧ Rows X (o + 1) r
def RowX (X : Mem) (es : List Ent) : Prop := X 95 6 = (es.length : Int) ∧ Rows X 0 es ∧ EsOk es
/-- the row alone -/
def Fro (X X' : Mem) : Prop := ∀ a b, a ≠ 97 → a ≠ 98 → a ≠ 99 → ¬ (a = 95 ∧ b = 6) → X' a b = X a b
def stX (X : Mem) (i : Nat) (g : Nat → Int) : Mem := fun a b => if a = 96 ∧ 64 * i ≤ b ∧ b < 64 * i + 64 then g (b - 64 * i) else X a b
section RO
variable {X X' : Mem} {i o k : Nat} {s l p : Int} {es a b x y z : List Ent} {e u v : Ent} {w : List Int}
theorem Fro_refl : Fro X X := fun _ _ _ _ _ _ => rfl
theorem Fro_tr {X2 : Mem} (h1 : Fro X X') (h2 : Fro X' X2) : Fro X X2 := fun a b q1 q2 q3 q4 => by rw [h2 a b q1 q2 q3 q4, h1 a b q1 q2 q3 q4]
theorem Fro_PgX (h : PgX X i s l es) (hf : Fro X X') : PgX X' i s l es := ⟨fun j hj => by rw [hf _ _ (by omega) (by omega) (by omega) (by omega)]; exact h.1 j hj, h.2⟩
theorem Rows_cons {r : List Ent} : Rows X o (e :: r) ↔ rowAt X o e ∧ Rows X (o + 1) r := Iff.rfl
theorem Rows_app : ∀ (a b : List Ent) (o : Nat), Rows X o (a ++ b) ↔ Rows X o a ∧ Rows X (o + a.length) b
  | [], b, o => by simp [Rows]
  | e :: r, b, o => by
    rw [List.cons_append, Rows_cons, Rows_cons, Rows_app r b (o + 1), and_assoc, show o + 1 + r.length = o + (e :: r).length by simp; omega]
theorem Rows_mid (h : Rows X o (a ++ e :: b)) : rowAt X (o + a.length) e := ((Rows_app a (e :: b) o).mp h).2.1
/-- rows depend on their own places alone -/
theorem Rows_fr : ∀ (es : List Ent) (o : Nat), EsOk es → Rows X o es → (∀ k, o ≤ k → k < o + es.length → X' 97 k = X 97 k ∧ X' 99 k = X 99 k ∧ ∀ j, j < 8 → X' 98 (8 * k + j) = X 98 (8 * k + j)) → Rows X' o es
  | [], o => by intros; trivial
  | e :: r, o => by
    intro ho h hf
    have h0 := EsOk_cons.mp ho
    obtain ⟨f1, f2, f3⟩ := hf o (by omega) (by simp)
    refine ⟨⟨by rw [f1]; exact h.1.1, by rw [f2]; exact h.1.2.1, fun j hj => by rw [f3 j (by have := h0.1.2.1; omega)]; exact h.1.2.2 j hj⟩, ?_⟩
    exact Rows_fr r (o + 1) h0.2 h.2 (fun k h1 h2 => hf k (by omega) (by simp; omega))
/-- bytes of some of the row -/
theorem lm_bytes {K : Int → Int → Mem → Option (Mem × Int)} {q : Int} : ∀ (b : List Ent) (o n : Nat) (v3 v4 : Int), Rows X o b → o + b.length ≤ 48 → q = ((o + b.length : Nat) : Int) → v4 = (o : Int) → b.length < n → f_X8_bytesOf_5 q K n v3 v4 X = K (v3 + ((szs b : Nat) : Int)) q X
  | _, _, 0 => by intros; omega
  | [], o, n + 1 => by
    intro v3 v4 _ h2 hz hv _
    unfold f_X8_bytesOf_5
    rw [fLt (by simp at hz; omega), szs_nil, hv, hz]
    simp
  | e :: r, o, n + 1 => by
    intro v3 v4 h h2 hz hv hn
    simp at h2 hz hn
    have ih := lm_bytes (K := K) (q := q) r (o + 1) n (v3 + ((e.1.length : Int) + 2)) (v4 + 1) h.2 (by omega) (by omega) (by omega) (by omega)
    unfold f_X8_bytesOf_5
    rw [tLt (by omega), ix_t (by omega), nat2 hv, h.1.1, ih, szs_cons]
    congr 1
    omega
theorem mx_bytes (h : Rows X 0 (a ++ b)) (hl : a.length ≤ 48) {q : Int} (hq : q = (a.length : Int)) : f_X8_bytesOf 0 q X = some (X, ((szs a : Nat) : Int)) := by
  have hf := FU_eq
  unfold f_X8_bytesOf
  rw [lm_bytes a 0 FU 0 0 ((Rows_app a b 0).mp h).1 (by omega) (by omega) rfl (by omega)]
  simp
theorem mx_bytes_all (h : RowX X es) (hl : es.length ≤ 48) : f_X8_bytesOf 0 (X 95 6) X = some (X, ((szs es : Nat) : Int)) := mx_bytes (b := []) (by rw [List.append_nil]; exact h.2.1) hl h.1
/-- an entry of a page comes out: its letters -/
theorem lm_out36 {K : Int → Mem → Option (Mem × Int)} {u3 : Int} (h : PgX X i s l (a ++ e :: b)) (hp : p = (i : Int)) {M : Nat} (hM : M < 48) : ∀ (m n : Nat) (q : Int) (Y : Mem), m ≤ e.1.length → q = ((e.1.length - m : Nat) : Int) → m < n → Y 95 6 = (M : Int) → (∀ j, Y 96 j = X 96 j) → f_X8_comeOut_36 p ((3 + szs a : Nat) : Int) u3 (e.1.length : Int) K n q (stI Y 98 (8 * M) (8 * M + (e.1.length - m)) (fun j => e.1.getD (j - 8 * M) 0)) = K (e.1.length : Int) (stI Y 98 (8 * M) (8 * M + e.1.length) (fun j => e.1.getD (j - 8 * M) 0))
  | _, 0 => by intros; omega
  | 0, n + 1 => by
    intro q Y _ hq _ h1 h2
    have he := (EsOk_mid h.2.1).2.1
    unfold f_X8_comeOut_36
    rw [fLt (by omega), hq]
    rfl
  | m + 1, n + 1 => by
    intro q Y hm hq hn h1 h2
    have he := (EsOk_mid h.2.1).2.1
    have hY : PgX (stI Y 98 (8 * M) (8 * M + (e.1.length - (m + 1))) (fun j => e.1.getD (j - 8 * M) 0)) i s l (a ++ e :: b) := ⟨fun j hj => by rw [stI_k (by omega), h2]; exact h.1 j hj, h.2⟩
    have ih := lm_out36 (K := K) (u3 := u3) h hp hM m n (q + 1) Y (by omega) (by omega) (by omega) h1 h2
    unfold f_X8_comeOut_36
    rw [tLt (by omega), mx_let hY hp (j := e.1.length - (m + 1)) (by omega) (by omega), bd_some, stI_k (by omega), h1, ix_t (by omega), show (8 * (M : Int) + q).toNat = 8 * M + (e.1.length - (m + 1)) by omega, stI_up (by omega) (by rw [show 8 * M + (e.1.length - (m + 1)) - 8 * M = e.1.length - (m + 1) by omega]), show 8 * M + (e.1.length - (m + 1)) + 1 = 8 * M + (e.1.length - m) by omega]
    exact ih
theorem lm_out {K : Int → Int → Mem → Option (Mem × Int)} (h : PgX X i s l es) (hp : p = (i : Int)) : ∀ (b a x : List Ent) (n : Nat) (v2 v3 : Int) (Y : Mem), es = a ++ b → v2 = ((3 + szs a : Nat) : Int) → v3 = (a.length : Int) → b.length < n → (∀ j, Y 96 j = X 96 j) → RowX Y x → x.length + b.length ≤ 48 → ∃ Y' q, f_X8_comeOut_4 p K n v2 v3 Y = K q (es.length : Int) Y' ∧ RowX Y' (x ++ b) ∧ Fro Y Y'
  | _, _, _, 0 => by intros; omega
  | [], a, x, n + 1 => by
    intro v2 v3 Y h1 h2 h3 _ hY hx _
    have h6 := PgX_len h
    have hY' : PgX Y i s l es := ⟨fun j hj => by rw [hY]; exact h.1 j hj, h.2⟩
    have h7 : es.length = a.length := by rw [h1]; simp
    refine ⟨Y, v2, ?_, by rw [List.append_nil]; exact hx, Fro_refl⟩
    unfold f_X8_comeOut_4
    rw [mx_1 hY' hp, bd_some, fLt (by omega), h3, h7]
  | e :: b, a, x, n + 1 => by
    intro v2 v3 Y h1 h2 h3 hn hY hx h48
    have h6 := PgX_len h
    have hfu := FU_eq
    have h9 : es.length = a.length + (b.length + 1) := by rw [h1]; simp
    simp at h48 hn
    have hY' : PgX Y i s l (a ++ e :: b) := ⟨fun j hj => by rw [hY, ← h1]; exact h.1 j hj, by rw [← h1]; exact h.2⟩
    have hY'' : PgX Y i s l es := by rw [h1]; exact hY'
    have he := EsOk_mid hY'.2.1
    have he2 := he.2.1
    have hzz := hY'.2.2.1
    rw [szs_app, szs_cons] at hzz
    have hm := hx.1
    have hrx := hx.2.1
    have hR' : ∀ Y2 : Mem, (∀ k, k < x.length → Y2 97 k = Y 97 k ∧ Y2 99 k = Y 99 k ∧ ∀ j, j < 8 → Y2 98 (8 * k + j) = Y 98 (8 * k + j)) → Rows Y2 0 x := fun Y2 hh => Rows_fr x 0 hx.2.2 hrx (fun k _ hk => hh k (by omega))
    have h36 := lm_out36 (u3 := v3) (K := (fun (v5_e36 : Int) (C_e36 : Mem) => (bd (f_X8_at p ((v2 + 1) + (e.1.length : Int)) C_e36) (fun C91 r91 => (ix (C_e36 95 6) 48 (f_X8_comeOut_4 p K n (v2 + ((e.1.length : Int) + 2)) (v3 + 1) (up (up C91 (99) (C_e36 95 6).toNat (r91)) 95 6 (((up C91 (99) (C_e36 95 6).toNat (r91)) 95 6) + 1)))))))) hY' hp (M := x.length) (by omega) e.1.length FU 0 (up Y 97 x.length (e.1.length : Int)) (by omega) (by omega) (by omega) (by rw [up_k (by omega), hm]) (fun j => by rw [up_k (by omega)])
    rw [show 8 * x.length + (e.1.length - e.1.length) = 8 * x.length by omega, stI_nil] at h36
    have hY2 : PgX (stI (up Y 97 x.length (e.1.length : Int)) 98 (8 * x.length) (8 * x.length + e.1.length) (fun j => e.1.getD (j - 8 * x.length) 0)) i s l (a ++ e :: b) := ⟨fun j hj => by rw [stI_k (by omega), up_k (by omega)]; exact hY'.1 j hj, hY'.2⟩
    have hrow : RowX (up (up (stI (up Y 97 x.length (e.1.length : Int)) 98 (8 * x.length) (8 * x.length + e.1.length) (fun j => e.1.getD (j - 8 * x.length) 0)) 99 x.length e.2) 95 6 ((x.length : Int) + 1)) (x ++ [e]) := by
      refine ⟨by rw [up_same]; simp, ?_, EsOk_app.mpr ⟨hx.2.2, EsOk_cons.mpr ⟨he, by intro t ht; cases ht⟩⟩⟩
      rw [Rows_app]
      refine ⟨hR' _ ?_, ⟨?_, ?_, ?_⟩, trivial⟩
      · intro k hk
        refine ⟨by rw [up_k (by omega), up_k (by omega), stI_k (by omega), up_j (by omega)], by rw [up_k (by omega), up_j (by omega), stI_k (by omega), up_k (by omega)], fun j hj => by rw [up_k (by omega), up_k (by omega), stI_out (by omega), up_k (by omega)]⟩
      · rw [Nat.zero_add, up_k (by omega), up_k (by omega), stI_k (by omega), up_same]
      · rw [Nat.zero_add, up_k (by omega), up_same]
      · intro j hj
        rw [Nat.zero_add, up_k (by omega), up_k (by omega), stI_in (by omega), show 8 * x.length + j - 8 * x.length = j by omega]
    obtain ⟨Y', q, i1, i2, i3⟩ := lm_out (K := K) h hp b (a ++ [e]) (x ++ [e]) n (v2 + ((e.1.length : Int) + 2)) (v3 + 1) (up (up (stI (up Y 97 x.length (e.1.length : Int)) 98 (8 * x.length) (8 * x.length + e.1.length) (fun j => e.1.getD (j - 8 * x.length) 0)) 99 x.length e.2) 95 6 ((x.length : Int) + 1)) (by rw [h1]; simp) (by rw [szs_app, szs_cons, szs_nil]; omega) (by simp; omega) (by omega) (fun j => by rw [up_k (by omega), up_k (by omega), stI_k (by omega), up_k (by omega), hY]) hrow (by simp; omega)
    refine ⟨Y', q, ?_, ?_, ?_⟩
    · unfold f_X8_comeOut_4
      rw [mx_1 hY'' hp, bd_some, tLt (by omega), mx_len hY' hp h2, bd_some, hm, ix_t (by omega), nat2 rfl, h2]
      rw [h2] at h36
      rw [h36]
      rw [mx_tail hY2 hp (by omega), bd_some, stI_k (by omega), up_k (by omega), hm, ix_t (by omega), nat2 rfl, up_k (by omega), stI_k (by omega), up_k (by omega), hm]
      rw [h2] at i1
      exact i1
    · rw [List.append_assoc] at i2
      exact i2
    · refine Fro_tr ?_ i3
      intro c d h1 h2 h3 h4
      rw [up_ap, if_neg h4, up_k (by omega), stI_k (by omega), up_k (by omega)]
theorem mx_out (h : PgX X i s l es) (hp : p = (i : Int)) (hx : RowX X x) (h48 : x.length + es.length ≤ 48) : ∃ X', f_X8_comeOut p X = some (X', 0) ∧ RowX X' (x ++ es) ∧ Fro X X' := by
  have hfu := FU_eq
  have h6 := PgX_len h
  obtain ⟨Y', q, i1, i2, i3⟩ := lm_out (K := (fun (v2_e4 : Int) (v3_e4 : Int) (C_e4 : Mem) => (some (C_e4, 0)))) h hp es [] x FU 3 0 X rfl rfl rfl (by omega) (fun _ => rfl) hx h48
  exact ⟨Y', by unfold f_X8_comeOut; rw [i1], i2, i3⟩
/-- an emptied row -/
theorem RowX_nil : RowX (up X 95 6 0) [] := ⟨by rw [up_same]; rfl, trivial, by intro t ht; cases ht⟩
theorem Fro_up6 {q : Int} (h : Fro X X') : Fro X (up X' 95 6 q) := fun a b h1 h2 h3 h4 => by rw [up_ap, if_neg h4]; exact h a b h1 h2 h3 h4
theorem mx_out0 (h : PgX X i s l es) (hp : p = (i : Int)) : ∃ X', f_X8_comeOut p (up X 95 6 0) = some (X', 0) ∧ RowX X' es ∧ Fro X X' := by
  have h6 := PgX_len h
  have h' : PgX (up X 95 6 0) i s l es := Fro_PgX h (Fro_up6 Fro_refl)
  obtain ⟨X', q1, q2, q3⟩ := mx_out h' hp RowX_nil (by simp; omega)
  exact ⟨X', q1, by simpa using q2, Fro_tr (Fro_up6 Fro_refl) q3⟩
/-- an entry is copied to another place -/
theorem lm_copies {K : Int → Mem → Option (Mem × Int)} {k1 k2 : Nat} (h1 : k1 < 48) (h2 : k2 < 48) (hk : k1 ≠ k2) {q1 q2 : Int} (e1 : q1 = (k1 : Int)) (e2 : q2 = (k2 : Int)) : ∀ (m n : Nat) (q : Int), m ≤ 8 → q = ((8 - m : Nat) : Int) → m < n → f_X8_copies_26 q1 q2 K n q (stI X 98 (8 * k2) (8 * k2 + (8 - m)) (fun j => X 98 (8 * k1 + (j - 8 * k2)))) = K 8 (stI X 98 (8 * k2) (8 * k2 + 8) (fun j => X 98 (8 * k1 + (j - 8 * k2))))
  | _, 0 => by intros; omega
  | 0, n + 1 => by
    intro q _ hq _
    unfold f_X8_copies_26
    rw [fLt (by omega), hq]
    rfl
  | m + 1, n + 1 => by
    intro q hm hq hn
    have ih := lm_copies (K := K) h1 h2 hk e1 e2 m n (q + 1) (by omega) (by omega) (by omega)
    unfold f_X8_copies_26
    rw [tLt (by omega), ix_t (by omega), ix_t (by omega), show (8 * q2 + q).toNat = 8 * k2 + (8 - (m + 1)) by omega, show (8 * q1 + q).toNat = 8 * k1 + (8 - (m + 1)) by omega, stI_out (by omega), stI_up (by omega) (by rw [show 8 * k2 + (8 - (m + 1)) - 8 * k2 = 8 - (m + 1) by omega]), show 8 * k2 + (8 - (m + 1)) + 1 = 8 * k2 + (8 - m) by omega]
    exact ih
theorem mx_copies {k1 k2 : Nat} (h1 : k1 < 48) (h2 : k2 < 48) (hk : k1 ≠ k2) {q1 q2 : Int} (e1 : q1 = (k1 : Int)) (e2 : q2 = (k2 : Int)) (he : rowAt X k1 e) (ho : EOk e) : ∃ X', f_X8_copies q1 q2 X = some (X', 0) ∧ rowAt X' k2 e ∧ (∀ k, k ≠ k2 → X' 97 k = X 97 k ∧ X' 99 k = X 99 k ∧ ∀ j, j < 8 → X' 98 (8 * k + j) = X 98 (8 * k + j)) ∧ (∀ c d, c ≠ 97 → c ≠ 98 → c ≠ 99 → X' c d = X c d) := by
  have hfu := FU_eq
  have ho2 := ho.2.1
  have h := lm_copies (X := up (up X 97 k2 (X 97 k1)) 99 k2 (X 99 k1)) (K := (fun (v3_e26 : Int) (C_e26 : Mem) => (some (C_e26, 0)))) h1 h2 hk e1 e2 8 FU 0 (by omega) rfl (by omega)
  rw [show 8 * k2 + (8 - 8) = 8 * k2 by omega, stI_nil] at h
  refine ⟨stI (up (up X 97 k2 (X 97 k1)) 99 k2 (X 99 k1)) 98 (8 * k2) (8 * k2 + 8) (fun j => (up (up X 97 k2 (X 97 k1)) 99 k2 (X 99 k1)) 98 (8 * k1 + (j - 8 * k2))), ?_, ⟨?_, ?_, ?_⟩, ?_, ?_⟩
  rotate_left
  · rw [stI_k (by omega), up_k (by omega), up_same]; exact he.1
  · rw [stI_k (by omega), up_same]; exact he.2.1
  · intro j hj
    rw [stI_in (by omega), up_k (by omega), up_k (by omega), show 8 * k1 + (8 * k2 + j - 8 * k2) = 8 * k1 + j by omega]
    exact he.2.2 j hj
  · intro k hk2
    refine ⟨by rw [stI_k (by omega), up_k (by omega), up_j hk2], by rw [stI_k (by omega), up_j hk2, up_k (by omega)], fun j hj => by rw [stI_out (by omega), up_k (by omega), up_k (by omega)]⟩
  · intro c d h97 h98 h99
    rw [stI_k h98, up_k h99, up_k h97]
  · unfold f_X8_copies
    rw [ix_t (by omega), ix_t (by omega), ix_t (by omega), ix_t (by omega), nat2 e1, nat2 e2, up_k (by omega)]
    exact h
end RO
end
section
/-! MODEL: the row changes, pages are written. -/
def ArX (X : Mem) (c : Nat) (w : List Int) : Prop := ∀ j, j < w.length → X c j = w.getD j 0
section R2
variable {X X' : Mem} {i o k c : Nat} {s l p t : Int} {es a b x y z : List Ent} {e u v : Ent} {w : List Int}
/-- the row's tail moves up by one -/
theorem lm_in6 {K : Int → Mem → Option (Mem × Int)} {u3 u4 q : Int} (hq : q = (o : Int)) : ∀ (m n : Nat) (b1 b2 : List Ent) (v5 : Int) (Y : Mem), b1.length = m → v5 = ((o + m : Nat) : Int) → m < n → EsOk (b1 ++ b2) → o + (b1 ++ b2).length < 48 → Rows Y o b1 → Rows Y (o + m + 1) b2 → ∃ Y', f_X8_comesIn_6 q c u3 u4 K n v5 Y = K (o : Int) Y' ∧ Rows Y' (o + 1) (b1 ++ b2) ∧ (∀ k, k ≤ o → Y' 97 k = Y 97 k ∧ Y' 99 k = Y 99 k ∧ ∀ j, j < 8 → Y' 98 (8 * k + j) = Y 98 (8 * k + j)) ∧ (∀ a d, a ≠ 97 → a ≠ 98 → a ≠ 99 → Y' a d = Y a d)
  | _, 0 => by intros; omega
  | 0, n + 1 => by
    intro b1 b2 v5 Y hb hv _ _ h48 _ h2
    have : b1 = [] := List.length_eq_zero_iff.mp hb
    subst this
    refine ⟨Y, ?_, h2, fun k _ => ⟨rfl, rfl, fun _ _ => rfl⟩, fun _ _ _ _ _ => rfl⟩
    simp at h48
    unfold f_X8_comesIn_6
    rw [fLt (by omega), hv]
    rfl
  | m + 1, n + 1 => by
    intro b1 b2 v5 Y hb hv hn ho h48 h1 h2
    have hne : b1 ≠ [] := by intro h; rw [h] at hb; simp at hb
    have hsp := List.dropLast_concat_getLast hne
    have hdl : b1.dropLast.length = m := by rw [List.length_dropLast]; omega
    generalize b1.dropLast = d at hsp hdl
    generalize b1.getLast hne = f at hsp
    rw [← hsp] at ho h48 h1
    have ho1 := EsOk_app.mp ho
    have ho2 := EsOk_app.mp ho1.1
    have hf := (EsOk_cons.mp ho2.2).1
    have r1 := (Rows_app d [f] o).mp h1
    simp at h48
    obtain ⟨Y1, c1, c2, c3, c4⟩ := mx_copies (k1 := o + m) (k2 := o + m + 1) (q1 := v5 - 1) (q2 := v5) (by omega) (by omega) (by omega) (by omega) (by omega) (by rw [← hdl]; exact r1.2.1) hf
    have g1 : Rows Y1 o d := Rows_fr d o ho2.1 r1.1 (fun k q1 q2 => c3 k (by omega))
    have g2 : Rows Y1 (o + m + 1) (f :: b2) := ⟨c2, Rows_fr b2 (o + m + 1 + 1) ho1.2 h2 (fun k q1 q2 => c3 k (by omega))⟩
    obtain ⟨Y', i1, i2, i3, i4⟩ := lm_in6 (K := K) (u3 := u3) (u4 := u4) hq m n d (f :: b2) (v5 + -1) Y1 hdl (by omega) (by omega) (by rw [List.append_assoc] at ho; exact ho) (by simp; omega) g1 g2
    refine ⟨Y', ?_, ?_, ?_, ?_⟩
    · unfold f_X8_comesIn_6
      rw [tLt (by omega), c1, bd_some]
      exact i1
    · rw [← hsp, List.append_assoc]
      exact i2
    · intro k hk
      obtain ⟨a1, a2, a3⟩ := i3 k hk
      obtain ⟨b1, b2, b3⟩ := c3 k (by omega)
      exact ⟨by rw [a1, b1], by rw [a2, b2], fun j hj => by rw [a3 j hj, b3 j hj]⟩
    · intro a d h1 h2 h3
      rw [i4 a d h1 h2 h3, c4 a d h1 h2 h3]
theorem lm_in46 {K : Int → Mem → Option (Mem × Int)} {q u3 : Int} (hq : q = (o : Int)) (ho : o < 48) (hw : LOk w) (hu : u3 = (w.length : Int)) (hc : c ≤ 1) : ∀ (m n : Nat) (v5 : Int) (Y : Mem), ArX Y (100 + c) w → m ≤ w.length → v5 = ((w.length - m : Nat) : Int) → m < n → f_X8_comesIn_46 q c u3 K n v5 (stI Y 98 (8 * o) (8 * o + (w.length - m)) (fun j => w.getD (j - 8 * o) 0)) = K (w.length : Int) (stI Y 98 (8 * o) (8 * o + w.length) (fun j => w.getD (j - 8 * o) 0))
  | _, 0 => by intros; omega
  | 0, n + 1 => by
    intro v5 Y _ _ hv _
    have h8 := hw.1
    unfold f_X8_comesIn_46
    rw [fLt (by omega), hv]
    rfl
  | m + 1, n + 1 => by
    intro v5 Y hY hm hv hn
    have h8 := hw.1
    have ih := lm_in46 (K := K) hq ho hw hu hc m n (v5 + 1) Y hY (by omega) (by omega) (by omega)
    unfold f_X8_comesIn_46
    rw [tLt (by omega), ix_t (by omega), ix_t (by omega), nat2 hv, show (8 * q + v5).toNat = 8 * o + (w.length - (m + 1)) by omega, stI_k (by omega), hY _ (by omega), stI_up (by omega) (by rw [show 8 * o + (w.length - (m + 1)) - 8 * o = w.length - (m + 1) by omega]), show 8 * o + (w.length - (m + 1)) + 1 = 8 * o + (w.length - m) by omega]
    exact ih
/-- an entry comes into the row -/
theorem mx_in (h : RowX X (a ++ b)) (hw : ArX X (100 + c) w) (hl : LOk w) (hw1 : 1 ≤ w.length) (hc : c ≤ 1) (h48 : (a ++ b).length < 48) {q n t : Int} (hq : q = (a.length : Int)) (hn : n = (w.length : Int)) (ht : 0 ≤ t ∧ t ≤ 255) : ∃ X', f_X8_comesIn q c n t X = some (X', 0) ∧ RowX X' (a ++ (w, t) :: b) ∧ Fro X X' := by
  have hfu := FU_eq
  have hab := EsOk_app.mp h.2.2
  have hr := (Rows_app a b 0).mp h.2.1
  rw [Nat.zero_add] at hr
  have hlen : (a ++ b).length = a.length + b.length := by simp
  have h8 := hl.1
  obtain ⟨Y, i1, i2, i3, i4⟩ := lm_in6 (o := a.length) (c := c) (u3 := n) (u4 := t) (K := (fun (v5_e6 : Int) (C_e6 : Mem) => (ix (q) 48 (ix (q) 48 (f_X8_comesIn_46 (q) c (n) (fun (v5_e46 : Int) (C_e46 : Mem) => (some ((up C_e46 95 6 ((C_e46 95 6) + 1)), 0))) FU (0) (up (up C_e6 (97) (q).toNat (n)) (99) (q).toNat (t))))))) hq b.length FU b [] (X 95 6) X rfl (by rw [h.1, hlen]) (by omega) (by rw [List.append_nil]; exact hab.2) (by simp; omega) hr.2 trivial
  rw [List.append_nil] at i2
  have h46 := lm_in46 (K := (fun (v5_e46 : Int) (C_e46 : Mem) => (some ((up C_e46 95 6 ((C_e46 95 6) + 1)), 0)))) (o := a.length) (c := c) hq (by omega) hl hn hc w.length FU 0 (up (up Y 97 a.length n) 99 a.length t) (fun j hj => by rw [up_k (by omega), up_k (by omega), i4 _ _ (by omega) (by omega) (by omega)]; exact hw j hj) (by omega) (by omega) (by omega)
  rw [show 8 * a.length + (w.length - w.length) = 8 * a.length by omega, stI_nil] at h46
  refine ⟨up (stI (up (up Y 97 a.length n) 99 a.length t) 98 (8 * a.length) (8 * a.length + w.length) (fun j => w.getD (j - 8 * a.length) 0)) 95 6 (((a ++ b).length : Int) + 1), ?_, ⟨?_, ?_, ?_⟩, ?_⟩
  · unfold f_X8_comesIn
    rw [i1]
    rw [ix_t (by omega), ix_t (by omega), nat2 hq, h46]
    rw [stI_k (by omega), up_k (by omega), up_k (by omega), i4 _ _ (by omega) (by omega) (by omega), h.1]
  · rw [up_same]
    simp
    omega
  · rw [Rows_app, Nat.zero_add]
    refine ⟨?_, ⟨?_, ?_, ?_⟩, ?_⟩
    · refine Rows_fr a 0 hab.1 hr.1 ?_
      intro k _ hk
      obtain ⟨a1, a2, a3⟩ := i3 k (by omega)
      exact ⟨by rw [up_k (by omega), stI_k (by omega), up_k (by omega), up_j (by omega), a1], by rw [up_k (by omega), stI_k (by omega), up_j (by omega), up_k (by omega), a2], fun j hj => by rw [up_k (by omega), stI_out (by omega), up_k (by omega), up_k (by omega), a3 j hj]⟩
    · rw [up_k (by omega), stI_k (by omega), up_k (by omega), up_same, hn]
    · rw [up_k (by omega), stI_k (by omega), up_same]
    · intro j hj
      have hj : j < w.length := hj
      rw [up_k (by omega), stI_in (by omega), show 8 * a.length + j - 8 * a.length = j by omega]
    · refine Rows_fr b (a.length + 1) hab.2 i2 ?_
      intro k hk1 hk2
      exact ⟨by rw [up_k (by omega), stI_k (by omega), up_k (by omega), up_j (by omega)], by rw [up_k (by omega), stI_k (by omega), up_j (by omega), up_k (by omega)], fun j hj => by rw [up_k (by omega), stI_out (by omega), up_k (by omega), up_k (by omega)]⟩
  · exact EsOk_app.mpr ⟨hab.1, EsOk_cons.mpr ⟨⟨hw1, hl.1, hl.2, ht⟩, hab.2⟩⟩
  · intro c d h1 h2 h3 h4
    rw [up_ap, if_neg h4, stI_k (by omega), up_k (by omega), up_k (by omega), i4 _ _ h1 h2 h3]
/-- the row's tail moves down by one -/
theorem lm_go {K : Int → Mem → Option (Mem × Int)} {M : Nat} (hM : M ≤ 48) : ∀ (b : List Ent) (o n : Nat) (q : Int) (Y : Mem), EsOk b → Rows Y (o + 1) b → Y 95 6 = (M : Int) → o + 1 + b.length = M → q = (o : Int) + 1 → b.length < n → ∃ Y', f_X8_goesOut_4 K n q Y = K (M : Int) Y' ∧ Rows Y' o b ∧ (∀ k, k < o → Y' 97 k = Y 97 k ∧ Y' 99 k = Y 99 k ∧ ∀ j, j < 8 → Y' 98 (8 * k + j) = Y 98 (8 * k + j)) ∧ (∀ a d, a ≠ 97 → a ≠ 98 → a ≠ 99 → Y' a d = Y a d)
  | _, _, 0 => by intros; omega
  | [], o, n + 1 => by
    intro q Y _ _ h1 h2 hq _
    refine ⟨Y, ?_, trivial, fun k _ => ⟨rfl, rfl, fun _ _ => rfl⟩, fun _ _ _ _ _ => rfl⟩
    simp at h2
    unfold f_X8_goesOut_4
    rw [h1, fLt (by omega), hq, ← h2]
    rfl
  | f :: r, o, n + 1 => by
    intro q Y ho h1 h2 h3 hq hn
    have ho1 := EsOk_cons.mp ho
    simp at h3 hn
    obtain ⟨Y1, c1, c2, c3, c4⟩ := mx_copies (k1 := o + 1) (k2 := o) (q1 := q) (q2 := q - 1) (by omega) (by omega) (by omega) (by omega) (by omega) h1.1 ho1.1
    obtain ⟨Y', i1, i2, i3, i4⟩ := lm_go (K := K) hM r (o + 1) n (q + 1) Y1 ho1.2 (Rows_fr r (o + 1 + 1) ho1.2 h1.2 (fun k q1 q2 => c3 k (by omega))) (by rw [c4 _ _ (by omega) (by omega) (by omega), h2]) (by omega) (by omega) (by omega)
    refine ⟨Y', ?_, ⟨?_, i2⟩, ?_, ?_⟩
    · unfold f_X8_goesOut_4
      rw [h2, tLt (by omega), c1, bd_some]
      exact i1
    · obtain ⟨a1, a2, a3⟩ := i3 o (by omega)
      have := ho1.1.2.1
      exact ⟨by rw [a1]; exact c2.1, by rw [a2]; exact c2.2.1, fun j hj => by rw [a3 j (by omega)]; exact c2.2.2 j hj⟩
    · intro k hk
      obtain ⟨a1, a2, a3⟩ := i3 k (by omega)
      obtain ⟨b1, b2, b3⟩ := c3 k (by omega)
      exact ⟨by rw [a1, b1], by rw [a2, b2], fun j hj => by rw [a3 j hj, b3 j hj]⟩
    · intro a d h1 h2 h3
      rw [i4 a d h1 h2 h3, c4 a d h1 h2 h3]
theorem mx_go (h : RowX X (a ++ e :: b)) (h48 : (a ++ e :: b).length ≤ 48) {q : Int} (hq : q = (a.length : Int)) : ∃ X', f_X8_goesOut q X = some (X', 0) ∧ RowX X' (a ++ b) ∧ Fro X X' := by
  have hfu := FU_eq
  have hab := EsOk_app.mp h.2.2
  have hb := EsOk_cons.mp hab.2
  have hr := (Rows_app a (e :: b) 0).mp h.2.1
  rw [Nat.zero_add] at hr
  have hlen : (a ++ e :: b).length = a.length + (b.length + 1) := by simp
  obtain ⟨Y, i1, i2, i3, i4⟩ := lm_go (K := (fun (v2_e4 : Int) (C_e4 : Mem) => (some ((up C_e4 95 6 ((C_e4 95 6) - 1)), 0)))) (M := (a ++ e :: b).length) h48 b a.length FU (q + 1) X hb.2 hr.2.2 h.1 (by omega) (by omega) (by omega)
  refine ⟨up Y 95 6 (((a ++ e :: b).length : Int) - 1), ?_, ⟨?_, ?_, EsOk_app.mpr ⟨hab.1, hb.2⟩⟩, ?_⟩
  · unfold f_X8_goesOut
    rw [i1]
    rw [i4 _ _ (by omega) (by omega) (by omega), h.1]
  · rw [up_same]
    simp
    omega
  · rw [Rows_app, Nat.zero_add]
    refine ⟨Rows_fr a 0 hab.1 hr.1 ?_, Rows_fr b a.length hb.2 i2 ?_⟩
    · intro k _ hk
      obtain ⟨a1, a2, a3⟩ := i3 k (by omega)
      exact ⟨by rw [up_k (by omega), a1], by rw [up_k (by omega), a2], fun j hj => by rw [up_k (by omega), a3 j hj]⟩
    · intro k _ _
      exact ⟨by rw [up_k (by omega)], by rw [up_k (by omega)], fun j hj => by rw [up_k (by omega)]⟩
  · intro c d h1 h2 h3 h4
    rw [up_ap, if_neg h4, i4 _ _ h1 h2 h3]
/-! pages are written -/
theorem stX_ap {g : Nat → Int} {c d : Nat} : stX X i g c d = if c = 96 ∧ 64 * i ≤ d ∧ d < 64 * i + 64 then g (d - 64 * i) else X c d := rfl
theorem stX_k {g : Nat → Int} {c d : Nat} (h : c ≠ 96) : stX X i g c d = X c d := by rw [stX_ap, if_neg (by omega)]
theorem stX_in {g : Nat → Int} {d : Nat} (h : d < 64) : stX X i g 96 (64 * i + d) = g d := by rw [stX_ap, if_pos (by omega), show 64 * i + d - 64 * i = d by omega]
theorem stX_o {g : Nat → Int} {c d : Nat} (h : d < 64 * i ∨ 64 * i + 64 ≤ d) : stX X i g c d = X c d := by rw [stX_ap, if_neg (by omega)]
theorem lm_clear {K : Int → Mem → Option (Mem × Int)} (hi : i < 32) (hp : p = (i : Int)) : ∀ (m n : Nat) (q : Int), m ≤ 64 → q = ((64 - m : Nat) : Int) → m < n → f_X8_clears_2 p K n q (stI X 96 (64 * i) (64 * i + (64 - m)) (fun _ => 0)) = K 64 (stI X 96 (64 * i) (64 * i + 64) (fun _ => 0))
  | _, 0 => by intros; omega
  | 0, n + 1 => by
    intro q _ hq _
    unfold f_X8_clears_2
    rw [fLt (by omega), hq]
    rfl
  | m + 1, n + 1 => by
    intro q hm hq hn
    have ih := lm_clear (K := K) hi hp m n (q + 1) (by omega) (by omega) (by omega)
    unfold f_X8_clears_2
    rw [tLt (by omega), ix_t (by omega), show (64 * p + q).toNat = 64 * i + (64 - (m + 1)) by omega, stI_up (by omega) rfl, show 64 * i + (64 - (m + 1)) + 1 = 64 * i + (64 - m) by omega]
    exact ih
theorem enc_00 (j : Nat) : enc 0 0 [] j = 0 := by
  unfold enc
  simp [flat]
theorem mx_clear (hi : i < 32) (hp : p = (i : Int)) : f_X8_clears p X = some (stX X i (enc 0 0 []), 0) := by
  have hfu := FU_eq
  unfold f_X8_clears
  have h := lm_clear (X := X) (K := (fun (v2_e2 : Int) (C_e2 : Mem) => (some (C_e2, 0)))) hi hp 64 FU 0 (by omega) rfl (by omega)
  rw [show 64 * i + (64 - 64) = 64 * i by omega, stI_nil] at h
  rw [h]
  refine some_c ?_ rfl
  funext c d
  rw [stI_ap, stX_ap, enc_00]
/-- letters of an entry go back -/
theorem lm_back79 {K : Int → Mem → Option (Mem × Int)} {u5 q6 q7 : Int} {S : Nat} (hk : k < 48) (h6 : q6 = (S : Int)) (h7 : q7 = (k : Int)) (he : EOk e) (hS : S + e.1.length + 2 ≤ 2048) : ∀ (m n : Nat) (q : Int) (Y : Mem), rowAt Y k e → m ≤ e.1.length → q = ((e.1.length - m : Nat) : Int) → m < n → f_X8_goBack_79 u5 q6 q7 K n q (stI Y 96 (S + 1) (S + 1 + (e.1.length - m)) (fun j => e.1.getD (j - (S + 1)) 0)) = K (e.1.length : Int) (stI Y 96 (S + 1) (S + 1 + e.1.length) (fun j => e.1.getD (j - (S + 1)) 0))
  | _, 0 => by intros; omega
  | 0, n + 1 => by
    intro q Y hY _ hq _
    have h8 := he.2.1
    unfold f_X8_goBack_79
    rw [ix_t (by omega), nat2 h7, stI_k (by omega), hY.1, fLt (by omega), hq]
    rfl
  | m + 1, n + 1 => by
    intro q Y hY hm hq hn
    have h8 := he.2.1
    have ih := lm_back79 (K := K) (u5 := u5) hk h6 h7 he hS m n (q + 1) Y hY (by omega) (by omega) (by omega)
    unfold f_X8_goBack_79
    rw [ix_t (by omega), nat2 h7, stI_k (by omega), hY.1, tLt (by omega), ix_t (by omega), ix_t (by omega), show (8 * q7 + q).toNat = 8 * k + (e.1.length - (m + 1)) by omega, show (q6 + 1 + q).toNat = S + 1 + (e.1.length - (m + 1)) by omega, stI_k (by omega), hY.2.2 _ (by omega), stI_up (by omega) (by rw [show S + 1 + (e.1.length - (m + 1)) - (S + 1) = e.1.length - (m + 1) by omega]), show S + 1 + (e.1.length - (m + 1)) + 1 = S + 1 + (e.1.length - m) by omega]
    exact ih
theorem lm_back55 {K : Int → Int → Mem → Option (Mem × Int)} {u5 : Int} : ∀ (y : List Ent) (o S n : Nat) (q6 q7 : Int) (Y : Mem), EsOk y → Rows Y o y → o + y.length ≤ 48 → S + szs y ≤ 2048 → u5 = ((o + y.length : Nat) : Int) → q6 = (S : Int) → q7 = (o : Int) → y.length < n → f_X8_goBack_55 u5 K n q6 q7 Y = K ((S + szs y : Nat) : Int) u5 (stI Y 96 S (S + szs y) (fun j => (flat y).getD (j - S) 0))
  | _, _, _, 0 => by intros; omega
  | [], o, S, n + 1 => by
    intro q6 q7 Y _ _ _ _ h5 h6 h7 _
    simp at h5
    unfold f_X8_goBack_55
    rw [fLt (by omega), h6, h7, szs_nil, Nat.add_zero, stI_nil, h5]
  | e :: r, o, S, n + 1 => by
    intro q6 q7 Y ho hr h48 hS h5 h6 h7 hn
    have hfu := FU_eq
    have ho1 := EsOk_cons.mp ho
    have h8 := ho1.1.2.1
    simp at h48 h5 hn
    rw [szs_cons] at hS
    have hY1 : ∀ c d, c ≠ 96 → (stI (up Y 96 S (e.1.length : Int)) 96 (S + 1) (S + 1 + e.1.length) (fun j => e.1.getD (j - (S + 1)) 0)) c d = Y c d := fun c d hc => by rw [stI_k hc, up_k hc]
    have ra : rowAt (up Y 96 S (e.1.length : Int)) o e := ⟨by rw [up_k (by omega)]; exact hr.1.1, by rw [up_k (by omega)]; exact hr.1.2.1, fun j hj => by rw [up_k (by omega)]; exact hr.1.2.2 j hj⟩
    have h79 := lm_back79 (u5 := u5) (q6 := q6) (q7 := q7) (K := (fun (v8_e79 : Int) (C_e79 : Mem) => (ix (q7) 48 (ix (q7) 48 (ix ((q6 + 1) + (C_e79 (97) (q7).toNat)) 2048 (ix (q7) 48 (f_X8_goBack_55 u5 K n (q6 + (((up C_e79 (96) ((q6 + 1) + (C_e79 (97) (q7).toNat)).toNat (C_e79 (99) (q7).toNat)) (97) (q7).toNat) + 2)) (q7 + 1) (up C_e79 (96) ((q6 + 1) + (C_e79 (97) (q7).toNat)).toNat (C_e79 (99) (q7).toNat))))))))) (k := o) (S := S) (by omega) h6 h7 ho1.1 (by omega) e.1.length FU 0 (up Y 96 S (e.1.length : Int)) ra (by omega) (by omega) (by omega)
    rw [show S + 1 + (e.1.length - e.1.length) = S + 1 by omega, stI_nil] at h79
    unfold f_X8_goBack_55
    rw [tLt (by omega), ix_t (by omega), ix_t (by omega), nat2 h7, nat2 h6, hr.1.1]
    rw [nat2 h7] at h79
    rw [h79]
    rw [hY1 _ _ (by omega), hY1 _ _ (by omega), hr.1.1, hr.1.2.1, ix_t (by omega), ix_t (by omega), ix_t (by omega), ix_t (by omega), up_k (by omega), hY1 _ _ (by omega), hr.1.1, show (q6 + 1 + (e.1.length : Int)).toNat = S + 1 + e.1.length by omega]
    have ih := lm_back55 (K := K) (u5 := u5) r (o + 1) (S + (e.1.length + 2)) n (q6 + ((e.1.length : Int) + 2)) (q7 + 1) (up (stI (up Y 96 S (e.1.length : Int)) 96 (S + 1) (S + 1 + e.1.length) (fun j => e.1.getD (j - (S + 1)) 0)) 96 (S + 1 + e.1.length) e.2) ho1.2 (Rows_fr r (o + 1) ho1.2 hr.2 (fun k _ _ => ⟨by rw [up_k (by omega), hY1 _ _ (by omega)], by rw [up_k (by omega), hY1 _ _ (by omega)], fun j _ => by rw [up_k (by omega), hY1 _ _ (by omega)]⟩)) (by omega) (by omega) (by omega) (by omega) (by omega) (by omega)
    rw [ih, szs_cons]
    have hm : stI (up (stI (up Y 96 S (e.1.length : Int)) 96 (S + 1) (S + 1 + e.1.length) (fun j => e.1.getD (j - (S + 1)) 0)) 96 (S + 1 + e.1.length) e.2) 96 (S + (e.1.length + 2)) (S + (e.1.length + 2) + szs r) (fun j => (flat r).getD (j - (S + (e.1.length + 2))) 0) = stI Y 96 S (S + (e.1.length + 2 + szs r)) (fun j => (flat (e :: r)).getD (j - S) 0) := by
      funext c d
      rw [flat_cons]
      by_cases hc : c = 96
      · subst hc
        by_cases d1 : S + (e.1.length + 2) ≤ d ∧ d < S + (e.1.length + 2) + szs r
        · rw [stI_in d1, stI_in (by omega), gd_r (by rw [e1_len]; omega), e1_len]
          exact gd_c (by omega)
        · rw [stI_out (by omega)]
          by_cases d2 : d = S + 1 + e.1.length
          · rw [d2, up_same, stI_in (by omega), gd_l (by rw [e1_len]; omega), show S + 1 + e.1.length - S = 1 + e.1.length by omega, e1_t]
          · rw [up_j d2]
            by_cases d3 : S + 1 ≤ d ∧ d < S + 1 + e.1.length
            · rw [stI_in d3, stI_in (by omega), gd_l (by rw [e1_len]; omega), show d - S = 1 + (d - (S + 1)) by omega, e1_l _ (by omega)]
            · rw [stI_out (by omega)]
              by_cases d4 : d = S
              · rw [d4, up_same, stI_in (by omega), Nat.sub_self]
                rfl
              · rw [up_j d4, stI_out (by omega)]
      · rw [stI_k hc, up_k hc, stI_k hc, up_k hc, stI_k hc]
    rw [hm, show S + (e.1.length + 2) + szs r = S + (e.1.length + 2 + szs r) by omega]
theorem mx_back (hi : i < 32) (hp : p = (i : Int)) (hr : Rows X 0 (x ++ y ++ z)) (ho : EsOk y) (h48 : (x ++ y).length ≤ 48) (hy : szs y ≤ 61) {q4 q5 : Int} (h4 : q4 = (x.length : Int)) (h5 : q5 = ((x ++ y).length : Int)) : f_X8_goBack p s l q4 q5 X = some (stX X i (enc s l y), 0) := by
  have hfu := FU_eq
  have hlen : (x ++ y).length = x.length + y.length := by simp
  have hr2 := ((Rows_app x y 0).mp ((Rows_app (x ++ y) z 0).mp hr).1).2
  rw [Nat.zero_add] at hr2
  have h3 := len_szs y
  unfold f_X8_goBack
  rw [mx_clear hi hp, bd_some, ix_t (by omega), ix_t (by omega), ix_t (by omega)]
  rw [lm_back55 y x.length (64 * i + 3) FU _ q4 _ ho (Rows_fr y x.length ho hr2 (fun k _ _ => ⟨by rw [up_k (by omega), up_k (by omega), up_k (by omega), stX_k (by omega)], by rw [up_k (by omega), up_k (by omega), up_k (by omega), stX_k (by omega)], fun j _ => by rw [up_k (by omega), up_k (by omega), up_k (by omega), stX_k (by omega)]⟩)) (by omega) (by omega) (by omega) (by omega) h4 (by omega)]
  refine some_c ?_ rfl
  funext c d
  rw [show (64 * p).toNat = 64 * i by omega, show (64 * p + 1).toNat = 64 * i + 1 by omega, show (64 * p + 2).toNat = 64 * i + 2 by omega]
  by_cases hc : c = 96
  · subst hc
    by_cases hd : 64 * i ≤ d ∧ d < 64 * i + 64
    · rw [show d = 64 * i + (d - 64 * i) by omega, stX_in (g := enc s l y) (by omega)]
      generalize hj : d - 64 * i = j
      by_cases d1 : 3 ≤ j ∧ j < 3 + szs y
      · rw [stI_in (by omega), enc_g (by omega)]
        exact gd_c (by omega)
      · rw [stI_out (by omega)]
        by_cases d2 : j = 2
        · subst d2; rw [up_same]; rfl
        · rw [up_j (by omega)]
          by_cases d3 : j = 1
          · subst d3; rw [up_same, enc_1, h4, h5]; omega
          · rw [up_j (by omega)]
            by_cases d4 : j = 0
            · subst d4; rw [Nat.add_zero, up_same]; rfl
            · rw [up_j (by omega), stX_in (by omega), enc_00, enc_out (by omega)]
    · rw [stI_out (by omega), up_j (by omega), up_j (by omega), up_j (by omega), stX_o (by omega), stX_o (by omega)]
  · rw [stI_k hc, up_k hc, up_k hc, up_k hc, stX_k hc, stX_k hc]
end R2
end
section
/-! MODEL: the tree's pages, sharing, the way down. -/
def TX (X : Mem) (P : Nat → Pg) : Prop := ∀ i, i < 32 → ∀ j, j < 64 → X 96 (64 * i + j) = eP (P i) j
def UpX (X : Mem) (w : List Int) : Prop := X 95 10 = (w.length : Int) ∧ ArX X 100 w ∧ LOk w
/-- what goes up, alone -/
def Fu (X X' : Mem) : Prop := ∀ a b, a ≠ 100 → ¬ (a = 95 ∧ b = 10) → X' a b = X a b
/-- what no change of the tree touches -/
def Fx (X X' : Mem) : Prop := ∀ a b, a ≠ 96 → a ≠ 97 → a ≠ 98 → a ≠ 99 → a ≠ 100 → ¬ (a = 95 ∧ (b = 3 ∨ b = 4 ∨ b = 5 ∨ b = 6 ∨ b = 10)) → X' a b = X a b
section MT
variable {X X' : Mem} {P : Nat → Pg} {i j k q o L : Nat} {s l p : Int} {es a b x y z : List Ent} {e u v : Ent} {w : List Int} {pg : Pg} {W T : Nat → Nat} {root : Nat}
theorem TX_pg (ho : TOk P) (h : TX X P) (hi : i < 32) : PgX X i (P i).1 (P i).2.1 (P i).2.2 := by
  have h1 := ho i hi
  exact ⟨fun j hj => h i hi j hj, h1.1, h1.2.1, ⟨h1.2.2.1.1, by have := h1.2.2.1; omega⟩, h1.2.2.2, hi⟩
theorem TX_st (h : TX X P) (hp : s = pg.1 ∧ l = pg.2.1 ∧ es = pg.2.2) : TX (stX X i (enc s l es)) (uP P i pg) := by
  obtain ⟨h1, h2, h3⟩ := hp
  subst h1 h2 h3
  intro j hj t ht
  by_cases hji : j = i
  · subst hji; rw [uP_s, stX_in ht]; rfl
  · rw [uP_o hji, stX_o (by omega)]; exact h j hj t ht
theorem TX_fr (h : TX X P) (hf : ∀ y, X' 96 y = X 96 y) : TX X' P := fun j hj t ht => by rw [hf]; exact h j hj t ht
theorem Fx_refl : Fx X X := fun _ _ _ _ _ _ _ _ => rfl
theorem Fx_tr {X2 : Mem} (h1 : Fx X X') (h2 : Fx X' X2) : Fx X X2 := fun a b q1 q2 q3 q4 q5 q6 => by rw [h2 a b q1 q2 q3 q4 q5 q6, h1 a b q1 q2 q3 q4 q5 q6]
theorem Fro_Fx (h : Fro X X') : Fx X X' := fun a b q1 q2 q3 q4 q5 q6 => h a b q2 q3 q4 (by omega)
theorem Fu_Fx (h : Fu X X') : Fx X X' := fun a b q1 q2 q3 q4 q5 q6 => h a b q5 (by omega)
theorem Fx_st {g : Nat → Int} (h : Fx X X') : Fx X (stX X' i g) := fun a b q1 q2 q3 q4 q5 q6 => by rw [stX_k q1]; exact h a b q1 q2 q3 q4 q5 q6
theorem Fx_up {t : Nat} {r : Int} (ht : t = 3 ∨ t = 4 ∨ t = 5 ∨ t = 6 ∨ t = 10) (h : Fx X X') : Fx X (up X' 95 t r) := fun a b q1 q2 q3 q4 q5 q6 => by rw [up_ap, if_neg (by omega)]; exact h a b q1 q2 q3 q4 q5 q6
theorem Fro_TX (h : TX X P) (hf : Fro X X') : TX X' P := TX_fr h (fun y => hf _ _ (by omega) (by omega) (by omega) (by omega))
theorem Fu_TX (h : TX X P) (hf : Fu X X') : TX X' P := TX_fr h (fun y => hf _ _ (by omega) (by omega))
theorem Fu_Rows (hf : Fu X X') (ho : EsOk es) (h : Rows X o es) : Rows X' o es := Rows_fr es o ho h (fun k _ _ => ⟨hf _ _ (by omega) (by omega), hf _ _ (by omega) (by omega), fun j _ => hf _ _ (by omega) (by omega)⟩)
theorem Fu_RowX (hf : Fu X X') (h : RowX X es) : RowX X' es := ⟨by rw [hf _ _ (by omega) (by omega)]; exact h.1, Fu_Rows hf h.2.2 h.2.1, h.2.2⟩
theorem Rows_st {g : Nat → Int} (ho : EsOk es) (h : Rows X o es) : Rows (stX X i g) o es := Rows_fr es o ho h (fun k _ _ => ⟨stX_k (by omega), stX_k (by omega), fun j _ => stX_k (by omega)⟩)
theorem RowX_st {g : Nat → Int} (h : RowX X es) : RowX (stX X i g) es := ⟨by rw [stX_k (by omega)]; exact h.1, Rows_st h.2.2 h.2.1, h.2.2⟩
theorem UpX_st {g : Nat → Int} (h : UpX X w) : UpX (stX X i g) w := ⟨by rw [stX_k (by omega)]; exact h.1, fun j hj => by rw [stX_k (by omega)]; exact h.2.1 j hj, h.2.2⟩
theorem UpX_ro (h : UpX X w) (hf : Fro X X') : UpX X' w := ⟨by rw [hf _ _ (by omega) (by omega) (by omega) (by omega)]; exact h.1, fun j hj => by rw [hf _ _ (by omega) (by omega) (by omega) (by omega)]; exact h.2.1 j hj, h.2.2⟩
theorem lm_half {K : Int → Mem → Option (Mem × Int)} (h : Rows X 0 es) (h48 : es.length ≤ 48) (hz : szs es ≤ 1000) : ∀ (b a : List Ent) (n : Nat) (r : Int), es = a ++ b → r = (a.length : Int) → b.length < n → f_X8_half_12 ((szs es : Nat) : Int) K n r X = K ((a.length + hfA (szs es) (szs a) b : Nat) : Int) X
  | _, _, 0 => by intros; omega
  | [], a, n + 1 => by
    intro r h1 hr _
    rw [List.append_nil] at h1
    have h2 : Rows X 0 (a ++ []) := by rw [List.append_nil, ← h1]; exact h
    unfold f_X8_half_12
    rw [mx_bytes h2 (by rw [← h1]; exact h48) hr, bd_some, h1, fLt (by rw [h1] at hz; omega), hr]
    rfl
  | e :: b, a, n + 1 => by
    intro r h1 hr hn
    have h9 : es.length = a.length + (b.length + 1) := by rw [h1]; simp
    have h8 : szs es = szs a + (e.1.length + 2 + szs b) := by rw [h1, szs_app, szs_cons]
    have ih := lm_half (K := K) h h48 hz b (a ++ [e]) n (r + 1) (by rw [h1]; simp) (by simp; omega) (by simp at hn; omega)
    rw [szs_app, szs_cons, szs_nil] at ih
    unfold f_X8_half_12 hfA
    rw [mx_bytes (by rw [← h1]; exact h) (by omega) hr, bd_some]
    by_cases hd : 2 * szs a < szs es
    · rw [tLt (by omega), if_pos hd, ih]
      congr 1
      simp
      omega
    · rw [fLt (by omega), if_neg hd, hr]
      rfl
theorem mx_half (h : RowX X es) (h48 : es.length ≤ 48) (hz : szs es ≤ 1000) : f_X8_half X = some (X, ((hf es : Nat) : Int)) := by
  have hfu := FU_eq
  unfold f_X8_half
  rw [mx_bytes_all h h48, bd_some, lm_half h.2.1 h48 hz es [] FU 0 rfl rfl (by omega)]
  unfold hf
  simp [szs]
theorem lm_short {K : Int → Mem → Option (Mem × Int)} {r : Int} (h : Rows X 0 (x ++ u :: v :: y)) (hu : EOk u) (hv : EOk v) (h48 : x.length + 1 < 48) (hr : r = (x.length : Int) + 1) : ∀ (m n : Nat) (t : Int), m ≤ 8 → t = ((8 - m : Nat) : Int) → m < n → f_X8_shortest_2 r K n t X = K ((8 - m + cp (u.1.drop (8 - m)) (v.1.drop (8 - m)) : Nat) : Int) X
  | _, 0 => by intros; omega
  | 0, n + 1 => by
    intro t _ ht _
    have r1 := Rows_mid h
    rw [Nat.zero_add] at r1
    have hu2 := hu.2.1
    have hv2 := hv.2.1
    unfold f_X8_shortest_2
    rw [ix_t (by omega), show (r - 1).toNat = x.length by omega, r1.1, fLt (by omega), cp_drop (LOk_pos (EOk_L hv)), if_neg (by omega), ht]
  | m + 1, n + 1 => by
    intro t hm ht hn
    have r1 := Rows_mid h
    rw [Nat.zero_add] at r1
    have h' : Rows X 0 ((x ++ [u]) ++ v :: y) := by rw [List.append_assoc]; exact h
    have r2 := Rows_mid h'
    rw [Nat.zero_add, show (x ++ [u]).length = x.length + 1 by simp] at r2
    have hu2 := hu.2.1
    have hv2 := hv.2.1
    have g1 := LOk_gd (EOk_L hu) (8 - (m + 1))
    have g2 := LOk_gd (EOk_L hv) (8 - (m + 1))
    have gp := LOk_pos (EOk_L hv)
    have ih := lm_short (K := K) h hu hv h48 hr m n (t + 1) (by omega) (by omega) (by omega)
    unfold f_X8_shortest_2
    rw [ix_t (by omega), show (r - 1).toNat = x.length by omega, show r.toNat = x.length + 1 by omega, r1.1, r2.1, cp_drop gp]
    by_cases c1 : 8 - (m + 1) < u.1.length
    · rw [tLt (by omega), ix_t (by omega)]
      by_cases c2 : 8 - (m + 1) < v.1.length
      · rw [tLt (by omega), ix_t (by omega), ix_t (by omega), show (8 * (r - 1) + t).toNat = 8 * x.length + (8 - (m + 1)) by omega, show (8 * r + t).toNat = 8 * (x.length + 1) + (8 - (m + 1)) by omega, r1.2.2 _ c1, r2.2.2 _ c2]
        by_cases c3 : u.1.getD (8 - (m + 1)) 0 = v.1.getD (8 - (m + 1)) 0
        · rw [tEq (by omega), if_pos ⟨c2, c3.symm⟩, ih, show 8 - (m + 1) + 1 = 8 - m by omega]
          congr 1
          omega
        · rw [fEq (by omega), if_neg (fun q => c3 q.2.symm), ht]
          rfl
      · rw [fLt (by omega), if_neg (fun q => c2 q.1), ht]
        rfl
    · have : ¬ (8 - (m + 1) < v.1.length ∧ v.1.getD (8 - (m + 1)) 0 = u.1.getD (8 - (m + 1)) 0) := by
        intro q
        have := gp _ (gd_mem q.1)
        rw [q.2, gd_out (by omega)] at this
        omega
      rw [fLt (by omega), if_neg this, ht]
      rfl
theorem mx_short {r : Int} (h : Rows X 0 (x ++ u :: v :: y)) (hu : EOk u) (hv : EOk v) (h48 : x.length + 1 < 48) (hr : r = (x.length : Int) + 1) : f_X8_shortest r X = some (X, ((cp u.1 v.1 + 1 : Nat) : Int)) := by
  have hfu := FU_eq
  unfold f_X8_shortest
  rw [lm_short h hu hv h48 hr 8 FU 0 (by omega) rfl (by omega), Nat.sub_self, List.drop_zero, List.drop_zero]
  simp
theorem lm_goesUp {K : Int → Mem → Option (Mem × Int)} {r r2 : Int} {c : Nat} (h48 : k < 48) (hr : r = (k : Int)) (hv : EOk v) (hc : c ≤ v.1.length) (hr2 : r2 = (c : Int)) : ∀ (m n : Nat) (t : Int) (Y : Mem), rowAt Y k v → m ≤ c → t = ((c - m : Nat) : Int) → m < n → f_X8_goesUp_7 r r2 K n t (stI Y 100 0 (c - m) (fun j => v.1.getD j 0)) = K (c : Int) (stI Y 100 0 c (fun j => v.1.getD j 0))
  | _, 0 => by intros; omega
  | 0, n + 1 => by
    intro t Y _ _ ht _
    have h8 := hv.2.1
    unfold f_X8_goesUp_7
    rw [fLt (by omega), ht]
    rfl
  | m + 1, n + 1 => by
    intro t Y hY hm ht hn
    have h8 := hv.2.1
    have ih := lm_goesUp (K := K) h48 hr hv hc hr2 m n (t + 1) Y hY (by omega) (by omega) (by omega)
    unfold f_X8_goesUp_7
    rw [tLt (by omega), ix_t (by omega), ix_t (by omega), nat2 ht, show (8 * r + t).toNat = 8 * k + (c - (m + 1)) by omega, stI_k (by omega), hY.2.2 _ (by omega), stI_up (by omega) rfl, show c - (m + 1) + 1 = c - m by omega]
    exact ih
theorem mx_goesUp {r r2 : Int} {c : Nat} (h48 : k < 48) (hr : r = (k : Int)) (hv : EOk v) (hc : c ≤ v.1.length) (hr2 : r2 = (c : Int)) (h : rowAt X k v) : ∃ X', f_X8_goesUp r r2 X = some (X', 0) ∧ UpX X' (v.1.take c) ∧ Fu X X' := by
  have hfu := FU_eq
  have h8 := hv.2.1
  have hl : (v.1.take c).length = c := by rw [List.length_take]; omega
  have q := lm_goesUp (K := (fun (v3_e7 : Int) (C_e7 : Mem) => (some (C_e7, 0)))) h48 hr hv hc hr2 c FU 0 (up X 95 10 r2) ⟨by rw [up_k (by omega)]; exact h.1, by rw [up_k (by omega)]; exact h.2.1, fun j hj => by rw [up_k (by omega)]; exact h.2.2 j hj⟩ (by omega) (by omega) (by omega)
  rw [Nat.sub_self, stI_nil] at q
  refine ⟨stI (up X 95 10 r2) 100 0 c (fun j => v.1.getD j 0), ?_, ⟨?_, ?_, ?_⟩, ?_⟩
  · unfold f_X8_goesUp
    exact q
  · rw [stI_k (by omega), up_same, hl, hr2]
  · intro j hj
    rw [hl] at hj
    rw [stI_in (by omega), gd_take hj]
  · refine ⟨by omega, fun t ht => hv.2.2.1 t (List.mem_of_mem_take ht)⟩
  · intro a b h1 h2
    rw [stI_k h1, up_ap, if_neg h2]
theorem mx_setL {r : Int} (h : RowX X ((x ++ [u]) ++ v :: y)) (hc : cmp u.1 v.1 < 0) (h48 : ((x ++ [u]) ++ v :: y).length ≤ 48) (hr : r = ((x ++ [u]).length : Int)) : ∃ X', f_X8_setUp 1 r X = some (X', 0) ∧ UpX X' (sep u.1 v.1) ∧ Fu X X' := by
  have hv := EsOk_mid h.2.2
  have hl : (x ++ [u]).length = x.length + 1 := by simp
  have hl2 : ((x ++ [u]) ++ v :: y).length = x.length + 1 + (y.length + 1) := by simp; omega
  have h' : Rows X 0 (x ++ u :: v :: y) := by have := h.2.1; rw [List.append_assoc] at this; exact this
  have hu : EOk u := by have := h.2.2; rw [List.append_assoc] at this; exact EsOk_mid this
  have hcp := cp_lt u.1 v.1 hc
  have rv := Rows_mid h.2.1
  rw [Nat.zero_add] at rv
  obtain ⟨X', q1, q2, q3⟩ := mx_goesUp (c := cp u.1 v.1 + 1) (r := r) (r2 := ((cp u.1 v.1 + 1 : Nat) : Int)) (by omega) hr hv (by omega) rfl rv
  refine ⟨X', ?_, q2, q3⟩
  unfold f_X8_setUp
  rw [jn_eq, tEq (by omega), mx_short h' hu hv (by omega) (by omega), bd_some]
  dsimp only
  rw [q1, bd_some]
theorem mx_setI {r : Int} (h : RowX X (x ++ v :: y)) (h48 : (x ++ v :: y).length ≤ 48) (hr : r = (x.length : Int)) : ∃ X', f_X8_setUp 2 r X = some (X', 0) ∧ UpX X' v.1 ∧ Fu X X' := by
  have hv := EsOk_mid h.2.2
  have hl2 : (x ++ v :: y).length = x.length + (y.length + 1) := by simp
  have rv := Rows_mid h.2.1
  rw [Nat.zero_add] at rv
  obtain ⟨X', q1, q2, q3⟩ := mx_goesUp (c := v.1.length) (r := r) (r2 := (v.1.length : Int)) (by omega) hr hv (by omega) rfl rv
  rw [List.take_length] at q2
  refine ⟨X', ?_, q2, q3⟩
  unfold f_X8_setUp
  rw [jn_eq, fEq (by omega), ix_t (by omega), nat2 hr, rv.1]
  dsimp only
  rw [q1, bd_some]
/-- two pages share the row -/
theorem mx_shareL {f r1 r2 r5 : Int} (hX : TX X P) (h : RowX X es) (he : es = (x ++ [u]) ++ v :: y) (hh : hf es = (x ++ [u]).length) (hc : cmp u.1 v.1 < 0) (h48 : es.length ≤ 48) (hz : szs es ≤ 1000) (hi : i < 32) (hj : j < 32) (hr1 : r1 = (i : Int)) (hr2 : r2 = (j : Int)) (hx : szs (x ++ [u]) ≤ 61) (hy : szs (v :: y) ≤ 61) : ∃ X', f_X8_share r1 r2 1 f r5 X = some (X', 0) ∧ TX X' (uP (uP P i (1, (j : Int) + 1, x ++ [u])) j (1, r5, v :: y)) ∧ UpX X' (sep u.1 v.1) ∧ Fx X X' ∧ X' 95 3 = X 95 3 ∧ X' 95 4 = X 95 4 ∧ X' 95 5 = X 95 5 := by
  have hl2 : ((x ++ [u]) ++ v :: y).length = (x ++ [u]).length + (y.length + 1) := by simp; omega
  obtain ⟨X1, q1, q2, q3⟩ := mx_setL (r := ((hf es : Nat) : Int)) (by rw [he] at h; exact h) hc (by rw [← he]; exact h48) (by rw [hh])
  have hR := Fu_RowX q3 h
  have ho := hR.2.2
  rw [he] at ho
  have ho1 := EsOk_app.mp ho
  have b1 : Rows X1 0 ([] ++ (x ++ [u]) ++ v :: y) := by have := hR.2.1; rw [he] at this; exact this
  have b2 : Rows (stX X1 i (enc 1 ((j : Int) + 1) (x ++ [u]))) 0 ((x ++ [u]) ++ (v :: y) ++ []) := by
    rw [List.append_nil]; exact Rows_st ho (by have := hR.2.1; rw [he] at this; exact this)
  rw [he] at h48
  refine ⟨stX (stX X1 i (enc 1 ((j : Int) + 1) (x ++ [u]))) j (enc 1 r5 (v :: y)), ?_, ?_, ?_, ?_, ?_, ?_, ?_⟩
  · unfold f_X8_share
    rw [mx_half h (by rw [he]; exact h48) hz, bd_some, q1, bd_some, tEq (by omega), hr2, mx_back hi hr1 b1 ho1.1 (by simp at hl2 ⊢; simp at h48; omega) hx (by rfl) (by rw [hh]; simp), bd_some, mx_back hj rfl b2 ho1.2 (by omega) hy (by rw [hh]) (by rw [stX_k (by omega), hR.1, he]), bd_some]
  · exact TX_st (TX_st (Fu_TX hX q3) ⟨rfl, rfl, rfl⟩) ⟨rfl, rfl, rfl⟩
  · exact UpX_st (UpX_st q2)
  · exact Fx_st (Fx_st (Fu_Fx q3))
  · rw [stX_k (by omega), stX_k (by omega), q3 _ _ (by omega) (by omega)]
  · rw [stX_k (by omega), stX_k (by omega), q3 _ _ (by omega) (by omega)]
  · rw [stX_k (by omega), stX_k (by omega), q3 _ _ (by omega) (by omega)]
theorem mx_shareI {f r1 r2 r5 : Int} (hX : TX X P) (h : RowX X es) (he : es = x ++ v :: y) (hh : hf es = x.length) (h48 : es.length ≤ 48) (hz : szs es ≤ 1000) (hi : i < 32) (hj : j < 32) (hr1 : r1 = (i : Int)) (hr2 : r2 = (j : Int)) (hx : szs x ≤ 61) (hy : szs y ≤ 61) : ∃ X', f_X8_share r1 r2 2 f r5 X = some (X', 0) ∧ TX X' (uP (uP P i (2, f, x)) j (2, v.2, y)) ∧ UpX X' v.1 ∧ Fx X X' ∧ X' 95 3 = X 95 3 ∧ X' 95 4 = X 95 4 ∧ X' 95 5 = X 95 5 := by
  have hl2 : (x ++ v :: y).length = x.length + (y.length + 1) := by simp
  obtain ⟨X1, q1, q2, q3⟩ := mx_setI (r := ((hf es : Nat) : Int)) (by rw [he] at h; exact h) (by rw [← he]; exact h48) (by rw [hh])
  have hR := Fu_RowX q3 h
  have ho := hR.2.2
  rw [he] at ho
  have ho1 := EsOk_app.mp ho
  have ho2 := EsOk_cons.mp ho1.2
  have b0 : Rows X1 0 (x ++ v :: y) := by have := hR.2.1; rw [he] at this; exact this
  have b1 : Rows X1 0 ([] ++ x ++ v :: y) := b0
  have b2 : Rows (stX X1 i (enc 2 f x)) 0 ((x ++ [v]) ++ y ++ []) := by
    rw [List.append_nil, List.append_assoc]; exact Rows_st ho b0
  have rv := Rows_mid b0
  rw [Nat.zero_add] at rv
  rw [he] at h48
  refine ⟨stX (stX X1 i (enc 2 f x)) j (enc 2 v.2 y), ?_, ?_, ?_, ?_, ?_, ?_, ?_⟩
  · unfold f_X8_share
    rw [mx_half h (by rw [he]; exact h48) hz, bd_some, q1, bd_some, fEq (by omega), ix_t (by rw [hh]; omega), mx_back hi hr1 b1 ho1.1 (by simp; omega) hx (by rfl) (by rw [hh]; simp), bd_some, nat2 rfl, hh, rv.2.1, mx_back hj hr2 b2 ho2.2 (by simp; omega) hy (by simp) (by rw [stX_k (by omega), hR.1, he]; simp), bd_some]
  · exact TX_st (TX_st (Fu_TX hX q3) ⟨rfl, rfl, rfl⟩) ⟨rfl, rfl, rfl⟩
  · exact UpX_st (UpX_st q2)
  · exact Fx_st (Fx_st (Fu_Fx q3))
  · rw [stX_k (by omega), stX_k (by omega), q3 _ _ (by omega) (by omega)]
  · rw [stX_k (by omega), stX_k (by omega), q3 _ _ (by omega) (by omega)]
  · rw [stX_k (by omega), stX_k (by omega), q3 _ _ (by omega) (by omega)]
theorem lm_lf {K : Int → Mem → Option (Mem × Int)} (ho : TOk P) (h : TX X P) (hq : IsLF P q) : ∀ (m n : Nat) (r : Int), m ≤ q → r = ((q - m : Nat) : Int) → m < n → f_X8_lowestFree_2 K n r X = K (q : Int) X
  | _, 0 => by intros; omega
  | 0, n + 1 => by
    intro r _ hr _
    have h2 := mx_0 (p := r) (TX_pg ho h hq.1) (by omega)
    unfold f_X8_lowestFree_2
    rw [h2, bd_some, tEq (by rw [hq.2.1]; omega), hr]
    rfl
  | m + 1, n + 1 => by
    intro r hm hr hn
    have h1 := hq.1
    have h2 := mx_0 (p := r) (TX_pg ho h (show q - (m + 1) < 32 by omega)) hr
    have h3 := hq.2.2 (q - (m + 1)) (by omega)
    have h4 := (ho (q - (m + 1)) (by omega)).2.2.1
    have ih := lm_lf (K := K) ho h hq m n (r + 1) (by omega) (by omega) (by omega)
    unfold f_X8_lowestFree_2
    rw [h2, bd_some, fEq (by omega), ih]
theorem mx_lf (ho : TOk P) (h : TX X P) (hq : IsLF P q) : f_X8_lowestFree X = some (X, (q : Int)) := by
  have hfu := FU_eq
  have h1 := hq.1
  unfold f_X8_lowestFree
  rw [lm_lf ho h hq q FU 0 (by omega) (by omega) (by omega)]
theorem lm_free {K : Int → Int → Mem → Option (Mem × Int)} (ho : TOk P) (hT : TX X P) : ∀ (m n : Nat) (v2 v3 : Int), m ≤ 32 → v2 = ((nS P 0 (32 - m) : Nat) : Int) → v3 = ((32 - m : Nat) : Int) → m < n → f_X8_freeMany_4 K n v2 v3 X = K ((nS P 0 32 : Nat) : Int) 32 X
  | _, 0 => by intros; omega
  | 0, n + 1 => by
    intro v2 v3 _ h2 h3 _
    unfold f_X8_freeMany_4
    rw [fLt (by omega), h2, h3]
    rfl
  | m + 1, n + 1 => by
    intro v2 v3 hm h2 h3 hn
    have hp := mx_0 (p := v3) (TX_pg ho hT (show 32 - (m + 1) < 32 by omega)) h3
    have hsr := (ho (32 - (m + 1)) (by omega)).2.2.1
    have hst : nS P 0 (32 - m) = nS P 0 (32 - (m + 1)) + (if (P (32 - (m + 1))).1 = 0 then 1 else 0) := by
      rw [show 32 - m = (32 - (m + 1)) + 1 by omega]; rfl
    unfold f_X8_freeMany_4
    rw [tLt (by omega), hp, bd_some]
    by_cases h : (P (32 - (m + 1))).1 = 0
    · rw [if_pos h] at hst
      rw [tEq (by omega)]
      exact lm_free ho hT m n _ _ (by omega) (by omega) (by omega) (by omega)
    · rw [if_neg h] at hst
      rw [fEq (by omega)]
      exact lm_free ho hT m n _ _ (by omega) (by omega) (by omega) (by omega)
theorem mx_free (ho : TOk P) (hT : TX X P) : f_X8_freeMany X = some (X, ((nS P 0 32 : Nat) : Int)) := by
  have hfu := FU_eq
  unfold f_X8_freeMany
  rw [lm_free ho hT 32 FU 0 0 (by omega) rfl rfl (by omega)]
/-- a new root over the old one -/
theorem mx_raise (ho : TOk P) (hT : TX X P) (hq : IsLF P q) (hk : UpX X w) (hw1 : 1 ≤ w.length) {r1 r2 : Int} (h1 : r1 = (i : Int)) (hr2 : 0 ≤ r2 ∧ r2 ≤ 255) : ∃ X', f_X8_newRoot r1 r2 X = some (X', 0) ∧ TX X' (uP P q (2, (i : Int), [(w, r2)])) ∧ X' 95 1 = (q : Int) ∧ X' 95 2 = X 95 2 + 1 ∧ (∀ a b, a ≠ 96 → a ≠ 97 → a ≠ 98 → a ≠ 99 → ¬ (a = 95 ∧ (b = 1 ∨ b = 2 ∨ b = 6)) → X' a b = X a b) := by
  have hq32 := hq.1
  have hl := hk.2.2.1
  have hrow : RowX (up (up (up X 95 1 (q : Int)) 95 2 (X 95 2 + 1)) 95 6 0) ([] ++ []) := RowX_nil
  have har : ArX (up (up (up X 95 1 (q : Int)) 95 2 (X 95 2 + 1)) 95 6 0) (100 + 0) w := fun j hj => by rw [up_k (by omega), up_k (by omega), up_k (by omega)]; exact hk.2.1 j hj
  obtain ⟨X1, q1, q2, q3⟩ := mx_in (q := 0) (n := (w.length : Int)) (t := r2) hrow har hk.2.2 hw1 (by omega) (by simp) (by rfl) rfl hr2
  have b1 : Rows X1 0 ([] ++ [(w, r2)] ++ []) := q2.2.1
  have e1 : X1 95 1 = (q : Int) := by rw [q3 _ _ (by omega) (by omega) (by omega) (by omega), up_j (by omega), up_j (by omega), up_same]
  refine ⟨stX X1 q (enc 2 (i : Int) [(w, r2)]), ?_, ?_, ?_, ?_, ?_⟩
  · unfold f_X8_newRoot
    rw [mx_lf ho hT hq, bd_some, up_j (k := 95) (j := 1) (a := 95) (b := 2) (by omega), up_j (b := 10) (by omega), up_j (b := 10) (by omega), up_j (b := 10) (by omega), hk.1, q1, bd_some, e1, mx_back hq32 rfl b1 q2.2.2 (by simp) (by simp [szs]; omega) (by rfl) (by rfl), bd_some, h1]
  · refine TX_st (TX_fr hT (fun y => ?_)) ⟨rfl, rfl, rfl⟩
    rw [q3 _ _ (by omega) (by omega) (by omega) (by omega), up_k (by omega), up_k (by omega), up_k (by omega)]
  · rw [stX_k (by omega), e1]
  · rw [stX_k (by omega), q3 _ _ (by omega) (by omega) (by omega) (by omega), up_j (by omega), up_same]
  · intro a b h1 h2 h3 h4 h5
    rw [stX_k h1, q3 _ _ h2 h3 h4 (by omega), up_ap, if_neg (by omega), up_ap, if_neg (by omega), up_ap, if_neg (by omega)]
end MT
end
section
/-! MODEL: the way down, what comes in upward. -/
def WayX (M : Mem) (L : Nat) (W T : Nat → Nat) : Prop := (∀ t, t < L → M 102 t = (W t : Int)) ∧ (∀ t, t + 1 < L → M 103 t = (T t : Int))
section MC
variable {X X' : Mem} {P : Nat → Pg} {i j k q o L t A : Nat} {s l p la : Int} {es a b x y z : List Ent} {e u v : Ent} {w : List Int} {pg : Pg} {W T : Nat → Nat} {root : Nat}
theorem lm_turn {K : Int → Int → Mem → Option (Mem × Int)} {u2 : Int} (h : PgX X i s l es) (hp : p = (i : Int)) (hk : KX X w) : ∀ (b a : List Ent) (n : Nat) (v3 v4 : Int), es = a ++ b → v3 = (a.length : Int) → v4 = ((3 + szs a : Nat) : Int) → b.length < n → ∃ r, f_X8_goesDown_37 p u2 K n v3 v4 X = K ((a.length + cb 1 w b : Nat) : Int) r X
  | _, _, 0 => by intros; omega
  | [], a, n + 1 => by
    intro v3 v4 h1 h3 h4 _
    have h6 := PgX_len h
    unfold f_X8_goesDown_37
    rw [mx_1 h hp, bd_some, fLt (by rw [h1] at h6 ⊢; simp at h6 ⊢; omega), h3]
    exact ⟨v4, rfl⟩
  | e :: b, a, n + 1 => by
    intro v3 v4 h1 h3 h4 hn
    have h6 := PgX_len h
    have h9 : es.length = a.length + (b.length + 1) := by rw [h1]; simp
    have h' : PgX X i s l (a ++ e :: b) := by rw [← h1]; exact h
    obtain ⟨r, r1, r2, r3, r4⟩ := mx_against h' hp hk h4
    have ha := cmp_anti e.1 w
    obtain ⟨z, ih⟩ := lm_turn (K := K) (u2 := u2) h hp hk b (a ++ [e]) n (v3 + 1) (v4 + ((e.1.length : Int) + 2)) (by rw [h1]; simp) (by simp; omega) (by rw [szs_app, szs_cons, szs_nil]; omega) (by simp at hn; omega)
    unfold f_X8_goesDown_37 cb
    rw [mx_1 h hp, bd_some, tLt (by omega), r1, bd_some]
    by_cases hd : cmp e.1 w < 1
    · rw [fLt (by omega), mx_len h' hp h4, bd_some, ih, if_pos hd]
      refine ⟨z, ?_⟩
      congr 1
      simp
      omega
    · rw [tLt (by omega), if_neg hd, h3]
      exact ⟨v4, rfl⟩
theorem lm_down {K : Int → Int → Mem → Option (Mem × Int)} (ho : TOk P) (hT : TX X P) (hL : X 95 2 = (L : Int)) (hL32 : L ≤ 32) (hk : KX X w) (hd : Down P w root L W T) : ∀ (m n : Nat) (v1 v2 : Int) (M : Mem), m ≤ L → v2 = ((L - m : Nat) : Int) → (0 < m → v1 = (W (L - m) : Int)) → m < n → (∀ x y, x ≠ 102 → x ≠ 103 → M x y = X x y) → (∀ t, t < L - m → M 102 t = (W t : Int)) → (∀ t, t < L - m → t + 1 < L → M 103 t = (T t : Int)) → ∃ M' r, f_X8_goesDown_7 K n v1 v2 M = K r (L : Int) M' ∧ (∀ x y, x ≠ 102 → x ≠ 103 → M' x y = X x y) ∧ WayX M' L W T
  | _, 0 => by intros; omega
  | 0, n + 1 => by
    intro v1 v2 M _ hz _ _ h1 h2 h3
    refine ⟨M, v1, ?_, h1, h2, fun t ht => h3 t (by omega) ht⟩
    unfold f_X8_goesDown_7
    rw [h1 _ _ (by omega) (by omega), hL, fLt (by omega), hz]
    rfl
  | m + 1, n + 1 => by
    intro v1 v2 M hm hz hv hn h1 h2 h3
    have hfu := FU_eq
    have hv1 := hv (by omega)
    have hw := hd.2.1 (L - (m + 1)) (by omega)
    have hM1 : TX (up M 102 (L - (m + 1)) v1) P := TX_fr hT (fun y => by rw [up_k (by omega), h1 _ _ (by omega) (by omega)])
    have hk1 : KX (up M 102 (L - (m + 1)) v1) w := ⟨by rw [up_k (by omega), h1 _ _ (by omega) (by omega)]; exact hk.1, fun t ht => by rw [up_k (by omega), h1 _ _ (by omega) (by omega)]; exact hk.2.1 t ht, hk.2.2⟩
    unfold f_X8_goesDown_7
    rw [h1 95 2 (by omega) (by omega), hL, tLt (by omega), ix_t (by omega), nat2 hz, up_k (by omega), h1 95 2 (by omega) (by omega), hL]
    by_cases hlast : L - (m + 1) + 1 < L
    · obtain ⟨d1, d2⟩ := hd.2.2 (L - (m + 1)) hlast
      have hp := TX_pg ho hM1 hw
      have h6 := PgX_len hp
      obtain ⟨r, q1⟩ := lm_turn (K := (fun (v3_e37 : Int) (v4_e37 : Int) (C_e37 : Mem) => (ix (v2) 32 (bd (f_X8_childOf (v1) (v3_e37) (up C_e37 (103) (L - (m + 1)) (v3_e37))) (fun C87 r87 => (f_X8_goesDown_7 K n (r87) (v2 + 1) C87)))))) (u2 := v2) hp hv1 hk1 (P (W (L - (m + 1)))).2.2 [] FU 0 3 rfl rfl rfl (by omega)
      have e1 : ((([] : List Ent).length + cb 1 w (P (W (L - (m + 1)))).2.2 : Nat) : Int) = ((T (L - (m + 1)) : Nat) : Int) := by rw [d1]; simp; rfl
      rw [e1] at q1
      have hp2 : PgX (up (up M 102 (L - (m + 1)) v1) 103 (L - (m + 1)) ((T (L - (m + 1)) : Nat) : Int)) (W (L - (m + 1))) (P (W (L - (m + 1)))).1 (P (W (L - (m + 1)))).2.1 (P (W (L - (m + 1)))).2.2 := ⟨fun j hj => by rw [up_k (by omega)]; exact hp.1 j hj, hp.2⟩
      have hle : T (L - (m + 1)) ≤ (P (W (L - (m + 1)))).2.2.length := by rw [d1]; exact cb_le _ _ _
      obtain ⟨M', r', i1, i2, i3⟩ := lm_down (K := K) ho hT hL hL32 hk hd m n ((W (L - (m + 1) + 1) : Nat) : Int) (v2 + 1) (up (up M 102 (L - (m + 1)) v1) 103 (L - (m + 1)) ((T (L - (m + 1)) : Nat) : Int)) (by omega) (by omega) (fun _ => by rw [show L - (m + 1) + 1 = L - m by omega]) (by omega) (fun x y hx hy => by rw [up_k hy, up_k hx, h1 x y hx hy]) (by
        intro t ht
        rw [up_k (by omega)]
        by_cases htt : t = L - (m + 1)
        · rw [htt, up_same, hv1]
        · rw [up_j htt, h2 t (by omega)]) (by
        intro t ht ht2
        by_cases htt : t = L - (m + 1)
        · rw [htt, up_same]
        · rw [up_j htt, up_k (by omega), h3 t (by omega) ht2])
      refine ⟨M', r', ?_, i2, i3⟩
      rw [tLt (by omega), q1]
      rw [ix_t (by omega), mx_child hp2 hv1 hle rfl, bd_some]
      show f_X8_goesDown_7 K n (chd (P (W (L - (m + 1)))) (T (L - (m + 1)))) _ _ = _
      rw [d2]
      exact i1
    · obtain ⟨M', r', i1, i2, i3⟩ := lm_down (K := K) ho hT hL hL32 hk hd m n v1 (v2 + 1) (up M 102 (L - (m + 1)) v1) (by omega) (by omega) (fun h => by omega) (by omega) (fun x y hx hy => by rw [up_k hx, h1 x y hx hy]) (by
        intro t ht
        by_cases htt : t = L - (m + 1)
        · rw [htt, up_same, hv1]
        · rw [up_j htt, h2 t (by omega)]) (by
        intro t ht ht2
        rw [up_k (by omega), h3 t (by omega) ht2])
      refine ⟨M', r', ?_, i2, i3⟩
      rw [fLt (by omega)]
      exact i1
theorem mx_down (ho : TOk P) (hT : TX X P) (hR : X 95 1 = (root : Int)) (hL : X 95 2 = (L : Int)) (hL32 : L ≤ 32) (hk : KX X w) (hd : Down P w root L W T) : ∃ X', f_X8_goesDown X = some (X', 0) ∧ (∀ x y, x ≠ 102 → x ≠ 103 → X' x y = X x y) ∧ WayX X' L W T := by
  have hfu := FU_eq
  obtain ⟨M', r, i1, i2, i3⟩ := lm_down (K := (fun (v1_e7 : Int) (v2_e7 : Int) (C_e7 : Mem) => (some (C_e7, 0)))) ho hT hL hL32 hk hd L FU (X 95 1) 0 X (by omega) (by omega) (fun _ => by rw [hR, Nat.sub_self, hd.1]) (by omega) (fun _ _ _ _ => rfl) (fun t ht => by omega) (fun t ht => by omega)
  exact ⟨M', by unfold f_X8_goesDown; rw [i1], i2, i3⟩
/-- what is to come in fits: the loop ends -/
theorem mx_inFit {K : Int → Int → Mem → Option (Mem × Int)} {n : Nat} {v2 v3 : Int} (h : RowX X es) (h48 : es.length ≤ 48) (hz : szs es ≤ 61) : f_X8_putKey_104 K (n + 1) v2 v3 X = K v2 v3 X := by
  unfold f_X8_putKey_104
  rw [mx_bytes_all h h48, bd_some, fLt (by omega)]
theorem WayX_Fx (h : WayX X L W T) (hf : Fx X X') : WayX X' L W T := ⟨fun t ht => by rw [hf _ _ (by omega) (by omega) (by omega) (by omega) (by omega) (by omega)]; exact h.1 t ht, fun t ht => by rw [hf _ _ (by omega) (by omega) (by omega) (by omega) (by omega) (by omega)]; exact h.2 t ht⟩
/-- the next page above: its entries with what went up -/
theorem mx_next {K : Int → Int → Mem → Option (Mem × Int)} {n : Nat} (ho : TOk P) (hT : TX X P) (hu : UpX X w) (hw1 : 1 ≤ w.length) (hW : WayX X L W T) (ht : t + 1 < L) (ht32 : t < 32) (hA : W t = A) (hA32 : A < 32) (hp : P A = (2, la, a ++ b)) (hTt : T t = a.length) {r v2 : Int} (hr : 0 ≤ r ∧ r ≤ 255) (hv2 : v2 = (t : Int)) : ∃ X', bd (f_X8_comeOut ((up X 95 3 ((X 95 3) + 1)) (102) v2.toNat) (up (up X 95 3 ((X 95 3) + 1)) 95 6 (0))) (fun C194 _ => (ix v2 32 (bd (f_X8_comesIn (C194 (103) v2.toNat) 0 (C194 95 10) r C194) (fun C214 _ => (f_X8_putKey_104 K n v2 ((up X 95 3 ((X 95 3) + 1)) (102) v2.toNat) C214))))) = f_X8_putKey_104 K n v2 (A : Int) X' ∧ TX X' P ∧ RowX X' (a ++ (w, r) :: b) ∧ Fx X X' ∧ X' 95 3 = X 95 3 + 1 ∧ X' 95 4 = X 95 4 ∧ X' 95 5 = X 95 5 := by
  have hT1 : TX (up X 95 3 (X 95 3 + 1)) P := TX_fr hT (fun y => up_k (by omega))
  have hpg := TX_pg ho hT1 hA32
  rw [hp] at hpg
  have hpg : PgX (up X 95 3 (X 95 3 + 1)) A 2 la (a ++ b) := hpg
  have h6 := PgX_len hpg
  have e1 : (up X 95 3 (X 95 3 + 1)) 102 v2.toNat = (A : Int) := by rw [up_k (by omega), nat2 hv2, hW.1 t (by omega), hA]
  obtain ⟨X1, q1, q2, q3⟩ := mx_out0 hpg (p := (A : Int)) rfl
  have e2 : X1 103 v2.toNat = (a.length : Int) := by rw [q3 _ _ (by omega) (by omega) (by omega) (by omega), up_k (by omega), nat2 hv2, hW.2 t ht, hTt]
  have e3 : X1 95 10 = (w.length : Int) := by rw [q3 _ _ (by omega) (by omega) (by omega) (by omega), up_j (by omega), hu.1]
  have ar : ArX X1 (100 + 0) w := fun j hj => by rw [q3 _ _ (by omega) (by omega) (by omega) (by omega), up_k (by omega)]; exact hu.2.1 j hj
  obtain ⟨X2, m1, m2, m3⟩ := mx_in q2 ar hu.2.2 hw1 (by omega) (by omega) (q := (a.length : Int)) (n := (w.length : Int)) rfl rfl hr
  have hF : Fro (up X 95 3 (X 95 3 + 1)) X2 := Fro_tr q3 m3
  refine ⟨X2, ?_, Fro_TX hT1 hF, m2, Fx_tr (Fx_up (by omega) Fx_refl) (Fro_Fx hF), ?_, ?_, ?_⟩
  · rw [e1, q1, bd_some, ix_t (by omega), e2, e3, m1, bd_some]
  · rw [hF _ _ (by omega) (by omega) (by omega) (by omega), up_same]
  · rw [hF _ _ (by omega) (by omega) (by omega) (by omega), up_j (by omega)]
  · rw [hF _ _ (by omega) (by omega) (by omega) (by omega), up_j (by omega)]
/-- a leaf, or an inner one, is split; more above -/
theorem mx_inL {K : Int → Int → Mem → Option (Mem × Int)} {n : Nat} (ho : TOk P) (hT : TX X P) (h : RowX X es) (hi32 : i < 32) (hp : P i = (1, l, z)) (h61 : 61 < szs es) (h48 : es.length ≤ 48) (hz : szs es ≤ 1000) (hq : IsLF P q) (he : es = (x ++ [u]) ++ v :: y) (hh : hf es = (x ++ [u]).length) (hc : cmp u.1 v.1 < 0) (hx : szs (x ++ [u]) ≤ 61) (hy : szs (v :: y) ≤ 61) {v2 v3 : Int} (hv3 : v3 = (i : Int)) (hv2 : 0 ≤ v2 ∧ v2 < 32) : ∃ X', TX X' (uP (uP P i (1, (q : Int) + 1, x ++ [u])) q (1, l, v :: y)) ∧ UpX X' (sep u.1 v.1) ∧ Fx X X' ∧ X' 95 3 = X 95 3 ∧ X' 95 4 = X 95 4 ∧ X' 95 5 = X 95 5 ∧ f_X8_putKey_104 K (n + 1) v2 v3 X = (cEq (v2) 0 (bd (f_X8_newRoot (v3) (q : Int) (up X' 95 3 ((X' 95 3) + 1))) (fun C171 _ => (some (C171, -9)))) (ix (v2 + (-1)) 32 (bd (f_X8_comeOut ((up X' 95 3 ((X' 95 3) + 1)) (102) (v2 + (-1)).toNat) (up (up X' 95 3 ((X' 95 3) + 1)) 95 6 (0))) (fun C194 _ => (ix (v2 + (-1)) 32 (bd (f_X8_comesIn (C194 (103) (v2 + (-1)).toNat) 0 (C194 95 10) (q : Int) C194) (fun C214 _ => (f_X8_putKey_104 K n (v2 + (-1)) ((up X' 95 3 ((X' 95 3) + 1)) (102) (v2 + (-1)).toNat) C214)))))))) := by
  have hpg := TX_pg ho hT hi32
  rw [hp] at hpg
  have hpg : PgX X i 1 l z := hpg
  obtain ⟨X', s1, s2, s3, s4, s5, s6, s7⟩ := mx_shareL (f := l) (r1 := v3) (r2 := (q : Int)) (r5 := l) hT h he hh hc h48 hz hi32 hq.1 hv3 rfl hx hy
  refine ⟨X', s2, s3, s4, s5, s6, s7, ?_⟩
  rw [f_X8_putKey_104, mx_bytes_all h h48, bd_some, tLt (by omega), mx_0 hpg hv3, bd_some, mx_lf ho hT hq, bd_some, mx_2 hpg hv3, bd_some, mx_2 hpg hv3, bd_some, s1, bd_some]
theorem mx_inI {K : Int → Int → Mem → Option (Mem × Int)} {n : Nat} (ho : TOk P) (hT : TX X P) (h : RowX X es) (hi32 : i < 32) (hp : P i = (2, l, z)) (h61 : 61 < szs es) (h48 : es.length ≤ 48) (hz : szs es ≤ 1000) (hq : IsLF P q) (he : es = x ++ v :: y) (hh : hf es = x.length) (hx : szs x ≤ 61) (hy : szs y ≤ 61) {v2 v3 : Int} (hv3 : v3 = (i : Int)) (hv2 : 0 ≤ v2 ∧ v2 < 32) : ∃ X', TX X' (uP (uP P i (2, l, x)) q (2, v.2, y)) ∧ UpX X' v.1 ∧ Fx X X' ∧ X' 95 3 = X 95 3 ∧ X' 95 4 = X 95 4 ∧ X' 95 5 = X 95 5 ∧ f_X8_putKey_104 K (n + 1) v2 v3 X = (cEq (v2) 0 (bd (f_X8_newRoot (v3) (q : Int) (up X' 95 3 ((X' 95 3) + 1))) (fun C171 _ => (some (C171, -9)))) (ix (v2 + (-1)) 32 (bd (f_X8_comeOut ((up X' 95 3 ((X' 95 3) + 1)) (102) (v2 + (-1)).toNat) (up (up X' 95 3 ((X' 95 3) + 1)) 95 6 (0))) (fun C194 _ => (ix (v2 + (-1)) 32 (bd (f_X8_comesIn (C194 (103) (v2 + (-1)).toNat) 0 (C194 95 10) (q : Int) C194) (fun C214 _ => (f_X8_putKey_104 K n (v2 + (-1)) ((up X' 95 3 ((X' 95 3) + 1)) (102) (v2 + (-1)).toNat) C214)))))))) := by
  have hpg := TX_pg ho hT hi32
  rw [hp] at hpg
  have hpg : PgX X i 2 l z := hpg
  obtain ⟨X', s1, s2, s3, s4, s5, s6, s7⟩ := mx_shareI (f := l) (r1 := v3) (r2 := (q : Int)) (r5 := l) hT h he hh h48 hz hi32 hq.1 hv3 rfl hx hy
  refine ⟨X', s2, s3, s4, s5, s6, s7, ?_⟩
  rw [f_X8_putKey_104, mx_bytes_all h h48, bd_some, tLt (by omega), mx_0 hpg hv3, bd_some, mx_lf ho hT hq, bd_some, mx_2 hpg hv3, bd_some, mx_2 hpg hv3, bd_some, s1, bd_some]
/-- a key spelled -/
theorem lm_spells {K : Int → Int → Mem → Option (Mem × Int)} : ∀ (m n : Nat) (r r2 : Int) (M : Mem), r2 = (m : Int) - 1 → m ≤ 8 → m < n → 0 ≤ r → r < 2147483648 → ∃ r', f_X8_spells_12 K n r r2 M = K r' (-1) (stI M 101 0 m (fun j => (spl m r).getD j 0))
  | _, 0 => by intros; omega
  | 0, n + 1 => by
    intro q z M hz _ _ _ _
    unfold f_X8_spells_12
    rw [tLt (by omega), stI_nil, hz]
    exact ⟨q, rfl⟩
  | m + 1, n + 1 => by
    intro q z M hz hm hn h0 h1
    obtain ⟨q', ih⟩ := lm_spells (K := K) m n (q / 26) (z + -1) (up M 101 m (97 + q % 26)) (by omega) (by omega) (by omega) (by omega) (by omega)
    unfold f_X8_spells_12
    rw [fLt (by omega), dv_t (by omega), ix_t (by omega), dv_t (by omega), show z.toNat = m by omega, ih, stI_spl]
    exact ⟨q', rfl⟩
theorem mx_spells {n : Nat} {r r2 : Int} (hr2 : r2 = (n : Int)) (hn : n ≤ 8) (h0 : 0 ≤ r) (h1 : r < 2147483648) : ∃ X', f_X8_spells r r2 X = some (X', 0) ∧ KX X' (spl n r) ∧ (∀ a b, a ≠ 101 → ¬ (a = 95 ∧ b = 12) → X' a b = X a b) := by
  have hfu := FU_eq
  obtain ⟨q', ih⟩ := lm_spells (K := (fun (v3_e12 : Int) (v4_e12 : Int) (C_e12 : Mem) => (some (C_e12, 0)))) n FU r (r2 - 1) (up X 95 12 r2) (by omega) hn (by omega) h0 h1
  refine ⟨stI (up X 95 12 r2) 101 0 n (fun j => (spl n r).getD j 0), ?_, ⟨?_, ?_, spl_LOk hn r⟩, ?_⟩
  · unfold f_X8_spells
    rw [ih]
  · rw [stI_k (by omega), up_same, spl_len, hr2]
  · intro j hj
    rw [spl_len] at hj
    rw [stI_in (by omega)]
  · intro a b h1 h2
    rw [stI_k h1, up_ap, if_neg h2]
end MC
end
section
/-! MODEL: mending. -/
def mJoin (A : Int) (c li ri so : Int) (C183 : Mem) : Option (Mem × Int) := (jn ((fun (s3_219 : Int) (C_219 : Mem) => (bd (f_X8_goBack (li) (so) (s3_219) (0) (C_219 95 6) C_219) (fun C224 _ => (bd (f_X8_clears (ri) C224) (fun C230 _ => (bd (f_X8_comeOut A (up C230 95 6 (0))) (fun C240 _ => (bd (f_X8_goesOut (c) C240) (fun C246 _ => (bd (f_X8_at A (2) C246) (fun C255 r255 => (bd (f_X8_goBack A (2) (r255) (0) (C255 95 6) C255) (fun C263 _ => (some ((up C263 95 4 ((C263 95 4) + 1)), 1))))))))))))))) : Int → Mem → Option (Mem × Int)) (fun j219 => (cEq (so) (1) (bd (f_X8_at (ri) (2) C183) (fun C206 r206 => (j219 (r206) C206))) (bd (f_X8_at (li) (2) C183) (fun C216 r216 => (j219 (r216) C216))))))
def mShare (A : Int) (c li ri so fr : Int) (C183 : Mem) : Option (Mem × Int) := (bd (f_X8_half C183) (fun C282 r282 => (bd (f_X8_setUp (so) (r282) C282) (fun C285 _ => (bd (f_X8_usedOf A C285) (fun C290 r290 => (bd (f_X8_at A (fr) C290) (fun C297 r297 => (cLt (64) ((r290 - r297) + (C297 95 10)) (some (C297, 0)) (bd (f_X8_at (li) (2) C297) (fun C322 r322 => (bd (f_X8_at (ri) (2) C322) (fun C329 r329 => (bd (f_X8_share (li) (ri) (so) (r322) (r329) C329) (fun C332 _ => (bd (f_X8_comeOut A (up C332 95 6 (0))) (fun C342 _ => (ix (c) 48 (bd (f_X8_goesOut (c) C342) (fun C357 _ => (bd (f_X8_comesIn (c) 0 (C357 95 10) (C342 (99) (c).toNat) C357) (fun C373 _ => (bd (f_X8_at A (2) C373) (fun C382 r382 => (bd (f_X8_goBack A (2) (r382) (0) (C382 95 6) C382) (fun C390 _ => (some ((up C390 95 5 ((C390 95 5) + 1)), 0))))))))))))))))))))))))))))
/-- row, and what goes up -/
def Fru (X X' : Mem) : Prop := ∀ a b, a ≠ 97 → a ≠ 98 → a ≠ 99 → a ≠ 100 → ¬ (a = 95 ∧ (b = 6 ∨ b = 10)) → X' a b = X a b
section MM
variable {X X' : Mem} {P : Nat → Pg} {i j k q o L t A : Nat} {s l p la ll lr : Int} {es a b x y z le re ws : List Ent} {e u v : Ent} {w : List Int} {pg : Pg} {W T : Nat → Nat} {root : Nat}
theorem Fro_Fru (h : Fro X X') : Fru X X' := fun a b q1 q2 q3 _ q4 => h a b q1 q2 q3 (by omega)
theorem Fu_Fru (h : Fu X X') : Fru X X' := fun a b _ _ _ q1 q4 => h a b q1 (by omega)
theorem Fru_tr {X2 : Mem} (h1 : Fru X X') (h2 : Fru X' X2) : Fru X X2 := fun a b q1 q2 q3 q4 q5 => by rw [h2 a b q1 q2 q3 q4 q5, h1 a b q1 q2 q3 q4 q5]
theorem Fru_PgX (h : PgX X i s l es) (hf : Fru X X') : PgX X' i s l es := ⟨fun j hj => by rw [hf _ _ (by omega) (by omega) (by omega) (by omega) (by omega)]; exact h.1 j hj, h.2⟩
theorem Fru_TX (h : TX X P) (hf : Fru X X') : TX X' P := TX_fr h (fun y => hf _ _ (by omega) (by omega) (by omega) (by omega) (by omega))
theorem Fru_Fx (h : Fru X X') : Fx X X' := fun a b q1 q2 q3 q4 q5 q6 => h a b q2 q3 q4 q5 (by omega)
theorem lm_mend108 {K : Int → Mem → Option (Mem × Int)} {u4 u5 u6 u7 : Int} (h : PgX X A s l (a ++ e :: b)) (hp : p = (A : Int)) : ∀ (m n : Nat) (r : Int) (Y : Mem), (∀ j, Y 96 j = X 96 j) → m ≤ e.1.length → r = ((e.1.length - m : Nat) : Int) → m < n → f_X8_mends_108 p u4 u5 u6 u7 ((3 + szs a : Nat) : Int) K n r (stI Y 100 0 (e.1.length - m) (fun j => e.1.getD j 0)) = K (e.1.length : Int) (stI Y 100 0 e.1.length (fun j => e.1.getD j 0))
  | _, 0 => by intros; omega
  | 0, n + 1 => by
    intro r Y hY _ hr _
    have h8 := (EsOk_mid h.2.1).2.1
    have hg : PgX (stI Y 100 0 (e.1.length - 0) (fun j => e.1.getD j 0)) A s l (a ++ e :: b) := ⟨fun j hj => by rw [stI_k (by omega), hY]; exact h.1 j hj, h.2⟩
    unfold f_X8_mends_108
    rw [mx_len hg hp rfl, bd_some, fLt (by omega), hr]
    rfl
  | m + 1, n + 1 => by
    intro r Y hY hm hr hn
    have h8 := (EsOk_mid h.2.1).2.1
    have hg : PgX (stI Y 100 0 (e.1.length - (m + 1)) (fun j => e.1.getD j 0)) A s l (a ++ e :: b) := ⟨fun j hj => by rw [stI_k (by omega), hY]; exact h.1 j hj, h.2⟩
    have ih := lm_mend108 (K := K) (u4 := u4) (u5 := u5) (u6 := u6) (u7 := u7) h hp m n (r + 1) Y hY (by omega) (by omega) (by omega)
    unfold f_X8_mends_108
    rw [mx_len hg hp rfl, bd_some, tLt (by omega), mx_let hg hp (j := e.1.length - (m + 1)) (by omega) (by omega), bd_some, ix_t (by omega), nat2 hr, stI_up (by omega) rfl, show e.1.length - (m + 1) + 1 = e.1.length - m by omega]
    exact ih
theorem mx_mend0 (ho : TOk P) (hT : TX X P) (hW : WayX X L W T) (hL32 : L ≤ 32) (ht : t + 1 < L) (hA : W t = A) (hA32 : A < 32) (hp : P A = (2, la, [])) {r : Int} (hr : r = (t : Int) + 1) : f_X8_mends r X = some (X, 0) := by
  have hpA := TX_pg ho hT hA32
  rw [hp] at hpA
  have hpA : PgX X A 2 la [] := hpA
  have e0 := hW.1 t (by omega)
  rw [hA] at e0
  unfold f_X8_mends
  rw [ix_t (by omega), show (r - 1).toNat = t by omega, e0, mx_1 hpA rfl, bd_some, tEq (by simp)]
theorem mx_mend1 (ho : TOk P) (hT : TX X P) (hW : WayX X L W T) (hL32 : L ≤ 32) (ht : t + 1 < L) (hA : W t = A) (hA32 : A < 32) (hp : P A = (2, la, a ++ e :: b)) (hb : Btw (T t) (a ++ e :: b).length a.length) (hTl : T t ≤ (a ++ e :: b).length) (hi : chd (P A) a.length = (i : Int)) (hi32 : i < 32) (hj : e.2 = (j : Int)) (hj32 : j < 32) (hpi : P i = (s, ll, le)) (hpj : P j = (s, lr, re)) (hs : s = 1 ∨ s = 2) (hw : Ws s e lr le re ws) {r : Int} (hr : r = (t : Int) + 1) : ∃ X1, RowX X1 ws ∧ Fru X X1 ∧ ws.length ≤ 48 ∧ szs ws ≤ 132 ∧ f_X8_mends r X = cLt 61 ((szs ws : Nat) : Int) (mShare (A : Int) (a.length : Int) (i : Int) (j : Int) s ((3 + szs a : Nat) : Int) X1) (mJoin (A : Int) (a.length : Int) (i : Int) (j : Int) s X1) := by
  have hfu := FU_eq
  have hpA := TX_pg ho hT hA32
  rw [hp] at hpA
  have hpA : PgX X A 2 la (a ++ e :: b) := hpA
  have hgi := TX_pg ho hT hi32
  rw [hpi] at hgi
  have hgi : PgX X i s ll le := hgi
  have hgj := TX_pg ho hT hj32
  rw [hpj] at hgj
  have hgj : PgX X j s lr re := hgj
  have he := EsOk_mid hpA.2.1
  have li := hgi.2.2.1
  have lj := hgj.2.2.1
  have li3 := len_szs3 _ hgi.2.1
  have lj3 := len_szs3 _ hgj.2.1
  have hlen := PgX_len hpA
  have hln : (a ++ e :: b).length = a.length + (b.length + 1) := by simp
  have e0 := hW.1 t (by omega)
  rw [hA] at e0
  have e1 := hW.2 t ht
  have hch := mx_child hpA (p := (A : Int)) rfl (n := a.length) (by omega) (z := (a.length : Int)) rfl
  have hch1 := mx_child hpA (p := (A : Int)) rfl (n := a.length + 1) (by omega) (z := (a.length : Int) + 1) (by omega)
  rw [chd_s (p := (2, la, a ++ e :: b)) rfl, hj] at hch1
  rw [hp] at hi
  rw [hi] at hch
  obtain ⟨X1, o1, o2, o3⟩ := mx_out0 hgi (p := (i : Int)) rfl
  -- the end, from any memory that holds the first part of the row
  have fin : ∀ (Y : Mem) (ws0 : List Ent), RowX Y ws0 → Fru X Y → ws = ws0 ++ re → ws0.length + re.length ≤ 48 → szs ws0 ≤ 71 → ∃ X1, RowX X1 ws ∧ Fru X X1 ∧ ws.length ≤ 48 ∧ szs ws ≤ 132 ∧ (bd (f_X8_comeOut ((j : Nat) : Int) Y) (fun C174 _ => (bd (f_X8_bytesOf (0) (C174 95 6) C174) (fun C183 r183 => (cLt (61) (r183) (mShare (A : Int) (a.length : Int) (i : Int) (j : Int) s ((3 + szs a : Nat) : Int) C183) (mJoin (A : Int) (a.length : Int) (i : Int) (j : Int) s C183)))))) = cLt 61 ((szs ws : Nat) : Int) (mShare (A : Int) (a.length : Int) (i : Int) (j : Int) s ((3 + szs a : Nat) : Int) X1) (mJoin (A : Int) (a.length : Int) (i : Int) (j : Int) s X1) := by
    intro Y ws0 g1 g2 g3 g4 g5
    obtain ⟨X2, p1, p2, p3⟩ := mx_out (Fru_PgX hgj g2) (p := (j : Int)) rfl g1 g4
    rw [← g3] at p2
    have h48 : ws.length ≤ 48 := by rw [g3]; simp; exact g4
    refine ⟨X2, p2, Fru_tr g2 (Fro_Fru p3), h48, by rw [g3, szs_app]; omega, ?_⟩
    rw [p1, bd_some, mx_bytes_all p2 h48, bd_some]
  have body : ∃ X1', RowX X1' ws ∧ Fru X X1' ∧ ws.length ≤ 48 ∧ szs ws ≤ 132 ∧ (bd (f_X8_comeOut ((i : Nat) : Int) (up X 95 6 (0))) (fun C96 _ => (jn ((fun (C_171 : Mem) => (bd (f_X8_comeOut ((j : Nat) : Int) C_171) (fun C174 _ => (bd (f_X8_bytesOf (0) (C174 95 6) C174) (fun C183 r183 => (cLt (61) (r183) (mShare (A : Int) (a.length : Int) (i : Int) (j : Int) s ((3 + szs a : Nat) : Int) C183) (mJoin (A : Int) (a.length : Int) (i : Int) (j : Int) s C183))))))) : Mem → Option (Mem × Int)) (fun j171 => (cEq (s) (2) (f_X8_mends_108 (A : Int) (a.length : Int) (i : Int) (j : Int) (s) ((3 + szs a : Nat) : Int) (fun (v9_e108 : Int) (C_e108 : Mem) => (bd (f_X8_at (A : Int) ((3 + szs a : Nat) : Int) C_e108) (fun C158 r158 => (bd (f_X8_at (j : Int) (2) C158) (fun C165 r165 => (bd (f_X8_comesIn (C_e108 95 6) 0 (r158) (r165) C165) (fun C168 _ => (j171 C168)))))))) FU (0) C96) (j171 C96)))))) = cLt 61 ((szs ws : Nat) : Int) (mShare (A : Int) (a.length : Int) (i : Int) (j : Int) s ((3 + szs a : Nat) : Int) X1') (mJoin (A : Int) (a.length : Int) (i : Int) (j : Int) s X1') := by
    rw [o1, bd_some, jn_eq]
    rcases hw with ⟨hs1, hws⟩ | ⟨hs1, hws⟩
    · subst hs1
      rw [fEq (by omega)]
      exact fin X1 le o2 (Fro_Fru o3) hws (by omega) (by omega)
    · subst hs1
      have gA1 := Fru_PgX hpA (Fro_Fru o3)
      have q := lm_mend108 (u4 := (a.length : Int)) (u5 := (i : Int)) (u6 := (j : Int)) (u7 := 2) (K := (fun (v9_e108 : Int) (C_e108 : Mem) => (bd (f_X8_at (A : Int) ((3 + szs a : Nat) : Int) C_e108) (fun C158 r158 => (bd (f_X8_at (j : Int) (2) C158) (fun C165 r165 => (bd (f_X8_comesIn (C_e108 95 6) 0 (r158) (r165) C165) (fun C168 _ => ((fun (C_171 : Mem) => (bd (f_X8_comeOut ((j : Nat) : Int) C_171) (fun C174 _ => (bd (f_X8_bytesOf (0) (C174 95 6) C174) (fun C183 r183 => (cLt (61) (r183) (mShare (A : Int) (a.length : Int) (i : Int) (j : Int) 2 ((3 + szs a : Nat) : Int) C183) (mJoin (A : Int) (a.length : Int) (i : Int) (j : Int) 2 C183))))))) C168))))))))) gA1 (p := (A : Int)) rfl e.1.length FU 0 X1 (fun _ => rfl) (by omega) (by omega) (by have := he.2.1; omega)
      rw [Nat.sub_self, stI_nil] at q
      rw [tEq (by omega), q]
      have fu : Fu X1 (stI X1 100 0 e.1.length (fun j => e.1.getD j 0)) := fun a b h1 h2 => stI_k h1
      have r2 := Fu_RowX fu o2
      have gA2 := Fru_PgX gA1 (Fu_Fru fu)
      have gj2 := Fru_PgX hgj (Fru_tr (Fro_Fru o3) (Fu_Fru fu))
      have ar : ArX (stI X1 100 0 e.1.length (fun j => e.1.getD j 0)) (100 + 0) e.1 := fun j hj => stI_in (by omega)
      obtain ⟨X2, m1, m2, m3⟩ := mx_in (a := le) (b := []) (w := e.1) (t := lr) (by rw [List.append_nil]; exact r2) ar (EOk_L he) he.1 (by omega) (by rw [List.append_nil]; omega) (q := (le.length : Int)) (n := (e.1.length : Int)) rfl rfl hgj.2.2.2.2.1
      rw [mx_len gA2 rfl rfl, bd_some, mx_2 gj2 rfl, bd_some, r2.1, m1, bd_some]
      have hsz : szs (le ++ [(e.1, lr)]) ≤ 71 := by rw [szs_app, szs_cons, szs_nil]; have := he.2.1; show _ + (e.1.length + 2 + 0) ≤ _; omega
      exact fin X2 (le ++ [(e.1, lr)]) m2 (Fru_tr (Fru_tr (Fro_Fru o3) (Fu_Fru fu)) (Fro_Fru m3)) (by rw [hws]; simp) (by simp; omega) hsz
  obtain ⟨X1', b1, b2, b3, b4, b5⟩ := body
  refine ⟨X1', b1, b2, b3, b4, ?_⟩
  unfold f_X8_mends
  rw [ix_t (by omega), show (r - 1).toNat = t by omega, e0, mx_1 hpA rfl, bd_some, fEq (by omega), ix_t (by omega), jn_eq, e1]
  rcases hb with ⟨c1, c2⟩ | ⟨c1, c2⟩
  · rw [tLt (by omega), ix_t (by omega)]
    dsimp only
    rw [show ((T t : Nat) : Int) = (a.length : Int) by omega, hch, bd_some, hch1, bd_some, mx_0 hgi rfl, bd_some, mx_start hpA rfl rfl, bd_some]
    exact b5
  · rw [fLt (by omega)]
    dsimp only
    rw [show (((a ++ e :: b).length : Nat) : Int) - 1 = (a.length : Int) by omega, hch, bd_some, hch1, bd_some, mx_0 hgi rfl, bd_some, mx_start hpA rfl rfl, bd_some]
    exact b5
theorem mx_mendJ (ho : TOk P) (hT : TX X P) (hW : WayX X L W T) (hL32 : L ≤ 32) (ht : t + 1 < L) (hA : W t = A) (hA32 : A < 32) (hp : P A = (2, la, a ++ e :: b)) (hb : Btw (T t) (a ++ e :: b).length a.length) (hTl : T t ≤ (a ++ e :: b).length) (hi : chd (P A) a.length = (i : Int)) (hi32 : i < 32) (hj : e.2 = (j : Int)) (hj32 : j < 32) (hpi : P i = (s, ll, le)) (hpj : P j = (s, lr, re)) (hs : s = 1 ∨ s = 2) (hw : Ws s e lr le re ws) (h61 : szs ws ≤ 61) (hiA : i ≠ A) (hjA : j ≠ A) (hij : i ≠ j) {r : Int} (hr : r = (t : Int) + 1) : ∃ X', f_X8_mends r X = some (X', 1) ∧ TX X' (uP (uP (uP P i (s, if s = 1 then lr else ll, ws)) j (0, 0, [])) A (2, la, a ++ b)) ∧ Fx X X' ∧ X' 95 3 = X 95 3 ∧ X' 95 4 = X 95 4 + 1 ∧ X' 95 5 = X 95 5 := by
  obtain ⟨X1, g1, g2, g3, g4, g5⟩ := mx_mend1 ho hT hW hL32 ht hA hA32 hp hb hTl hi hi32 hj hj32 hpi hpj hs hw hr
  have hpA := TX_pg ho hT hA32
  rw [hp] at hpA
  have hpA : PgX X A 2 la (a ++ e :: b) := hpA
  have hgi := TX_pg ho hT hi32
  rw [hpi] at hgi
  have hgi : PgX X i s ll le := hgi
  have hgj := TX_pg ho hT hj32
  rw [hpj] at hgj
  have hgj : PgX X j s lr re := hgj
  have hlen := PgX_len hpA
  have hln : (a ++ e :: b).length = a.length + (b.length + 1) := by simp
  have rw1 : Rows X1 0 ([] ++ ws ++ []) := by rw [List.append_nil]; exact g1.2.1
  have cl : ∀ f : Int, f = (if s = 1 then lr else ll) → ∃ X', (bd (f_X8_goBack (i : Int) (s) (f) (0) (X1 95 6) X1) (fun C224 _ => (bd (f_X8_clears (j : Int) C224) (fun C230 _ => (bd (f_X8_comeOut (A : Int) (up C230 95 6 (0))) (fun C240 _ => (bd (f_X8_goesOut (a.length : Int) C240) (fun C246 _ => (bd (f_X8_at (A : Int) (2) C246) (fun C255 r255 => (bd (f_X8_goBack (A : Int) (2) (r255) (0) (C255 95 6) C255) (fun C263 _ => (some ((up C263 95 4 ((C263 95 4) + 1)), (1 : Int))))))))))))))) = some (X', 1) ∧ TX X' (uP (uP (uP P i (s, if s = 1 then lr else ll, ws)) j (0, 0, [])) A (2, la, a ++ b)) ∧ Fx X X' ∧ X' 95 3 = X 95 3 ∧ X' 95 4 = X 95 4 + 1 ∧ X' 95 5 = X 95 5 := by
    intro f hf
    have gA : PgX (stX (stX X1 i (enc s f ws)) j (enc 0 0 [])) A 2 la (a ++ e :: b) := ⟨fun c hc => by rw [stX_o (by omega), stX_o (by omega), g2 _ _ (by omega) (by omega) (by omega) (by omega) (by omega)]; exact hpA.1 c hc, hpA.2⟩
    obtain ⟨X2, o1, o2, o3⟩ := mx_out0 gA (p := (A : Int)) rfl
    obtain ⟨X3, n1, n2, n3⟩ := mx_go o2 (by omega) (q := (a.length : Int)) rfl
    have gA2 := Fro_PgX gA (Fro_tr o3 n3)
    have hab : EsOk (a ++ b) := n2.2.2
    have hsz : szs (a ++ b) ≤ 61 := by have := hpA.2.2.1; rw [szs_app, szs_cons] at this; rw [szs_app]; omega
    have r3 : Rows X3 0 ([] ++ (a ++ b) ++ []) := by rw [List.append_nil]; exact n2.2.1
    refine ⟨up (stX X3 A (enc 2 la (a ++ b))) 95 4 (X 95 4 + 1), ?_, ?_, ?_, ?_, ?_, ?_⟩
    · rw [mx_back hi32 rfl rw1 g1.2.2 (by simpa using g3) h61 (by rfl) (by rw [g1.1]; simp), bd_some, mx_clear hj32 rfl, bd_some, o1, bd_some, n1, bd_some, mx_2 gA2 rfl, bd_some, mx_back hA32 rfl r3 hab (by simp; omega) hsz (by rfl) (by rw [n2.1]; simp), bd_some, stX_k (by omega), n3 _ _ (by omega) (by omega) (by omega) (by omega), o3 _ _ (by omega) (by omega) (by omega) (by omega), stX_k (by omega), stX_k (by omega), g2 _ _ (by omega) (by omega) (by omega) (by omega) (by omega)]
    · refine TX_fr (TX_st (Fro_TX (TX_st (TX_st (Fru_TX hT g2) ⟨rfl, ?_, rfl⟩) ⟨rfl, rfl, rfl⟩) (Fro_tr o3 n3)) ⟨rfl, rfl, rfl⟩) (fun y => up_k (by omega))
      exact hf
    · exact Fx_up (by omega) (Fx_st (Fx_tr (Fx_st (Fx_st (Fru_Fx g2))) (Fro_Fx (Fro_tr o3 n3))))
    · rw [up_j (by omega), stX_k (by omega), n3 _ _ (by omega) (by omega) (by omega) (by omega), o3 _ _ (by omega) (by omega) (by omega) (by omega), stX_k (by omega), stX_k (by omega), g2 _ _ (by omega) (by omega) (by omega) (by omega) (by omega)]
    · rw [up_same]
    · rw [up_j (by omega), stX_k (by omega), n3 _ _ (by omega) (by omega) (by omega) (by omega), o3 _ _ (by omega) (by omega) (by omega) (by omega), stX_k (by omega), stX_k (by omega), g2 _ _ (by omega) (by omega) (by omega) (by omega) (by omega)]
  rw [g5, fLt (by omega)]
  unfold mJoin
  rw [jn_eq]
  rcases hs with hs | hs
  · subst hs
    rw [tEq (by omega), mx_2 (Fru_PgX hgj g2) rfl, bd_some]
    exact cl lr (by rw [if_pos rfl])
  · subst hs
    rw [fEq (by omega), mx_2 (Fru_PgX hgi g2) rfl, bd_some]
    exact cl ll (by rw [if_neg (by omega)])
/-- the end of sharing anew: the page above -/
theorem mx_above (ho : TOk P) (hT : TX X P) (hA32 : A < 32) (hp : P A = (2, la, a ++ e :: b)) (hu : UpX X w) (hw1 : 1 ≤ w.length) (hfit : szs (a ++ (w, e.2) :: b) ≤ 61) : ∃ X', (bd (f_X8_comeOut (A : Int) (up X 95 6 (0))) (fun C342 _ => (ix (a.length : Int) 48 (bd (f_X8_goesOut (a.length : Int) C342) (fun C357 _ => (bd (f_X8_comesIn (a.length : Int) 0 (C357 95 10) (C342 (99) (a.length : Int).toNat) C357) (fun C373 _ => (bd (f_X8_at (A : Int) (2) C373) (fun C382 r382 => (bd (f_X8_goBack (A : Int) (2) (r382) (0) (C382 95 6) C382) (fun C390 _ => (some ((up C390 95 5 ((C390 95 5) + 1)), (0 : Int)))))))))))))) = some (X', 0) ∧ TX X' (uP P A (2, la, a ++ (w, e.2) :: b)) ∧ Fx X X' ∧ X' 95 3 = X 95 3 ∧ X' 95 4 = X 95 4 ∧ X' 95 5 = X 95 5 + 1 := by
  have hpA := TX_pg ho hT hA32
  rw [hp] at hpA
  have hpA : PgX X A 2 la (a ++ e :: b) := hpA
  have he := EsOk_mid hpA.2.1
  have hlen := PgX_len hpA
  have hln : (a ++ e :: b).length = a.length + (b.length + 1) := by simp
  have hln2 : (a ++ b).length = a.length + b.length := by simp
  have hln3 : (a ++ (w, e.2) :: b).length = a.length + (b.length + 1) := by simp
  obtain ⟨X1, o1, o2, o3⟩ := mx_out0 hpA (p := (A : Int)) rfl
  obtain ⟨X2, n1, n2, n3⟩ := mx_go o2 (by omega) (q := (a.length : Int)) rfl
  have re := Rows_mid o2.2.1
  rw [Nat.zero_add] at re
  have hu2 := UpX_ro hu (Fro_tr o3 n3)
  obtain ⟨X3, m1, m2, m3⟩ := mx_in n2 (c := 0) hu2.2.1 hu.2.2 hw1 (by omega) (by omega) (q := (a.length : Int)) (n := (w.length : Int)) (t := e.2) rfl rfl he.2.2.2
  have gA := Fro_PgX hpA (Fro_tr (Fro_tr o3 n3) m3)
  have r3 : Rows X3 0 ([] ++ (a ++ (w, e.2) :: b) ++ []) := by rw [List.append_nil]; exact m2.2.1
  have hF := Fro_tr (Fro_tr o3 n3) m3
  refine ⟨up (stX X3 A (enc 2 la (a ++ (w, e.2) :: b))) 95 5 (X 95 5 + 1), ?_, ?_, ?_, ?_, ?_, ?_⟩
  · rw [o1, bd_some, ix_t (by omega), n1, bd_some, hu2.1, nat2 rfl, re.2.1, m1, bd_some, mx_2 gA rfl, bd_some, mx_back hA32 rfl r3 m2.2.2 (by simp; omega) hfit (by rfl) (by rw [m2.1]; simp), bd_some, stX_k (by omega), hF _ _ (by omega) (by omega) (by omega) (by omega)]
  · exact TX_fr (TX_st (Fro_TX hT hF) ⟨rfl, rfl, rfl⟩) (fun y => up_k (by omega))
  · exact Fx_up (by omega) (Fx_st (Fro_Fx hF))
  · rw [up_j (by omega), stX_k (by omega), hF _ _ (by omega) (by omega) (by omega) (by omega)]
  · rw [up_j (by omega), stX_k (by omega), hF _ _ (by omega) (by omega) (by omega) (by omega)]
  · rw [up_same]
end MM
end
section
/-! MODEL: sharing anew; the root goes. -/
theorem uP_comm {P : Nat → Pg} {i j : Nat} {p q : Pg} (h : i ≠ j) : uP (uP P i p) j q = uP (uP P j q) i p := by
  funext k
  by_cases h1 : k = i
  · subst h1; rw [uP_o h, uP_s, uP_s]
  · by_cases h2 : k = j
    · subst h2; rw [uP_s, uP_o h1, uP_s]
    · rw [uP_o h2, uP_o h1, uP_o h1, uP_o h2]
section MN
variable {X X' : Mem} {P : Nat → Pg} {i j k q o L t A : Nat} {s l p la ll lr : Int} {es a b x y z le re ws : List Ent} {e u v : Ent} {w : List Int} {pg : Pg} {W T : Nat → Nat} {root : Nat}
theorem mx_mendL (ho : TOk P) (hT : TX X P) (hW : WayX X L W T) (hL32 : L ≤ 32) (ht : t + 1 < L) (hA : W t = A) (hA32 : A < 32) (hp : P A = (2, la, a ++ e :: b)) (hb : Btw (T t) (a ++ e :: b).length a.length) (hTl : T t ≤ (a ++ e :: b).length) (hi : chd (P A) a.length = (i : Int)) (hi32 : i < 32) (hj : e.2 = (j : Int)) (hj32 : j < 32) (hpi : P i = (1, ll, le)) (hpj : P j = (1, lr, re)) (h61 : 61 < szs (le ++ re)) (hiA : i ≠ A) (hjA : j ≠ A) (hij : i ≠ j) (hws : le ++ re = (x ++ [u]) ++ v :: y) (hh : hf (le ++ re) = (x ++ [u]).length) (hc : cmp u.1 v.1 < 0) (hx : szs (x ++ [u]) ≤ 61) (hy : szs (v :: y) ≤ 61) (hll : ll = (j : Int) + 1) {r : Int} (hr : r = (t : Int) + 1) : ∃ X', f_X8_mends r X = some (X', 0) ∧ Fx X X' ∧ X' 95 3 = X 95 3 ∧ X' 95 4 = X 95 4 ∧ ((61 < szs (a ++ (sep u.1 v.1, e.2) :: b) ∧ TX X' P ∧ X' 95 5 = X 95 5) ∨ (szs (a ++ (sep u.1 v.1, e.2) :: b) ≤ 61 ∧ TX X' (uP (uP (uP P A (2, la, a ++ (sep u.1 v.1, e.2) :: b)) i (1, ll, x ++ [u])) j (1, lr, v :: y)) ∧ X' 95 5 = X 95 5 + 1)) := by
  obtain ⟨X1, g1, g2, g3, g4, g5⟩ := mx_mend1 ho hT hW hL32 ht hA hA32 hp hb hTl hi hi32 hj hj32 hpi hpj (Or.inl rfl) (Or.inl ⟨rfl, rfl⟩) hr
  have hpA := TX_pg ho hT hA32
  rw [hp] at hpA
  have hpA : PgX X A 2 la (a ++ e :: b) := hpA
  have hgi := TX_pg ho hT hi32
  rw [hpi] at hgi
  have hgi : PgX X i 1 ll le := hgi
  have hgj := TX_pg ho hT hj32
  rw [hpj] at hgj
  have hgj : PgX X j 1 lr re := hgj
  have hzA := hpA.2.2.1
  have he := EsOk_mid hpA.2.1
  have e8 : szs (a ++ e :: b) = szs a + (e.1.length + 2 + szs b) := by rw [szs_app, szs_cons]
  have e9 : szs (a ++ (sep u.1 v.1, e.2) :: b) = szs a + ((sep u.1 v.1).length + 2 + szs b) := by rw [szs_app, szs_cons]
  obtain ⟨X2, s1, s2, s3⟩ := mx_setL (r := ((hf (le ++ re) : Nat) : Int)) (by rw [hws] at g1; exact g1) hc (by rw [← hws]; exact g3) (by rw [hh])
  have hF2 := Fru_tr g2 (Fu_Fru s3)
  have hsl := s2.2.2.1
  have pre : f_X8_mends r X = cLt (64) ((((3 + szs (a ++ e :: b) : Nat) : Int) - (e.1.length : Int)) + ((sep u.1 v.1).length : Int)) (some (X2, 0)) (bd (f_X8_at (i : Int) (2) X2) (fun C322 r322 => (bd (f_X8_at (j : Int) (2) C322) (fun C329 r329 => (bd (f_X8_share (i : Int) (j : Int) 1 (r322) (r329) C329) (fun C332 _ => (bd (f_X8_comeOut (A : Int) (up C332 95 6 (0))) (fun C342 _ => (ix (a.length : Int) 48 (bd (f_X8_goesOut (a.length : Int) C342) (fun C357 _ => (bd (f_X8_comesIn (a.length : Int) 0 (C357 95 10) (C342 (99) (a.length : Int).toNat) C357) (fun C373 _ => (bd (f_X8_at (A : Int) (2) C373) (fun C382 r382 => (bd (f_X8_goBack (A : Int) (2) (r382) (0) (C382 95 6) C382) (fun C390 _ => (some ((up C390 95 5 ((C390 95 5) + 1)), 0))))))))))))))))))) := by
    rw [g5, tLt (by omega)]
    unfold mShare
    rw [mx_half g1 g3 (by omega), bd_some, s1, bd_some, mx_used (Fru_PgX hpA hF2) rfl (by omega), bd_some, mx_len (Fru_PgX hpA hF2) rfl rfl, bd_some, s2.1]
  rw [pre]
  by_cases hb2 : 61 < szs (a ++ (sep u.1 v.1, e.2) :: b)
  · rw [tLt (by omega)]
    refine ⟨X2, rfl, Fru_Fx hF2, ?_, ?_, Or.inl ⟨hb2, Fru_TX hT hF2, ?_⟩⟩
    · exact hF2 _ _ (by omega) (by omega) (by omega) (by omega) (by omega)
    · exact hF2 _ _ (by omega) (by omega) (by omega) (by omega) (by omega)
    · exact hF2 _ _ (by omega) (by omega) (by omega) (by omega) (by omega)
  · have oks := g1.2.2
    rw [hws] at oks
    have oks1 := EsOk_app.mp oks
    obtain ⟨X3, t1, t2, t3, t4, t5, t6, t7⟩ := mx_shareL (f := ll) (r5 := lr) (Fru_TX hT hF2) (Fu_RowX s3 g1) hws hh hc g3 (by omega) hi32 hj32 (r1 := (i : Int)) (r2 := (j : Int)) rfl rfl hx hy
    have ho2 : TOk (uP (uP P i (1, (j : Int) + 1, x ++ [u])) j (1, lr, v :: y)) := TOk_u (TOk_u ho ⟨oks1.1, hx, by show (0 : Int) ≤ 1 ∧ (1 : Int) ≤ 2; omega, by show (0 : Int) ≤ (j : Int) + 1 ∧ (j : Int) + 1 ≤ 255; omega⟩) ⟨oks1.2, hy, by show (0 : Int) ≤ 1 ∧ (1 : Int) ≤ 2; omega, hgj.2.2.2.2.1⟩
    obtain ⟨X4, a1, a2, a3, a4, a5, a6⟩ := mx_above ho2 t2 hA32 (by rw [uP_o hjA.symm, uP_o hiA.symm]; exact hp) t3 (sep_pos hc) (by omega)
    rw [fLt (by omega), mx_2 (Fru_PgX hgi hF2) rfl, bd_some, mx_2 (Fru_PgX hgj hF2) rfl, bd_some, t1, bd_some]
    have hF3 : Fx X X3 := Fx_tr (Fru_Fx hF2) t4
    refine ⟨X4, a1, Fx_tr hF3 a3, ?_, ?_, Or.inr ⟨by omega, ?_, ?_⟩⟩
    · rw [a4, t5]; exact hF2 _ _ (by omega) (by omega) (by omega) (by omega) (by omega)
    · rw [a5, t6]; exact hF2 _ _ (by omega) (by omega) (by omega) (by omega) (by omega)
    · rw [uP_comm hjA, uP_comm hiA, ← hll] at a2
      exact a2
    · rw [a6, t7, hF2 _ _ (by omega) (by omega) (by omega) (by omega) (by omega)]
theorem mx_mendI (ho : TOk P) (hT : TX X P) (hW : WayX X L W T) (hL32 : L ≤ 32) (ht : t + 1 < L) (hA : W t = A) (hA32 : A < 32) (hp : P A = (2, la, a ++ e :: b)) (hb : Btw (T t) (a ++ e :: b).length a.length) (hTl : T t ≤ (a ++ e :: b).length) (hi : chd (P A) a.length = (i : Int)) (hi32 : i < 32) (hj : e.2 = (j : Int)) (hj32 : j < 32) (hpi : P i = (2, ll, le)) (hpj : P j = (2, lr, re)) (hws0 : ws = le ++ (e.1, lr) :: re) (h61 : 61 < szs ws) (hiA : i ≠ A) (hjA : j ≠ A) (hij : i ≠ j) (hws : ws = x ++ v :: y) (hh : hf ws = x.length) (hx : szs x ≤ 61) (hy : szs y ≤ 61) {r : Int} (hr : r = (t : Int) + 1) : ∃ X', f_X8_mends r X = some (X', 0) ∧ Fx X X' ∧ X' 95 3 = X 95 3 ∧ X' 95 4 = X 95 4 ∧ ((61 < szs (a ++ (v.1, e.2) :: b) ∧ TX X' P ∧ X' 95 5 = X 95 5) ∨ (szs (a ++ (v.1, e.2) :: b) ≤ 61 ∧ TX X' (uP (uP (uP P A (2, la, a ++ (v.1, e.2) :: b)) i (2, ll, x)) j (2, v.2, y)) ∧ X' 95 5 = X 95 5 + 1)) := by
  obtain ⟨X1, g1, g2, g3, g4, g5⟩ := mx_mend1 ho hT hW hL32 ht hA hA32 hp hb hTl hi hi32 hj hj32 hpi hpj (Or.inr rfl) (Or.inr ⟨rfl, hws0⟩) hr
  have hpA := TX_pg ho hT hA32
  rw [hp] at hpA
  have hpA : PgX X A 2 la (a ++ e :: b) := hpA
  have hgi := TX_pg ho hT hi32
  rw [hpi] at hgi
  have hgi : PgX X i 2 ll le := hgi
  have hgj := TX_pg ho hT hj32
  rw [hpj] at hgj
  have hgj : PgX X j 2 lr re := hgj
  have hzA := hpA.2.2.1
  have he := EsOk_mid hpA.2.1
  have e8 : szs (a ++ e :: b) = szs a + (e.1.length + 2 + szs b) := by rw [szs_app, szs_cons]
  have e9 : szs (a ++ (v.1, e.2) :: b) = szs a + (v.1.length + 2 + szs b) := by rw [szs_app, szs_cons]
  obtain ⟨X2, s1, s2, s3⟩ := mx_setI (r := ((hf ws : Nat) : Int)) (by rw [hws] at g1; exact g1) (by rw [← hws]; exact g3) (by rw [hh])
  have hF2 := Fru_tr g2 (Fu_Fru s3)
  have hsl := s2.2.2.1
  have pre : f_X8_mends r X = cLt (64) ((((3 + szs (a ++ e :: b) : Nat) : Int) - (e.1.length : Int)) + (v.1.length : Int)) (some (X2, 0)) (bd (f_X8_at (i : Int) (2) X2) (fun C322 r322 => (bd (f_X8_at (j : Int) (2) C322) (fun C329 r329 => (bd (f_X8_share (i : Int) (j : Int) 2 (r322) (r329) C329) (fun C332 _ => (bd (f_X8_comeOut (A : Int) (up C332 95 6 (0))) (fun C342 _ => (ix (a.length : Int) 48 (bd (f_X8_goesOut (a.length : Int) C342) (fun C357 _ => (bd (f_X8_comesIn (a.length : Int) 0 (C357 95 10) (C342 (99) (a.length : Int).toNat) C357) (fun C373 _ => (bd (f_X8_at (A : Int) (2) C373) (fun C382 r382 => (bd (f_X8_goBack (A : Int) (2) (r382) (0) (C382 95 6) C382) (fun C390 _ => (some ((up C390 95 5 ((C390 95 5) + 1)), 0))))))))))))))))))) := by
    rw [g5, tLt (by omega)]
    unfold mShare
    rw [mx_half g1 g3 (by omega), bd_some, s1, bd_some, mx_used (Fru_PgX hpA hF2) rfl (by omega), bd_some, mx_len (Fru_PgX hpA hF2) rfl rfl, bd_some, s2.1]
  rw [pre]
  by_cases hb2 : 61 < szs (a ++ (v.1, e.2) :: b)
  · rw [tLt (by omega)]
    refine ⟨X2, rfl, Fru_Fx hF2, ?_, ?_, Or.inl ⟨hb2, Fru_TX hT hF2, ?_⟩⟩
    · exact hF2 _ _ (by omega) (by omega) (by omega) (by omega) (by omega)
    · exact hF2 _ _ (by omega) (by omega) (by omega) (by omega) (by omega)
    · exact hF2 _ _ (by omega) (by omega) (by omega) (by omega) (by omega)
  · have oks := g1.2.2
    rw [hws] at oks
    have oks1 := EsOk_app.mp oks
    have oks2 := EsOk_cons.mp oks1.2
    obtain ⟨X3, t1, t2, t3, t4, t5, t6, t7⟩ := mx_shareI (f := ll) (r5 := lr) (Fru_TX hT hF2) (Fu_RowX s3 g1) hws hh g3 (by omega) hi32 hj32 (r1 := (i : Int)) (r2 := (j : Int)) rfl rfl hx hy
    have ho2 : TOk (uP (uP P i (2, ll, x)) j (2, v.2, y)) := TOk_u (TOk_u ho ⟨oks1.1, hx, by show (0 : Int) ≤ 2 ∧ (2 : Int) ≤ 2; omega, hgi.2.2.2.2.1⟩) ⟨oks2.2, hy, by show (0 : Int) ≤ 2 ∧ (2 : Int) ≤ 2; omega, oks2.1.2.2.2⟩
    obtain ⟨X4, a1, a2, a3, a4, a5, a6⟩ := mx_above ho2 t2 hA32 (by rw [uP_o hjA.symm, uP_o hiA.symm]; exact hp) t3 oks2.1.1 (by omega)
    rw [fLt (by omega), mx_2 (Fru_PgX hgi hF2) rfl, bd_some, mx_2 (Fru_PgX hgj hF2) rfl, bd_some, t1, bd_some]
    have hF3 : Fx X X3 := Fx_tr (Fru_Fx hF2) t4
    refine ⟨X4, a1, Fx_tr hF3 a3, ?_, ?_, Or.inr ⟨by omega, ?_, ?_⟩⟩
    · rw [a4, t5]; exact hF2 _ _ (by omega) (by omega) (by omega) (by omega) (by omega)
    · rw [a5, t6]; exact hF2 _ _ (by omega) (by omega) (by omega) (by omega) (by omega)
    · rw [uP_comm hjA, uP_comm hiA] at a2
      exact a2
    · rw [a6, t7, hF2 _ _ (by omega) (by omega) (by omega) (by omega) (by omega)]
end MN
end
section
/-! THE TREE as rows of pages, level by level. -/
def exp (P : Nat → Pg) (V : List Ent) : List Ent := V.flatMap (fun e => (e.1, (P e.2.toNat).2.1) :: (P e.2.toNat).2.2)
def lfs (P : Nat → Pg) (V : List Ent) : List Ent := V.flatMap (fun e => (e.1, 0) :: (P e.2.toNat).2.2.map (fun k => (k.1, 1)))
def lt2 (a b : Ent) : Prop := cmp a.1 b.1 < 0 ∨ (cmp a.1 b.1 = 0 ∧ a.2 < b.2)
def nxx : List Ent → Int → Int
  | [], x => x
  | e :: _, _ => e.2 + 1
def LkTo (P : Nat → Pg) : List Ent → Int → Prop
  | [], _ => True
  | e :: r, x => (P e.2.toNat).2.1 = nxx r x ∧ LkTo P r x
def OnL (P : Nat → Pg) (L : Nat) (lvl : Nat → Nat) (n : Nat) (e : Ent) : Prop := ∃ i : Nat, e.2 = (i : Int) ∧ i < 32 ∧ lvl i = n ∧ (P i).1 = (if n + 1 = L then 1 else 2)
def Core (P : Nat → Pg) (L : Nat) (V : Nat → List Ent) (lvl : Nat → Nat) : Prop := TOk P ∧ (∀ n, n < L → ∀ e ∈ V n, OnL P L lvl n e) ∧ (∀ n, n < L → ((V n).map Prod.snd).Nodup) ∧ (∀ i : Nat, i < 32 → (∀ n, n < L → ∀ e ∈ V n, e.2 ≠ (i : Int)) → P i = (0, 0, [])) ∧ LkTo P (V (L - 1)) 0 ∧ (lfs P (V (L - 1))).Pairwise lt2
def uV (V : Nat → List Ent) (t : Nat) (r : List Ent) : Nat → List Ent := fun n => if n = t then r else V n
def Good (P : Nat → Pg) (root L : Nat) (V : Nat → List Ent) (lvl : Nat → Nat) : Prop := Core P L V lvl ∧ V 0 = [([], (root : Int))] ∧ (∀ n, n + 1 < L → V (n + 1) = exp P (V n)) ∧ 1 ≤ L ∧ L ≤ 32 ∧ root < 32 ∧ (1 < L → (P root).2.2 ≠ [])
section GD
variable {P P' : Nat → Pg} {L n t i j q root : Nat} {V V' : Nat → List Ent} {lvl lvl' : Nat → Nat} {A B R S : List Ent} {e f u v : Ent} {s w : List Int} {r : Int}
theorem uV_s : uV V t R t = R := by unfold uV; rw [if_pos rfl]
theorem uV_o (h : n ≠ t) : uV V t R n = V n := by unfold uV; rw [if_neg h]
theorem exp_app : exp P (A ++ B) = exp P A ++ exp P B := by unfold exp; exact List.flatMap_append
theorem exp_cons : exp P (e :: B) = (e.1, (P e.2.toNat).2.1) :: ((P e.2.toNat).2.2 ++ exp P B) := rfl
theorem exp_nil : exp P [] = [] := rfl
theorem lfs_app : lfs P (A ++ B) = lfs P A ++ lfs P B := by unfold lfs; exact List.flatMap_append
theorem lfs_cons : lfs P (e :: B) = (e.1, 0) :: ((P e.2.toNat).2.2.map (fun k => (k.1, 1)) ++ lfs P B) := rfl
theorem exp_c (h : ∀ e ∈ R, P' e.2.toNat = P e.2.toNat) : exp P' R = exp P R := by
  induction R with
  | nil => rfl
  | cons e r ih => rw [exp_cons, exp_cons, h e (List.mem_cons_self ..), ih (fun x hx => h x (List.mem_cons_of_mem _ hx))]
theorem lfs_c (h : ∀ e ∈ R, P' e.2.toNat = P e.2.toNat) : lfs P' R = lfs P R := by
  induction R with
  | nil => rfl
  | cons e r ih => rw [lfs_cons, lfs_cons, h e (List.mem_cons_self ..), ih (fun x hx => h x (List.mem_cons_of_mem _ hx))]
theorem LkTo_c (h : ∀ e ∈ R, P' e.2.toNat = P e.2.toNat) : LkTo P' R r ↔ LkTo P R r := by
  induction R with
  | nil => exact Iff.rfl
  | cons e r ih =>
    unfold LkTo
    rw [h e (List.mem_cons_self ..), ih (fun x hx => h x (List.mem_cons_of_mem _ hx))]
theorem nxx_app : nxx (A ++ B) r = nxx A (nxx B r) := by cases A <;> rfl
theorem LkTo_cons : LkTo P (e :: A) r ↔ (P e.2.toNat).2.1 = nxx A r ∧ LkTo P A r := Iff.rfl
theorem LkTo_app : LkTo P (A ++ B) r ↔ LkTo P A (nxx B r) ∧ LkTo P B r := by
  induction A with
  | nil => simp [LkTo]
  | cons e a ih => rw [List.cons_append, LkTo_cons, LkTo_cons, ih, nxx_app, and_assoc]
theorem lt2_tr {a b c : Ent} (h1 : lt2 a b) (h2 : lt2 b c) : lt2 a c := by
  unfold lt2 at *
  rcases h1 with h1 | ⟨h1, h1'⟩
  · rcases h2 with h2 | ⟨h2, h2'⟩
    · exact Or.inl (cmp_trans _ _ _ h1 h2)
    · rw [← (cmp_eq _ _).mp h2]; exact Or.inl h1
  · rw [(cmp_eq _ _).mp h1]
    rcases h2 with h2 | ⟨h2, h2'⟩
    · exact Or.inl h2
    · exact Or.inr ⟨h2, by omega⟩
/-- one more comes into a row that rises -/
theorem pw_ins {m : Ent} (h : (A ++ B).Pairwise lt2) (h1 : ∀ x, A.getLast? = some x → lt2 x m) (h2 : ∀ x, B.head? = some x → lt2 m x) : (A ++ m :: B).Pairwise lt2 := by
  rw [List.pairwise_append] at h ⊢
  obtain ⟨ha, hb, hab⟩ := h
  have ham : ∀ x ∈ A, lt2 x m := by
    intro x hx
    have hne : A ≠ [] := List.ne_nil_of_mem hx
    have hl := List.dropLast_concat_getLast hne
    have hm := h1 (A.getLast hne) (List.getLast?_eq_getLast hne)
    rw [← hl] at hx ha
    rcases List.mem_append.mp hx with hx | hx
    · exact lt2_tr ((List.pairwise_append.mp ha).2.2 x hx _ (List.mem_singleton.mpr rfl)) hm
    · rw [List.mem_singleton.mp hx]; exact hm
  have hmb : ∀ y ∈ B, lt2 m y := by
    intro y hy
    cases B with
    | nil => cases hy
    | cons b r =>
      have hb0 := h2 b rfl
      rcases List.mem_cons.mp hy with hy | hy
      · rw [hy]; exact hb0
      · exact lt2_tr hb0 ((List.pairwise_cons.mp hb).1 y hy)
  refine ⟨ha, List.pairwise_cons.mpr ⟨hmb, hb⟩, ?_⟩
  intro x hx y hy
  rcases List.mem_cons.mp hy with hy | hy
  · rw [hy]; exact ham x hx
  · exact hab x hx y hy
theorem nd_ins (h : ((A ++ B).map Prod.snd).Nodup) (hf : ∀ x ∈ A ++ B, x.2 ≠ f.2) : ((A ++ f :: B).map Prod.snd).Nodup := by
  have hp : (A ++ f :: B).Perm (f :: (A ++ B)) := List.perm_middle
  rw [(hp.map Prod.snd).nodup_iff, List.map_cons, List.nodup_cons]
  refine ⟨?_, h⟩
  intro hm
  obtain ⟨x, hx, hx2⟩ := List.mem_map.mp hm
  exact hf x hx hx2
theorem nd_mid (h : ((A ++ e :: B).map Prod.snd).Nodup) : ∀ x ∈ A ++ B, x.2 ≠ e.2 := by
  have hp : (A ++ e :: B).Perm (e :: (A ++ B)) := List.perm_middle
  rw [(hp.map Prod.snd).nodup_iff, List.map_cons, List.nodup_cons] at h
  intro x hx hx2
  exact h.1 (List.mem_map.mpr ⟨x, hx, hx2⟩)
theorem nd_sub (h : ((A ++ e :: B).map Prod.snd).Nodup) : ((A ++ B).map Prod.snd).Nodup := by
  have hp : (A ++ e :: B).Perm (e :: (A ++ B)) := List.perm_middle
  rw [(hp.map Prod.snd).nodup_iff, List.map_cons, List.nodup_cons] at h
  exact h.2
theorem Core_mk (h : Core P L V lvl) (ht : t < L) (ho : TOk P') (h1 : ∀ n, n < L → n ≠ t → V' n = V n) (h2 : ∀ n, n < L → n ≠ t → ∀ e ∈ V n, ∀ i : Nat, e.2 = (i : Int) → i < 32 → lvl i = n → lvl' i = n ∧ (P' i).1 = (P i).1) (h3 : ∀ e ∈ V' t, OnL P' L lvl' t e) (h4 : ((V' t).map Prod.snd).Nodup) (h5 : ∀ i : Nat, i < 32 → (∀ n, n < L → ∀ e ∈ V' n, e.2 ≠ (i : Int)) → P' i = (0, 0, [])) (h6 : LkTo P' (V' (L - 1)) 0) (h7 : (lfs P' (V' (L - 1))).Pairwise lt2) : Core P' L V' lvl' := by
  refine ⟨ho, ?_, ?_, h5, h6, h7⟩
  · intro n hn e he
    by_cases hnt : n = t
    · subst hnt; exact h3 e he
    · rw [h1 n hn hnt] at he
      obtain ⟨i, q1, q2, q3, q4⟩ := h.2.1 n hn e he
      obtain ⟨p1, p2⟩ := h2 n hn hnt e he i q1 q2 q3
      exact ⟨i, q1, q2, p1, by rw [p2]; exact q4⟩
  · intro n hn
    by_cases hnt : n = t
    · subst hnt; exact h4
    · rw [h1 n hn hnt]; exact h.2.2.1 n hn
/-- pages of different levels are different -/
theorem Core_ne (h : Core P L V lvl) {m : Nat} (hn : n < L) (hm : m < L) (hnm : n ≠ m) (he : e ∈ V n) (hf : f ∈ V m) : e.2 ≠ f.2 := by
  obtain ⟨i, q1, q2, q3, q4⟩ := h.2.1 n hn e he
  obtain ⟨j, p1, p2, p3, p4⟩ := h.2.1 m hm f hf
  intro heq
  have : i = j := by omega
  subst this
  omega
theorem Core_sort (h : Core P L V lvl) (hn : n < L) (he : (s, (i : Int)) ∈ V n) : i < 32 ∧ lvl i = n ∧ (P i).1 = (if n + 1 = L then 1 else 2) := by
  obtain ⟨j, q1, q2, q3, q4⟩ := h.2.1 n hn _ he
  have : j = i := by have : (i : Int) = (j : Int) := q1; omega
  subst this
  exact ⟨q2, q3, q4⟩
/-- a free page is on no level -/
theorem Core_free (h : Core P L V lvl) (hq : (P q).1 = 0) (hn : n < L) (he : e ∈ V n) : e.2 ≠ (q : Int) := by
  obtain ⟨i, q1, q2, q3, q4⟩ := h.2.1 n hn e he
  intro heq
  have : i = q := by omega
  subst this
  rw [hq] at q4
  split at q4 <;> omega
/-! the way of a key, as rows -/
def Hgt (w : List Int) : List Ent → Prop
  | [] => True
  | e :: _ => cmp w e.1 < 0
def stp (P : Nat → Pg) (w : List Int) (c : Nat × List Ent × List Int × List Ent) : Nat × List Ent × List Int × List Ent := (((((c.2.2.1, (P c.1).2.1) :: (P c.1).2.2.take (tn w (P c.1))).getLastD ([], 0)).2.toNat), exp P c.2.1 ++ ((c.2.2.1, (P c.1).2.1) :: (P c.1).2.2.take (tn w (P c.1))).dropLast, (((c.2.2.1, (P c.1).2.1) :: (P c.1).2.2.take (tn w (P c.1))).getLastD ([], 0)).1, (P c.1).2.2.drop (tn w (P c.1)) ++ exp P c.2.2.2)
def pthN (P : Nat → Pg) (w : List Int) (root : Nat) : Nat → Nat × List Ent × List Int × List Ent
  | 0 => (root, [], [], [])
  | n + 1 => stp P w (pthN P w root n)
def Pth (P : Nat → Pg) (V : Nat → List Ent) (W T : Nat → Nat) (As Bs : Nat → List Ent) (ss : Nat → List Int) (t : Nat) : Prop := (∀ n, n ≤ t → V n = As n ++ (ss n, (W n : Int)) :: Bs n) ∧ (∀ n, n < t → ∃ a b pre, (P (W n)).2.2 = a ++ b ∧ a.length = T n ∧ (ss n, (P (W n)).2.1) :: a = pre ++ [(ss (n + 1), (W (n + 1) : Int))] ∧ As (n + 1) = exp P (As n) ++ pre ∧ Bs (n + 1) = b ++ exp P (Bs n))
theorem cb_spec (c : Int) (w : List Int) : ∀ es : List Ent, (∀ e ∈ es.take (cb c w es), cmp e.1 w < c) ∧ (∀ e, (es.drop (cb c w es)).head? = some e → ¬ cmp e.1 w < c)
  | [] => by simp [cb]
  | e :: r => by
    have ih := cb_spec c w r
    unfold cb
    by_cases h : cmp e.1 w < c
    · rw [if_pos h, List.take_succ_cons, List.drop_succ_cons]
      refine ⟨?_, ih.2⟩
      intro x hx
      rcases List.mem_cons.mp hx with hx | hx
      · rw [hx]; exact h
      · exact ih.1 x hx
    · rw [if_neg h]
      refine ⟨by simp, ?_⟩
      intro x hx
      simp at hx
      rw [← hx]; exact h
theorem snoc {a : List Ent} (h : a ≠ []) : ∃ b e, a = b ++ [e] := ⟨a.dropLast, a.getLast h, (List.dropLast_concat_getLast h).symm⟩
theorem lastD_eq {a : List Ent} {x : Ent} : (x :: a) = (x :: a).dropLast ++ [(x :: a).getLastD ([], 0)] := by
  have h : x :: a ≠ [] := by simp
  have := List.dropLast_concat_getLast h
  rw [List.getLastD_eq_getLast?, List.getLast?_eq_getLast h]
  exact this.symm
theorem chd_last {l : Int} {a b : List Ent} {s' : Int} : chd (s', l, a ++ b) a.length = (((s, l) :: a).getLastD ([], 0)).2 := by
  unfold chd
  by_cases h : a = []
  · subst h; rfl
  · obtain ⟨a', e, rfl⟩ := snoc h
    have h2 : ((s, l) :: (a' ++ [e])).getLast? = some e := by rw [← List.cons_append]; exact List.getLast?_concat
    rw [List.getLastD_eq_getLast?, h2]
    simp
theorem exp_head {x : Ent} (h : (exp P B).head? = some x) : ∃ y, B.head? = some y ∧ y.1 = x.1 := by
  cases B with
  | nil => simp [exp] at h
  | cons b r =>
    rw [exp_cons] at h
    simp at h
    exact ⟨b, rfl, by rw [← h]⟩
theorem Hgt_iff : Hgt w B ↔ ∀ x, B.head? = some x → cmp w x.1 < 0 := by
  cases B with
  | nil => simp [Hgt]
  | cons b r => simp [Hgt]
theorem stp_ok {N : List Ent} (hi : ∀ e ∈ N, 0 ≤ e.2) (hN : N = exp P (A ++ (s, (i : Int)) :: B)) (h1 : cmp s w ≤ 0) (h2 : Hgt w B) : N = (stp P w (i, A, s, B)).2.1 ++ ((stp P w (i, A, s, B)).2.2.1, ((stp P w (i, A, s, B)).1 : Int)) :: (stp P w (i, A, s, B)).2.2.2 ∧ cmp (stp P w (i, A, s, B)).2.2.1 w ≤ 0 ∧ Hgt w (stp P w (i, A, s, B)).2.2.2 ∧ (s, (P i).2.1) :: (P i).2.2.take (tn w (P i)) = ((s, (P i).2.1) :: (P i).2.2.take (tn w (P i))).dropLast ++ [((stp P w (i, A, s, B)).2.2.1, ((stp P w (i, A, s, B)).1 : Int))] ∧ chd (P i) (tn w (P i)) = ((stp P w (i, A, s, B)).1 : Int) := by
  have cs := cb_spec 1 w (P i).2.2
  have hl := lastD_eq (a := (P i).2.2.take (tn w (P i))) (x := (s, (P i).2.1))
  have hlen : ((P i).2.2.take (tn w (P i))).length = tn w (P i) := by
    rw [List.length_take]
    have := cb_le 1 w (P i).2.2
    unfold tn
    omega
  have hch := chd_last (s := s) (s' := (P i).1) (l := (P i).2.1) (a := (P i).2.2.take (tn w (P i))) (b := (P i).2.2.drop (tn w (P i)))
  rw [hlen, List.take_append_drop] at hch
  have hN2 : N = (exp P A ++ ((s, (P i).2.1) :: (P i).2.2.take (tn w (P i))).dropLast) ++ ((s, (P i).2.1) :: (P i).2.2.take (tn w (P i))).getLastD ([], 0) :: ((P i).2.2.drop (tn w (P i)) ++ exp P B) := by
    rw [hN, exp_app, exp_cons]
    show exp P A ++ (s, (P i).2.1) :: ((P i).2.2 ++ exp P B) = _
    conv => lhs; rw [← List.take_append_drop (tn w (P i)) (P i).2.2]
    rw [List.append_assoc, ← List.cons_append, hl]
    simp
  have hmem : ((s, (P i).2.1) :: (P i).2.2.take (tn w (P i))).getLastD ([], 0) ∈ N := by rw [hN2]; simp
  have hmem2 : ((s, (P i).2.1) :: (P i).2.2.take (tn w (P i))).getLastD ([], 0) ∈ (s, (P i).2.1) :: (P i).2.2.take (tn w (P i)) := by
    have hz : ((s, (P i).2.1) :: (P i).2.2.take (tn w (P i))).getLastD ([], 0) ∈ ((s, (P i).2.1) :: (P i).2.2.take (tn w (P i))).dropLast ++ [((s, (P i).2.1) :: (P i).2.2.take (tn w (P i))).getLastD ([], 0)] := List.mem_append_right _ (List.mem_singleton.mpr rfl)
    rw [← hl] at hz
    exact hz
  have hnn := hi _ hmem
  unfold stp
  dsimp only
  generalize ((s, (P i).2.1) :: (P i).2.2.take (tn w (P i))).getLastD ([], 0) = x at *
  have hx : (x.1, ((x.2.toNat : Nat) : Int)) = x := by
    rw [show ((x.2.toNat : Nat) : Int) = x.2 by omega]
  rw [hx]
  refine ⟨hN2, ?_, ?_, hl, ?_⟩
  · rcases List.mem_cons.mp hmem2 with hm | hm
    · rw [hm]; exact h1
    · have := cs.1 x hm; omega
  · rw [Hgt_iff]
    intro y hy
    rw [List.head?_append] at hy
    cases hd : ((P i).2.2.drop (tn w (P i))).head? with
    | none =>
      rw [hd] at hy
      simp at hy
      obtain ⟨z, z1, z2⟩ := exp_head hy
      rw [← z2]
      exact Hgt_iff.mp h2 z z1
    | some d =>
      rw [hd] at hy
      simp at hy
      rw [← hy]
      have := cs.2 d hd
      have := cmp_anti w d.1
      have := cmp_rng d.1 w
      omega
  · rw [show ((x.2.toNat : Nat) : Int) = x.2 by omega]
    exact hch
/-- the way of a key through a good tree -/
theorem Good_way (h : Good P root L V lvl) (w : List Int) : ∃ W T As Bs ss, Down P w root L W T ∧ Pth P V W T As Bs ss (L - 1) ∧ (∀ n, n < L → cmp (ss n) w ≤ 0 ∧ Hgt w (Bs n)) := by
  obtain ⟨hc, h0, h1, hL, hL32, hr, _⟩ := h
  have nn : ∀ n, n < L → ∀ e ∈ V n, 0 ≤ e.2 := by
    intro n hn e he
    obtain ⟨i, q1, _⟩ := hc.2.1 n hn e he
    omega
  have key : ∀ n, n < L → V n = (pthN P w root n).2.1 ++ ((pthN P w root n).2.2.1, ((pthN P w root n).1 : Int)) :: (pthN P w root n).2.2.2 ∧ cmp (pthN P w root n).2.2.1 w ≤ 0 ∧ Hgt w (pthN P w root n).2.2.2 := by
    intro n
    induction n with
    | zero =>
      intro _
      exact ⟨h0, cmp_nil_le w, trivial⟩
    | succ n ih =>
      intro hn
      obtain ⟨i1, i2, i3⟩ := ih (by omega)
      obtain ⟨j1, j2, j3, _⟩ := stp_ok (N := V (n + 1)) (nn (n + 1) hn) (by rw [h1 n hn, i1]) i2 i3
      exact ⟨j1, j2, j3⟩
  refine ⟨fun n => (pthN P w root n).1, fun n => tn w (P (pthN P w root n).1), fun n => (pthN P w root n).2.1, fun n => (pthN P w root n).2.2.2, fun n => (pthN P w root n).2.2.1, ⟨rfl, ?_, ?_⟩, ⟨?_, ?_⟩, ?_⟩
  · intro t ht
    exact (Core_sort (s := (pthN P w root t).2.2.1) hc ht (by rw [(key t ht).1]; simp)).1
  · intro t ht
    refine ⟨rfl, ?_⟩
    obtain ⟨i1, i2, i3⟩ := key t (by omega)
    exact (stp_ok (N := V (t + 1)) (nn (t + 1) ht) (by rw [h1 t ht, i1]) i2 i3).2.2.2.2
  · intro n hn
    exact (key n (by omega)).1
  · intro n hn
    obtain ⟨i1, i2, i3⟩ := key n (by omega)
    have st := stp_ok (N := V (n + 1)) (nn (n + 1) (by omega)) (by rw [h1 n (by omega), i1]) i2 i3
    refine ⟨(P (pthN P w root n).1).2.2.take (tn w (P (pthN P w root n).1)), (P (pthN P w root n).1).2.2.drop (tn w (P (pthN P w root n).1)), (((pthN P w root n).2.2.1, (P (pthN P w root n).1).2.1) :: (P (pthN P w root n).1).2.2.take (tn w (P (pthN P w root n).1))).dropLast, (List.take_append_drop _ _).symm, ?_, st.2.2.2.1, rfl, rfl⟩
    rw [List.length_take]
    have := cb_le 1 w (P (pthN P w root n).1).2.2
    show min (cb 1 w (P (pthN P w root n).1).2.2) _ = cb 1 w (P (pthN P w root n).1).2.2
    omega
  · intro n hn
    exact (key n hn).2
end GD
end
section
/-! THE TREE: what changes keep. -/
section CO
variable {P P' : Nat → Pg} {L n t i j q root : Nat} {V V' : Nat → List Ent} {lvl lvl' : Nat → Nat} {A B R S a b x y es : List Ent} {e f u v : Ent} {s s2 w : List Int} {r l l1 l2 z : Int} {p : Pg}
theorem nS_u (hi : i < n) : nS P 0 n ≤ nS (uP P i p) 0 n + (if (P i).1 = 0 then 1 else 0) := by
  have key : ∀ m, nS P 0 m ≤ nS (uP P i p) 0 m + (if i < m ∧ (P i).1 = 0 then 1 else 0) := by
    intro m
    induction m with
    | zero => simp [nS]
    | succ m ih =>
      unfold nS
      by_cases h : m = i
      · subst h
        rw [if_neg (by omega)] at ih
        rw [uP_s]
        by_cases h0 : (P m).1 = 0
        · rw [if_pos h0, if_pos (show m < m + 1 ∧ (P m).1 = 0 from ⟨by omega, h0⟩)]
          omega
        · rw [if_neg h0]
          omega
      · rw [uP_o h]
        by_cases h0 : i < m ∧ (P i).1 = 0
        · rw [if_pos h0] at ih
          rw [if_pos (show i < m + 1 ∧ (P i).1 = 0 from ⟨by omega, h0.2⟩)]
          omega
        · rw [if_neg h0] at ih
          omega
  have := key n
  by_cases h0 : (P i).1 = 0
  · rw [if_pos ⟨hi, h0⟩] at this
    rw [if_pos h0]; exact this
  · rw [if_neg (fun q => h0 q.2)] at this
    rw [if_neg h0]; exact this
theorem lf_ex (h : 0 < nS P 0 32) : ∃ q, IsLF P q := by
  have key : ∀ m, m ≤ 32 → (∃ q, q < m ∧ (P q).1 = 0 ∧ ∀ i, i < q → (P i).1 ≠ 0) ∨ (nS P 0 m = 0 ∧ ∀ i, i < m → (P i).1 ≠ 0) := by
    intro m
    induction m with
    | zero => intro _; exact Or.inr ⟨rfl, fun i hi => by omega⟩
    | succ m ih =>
      intro hm
      rcases ih (by omega) with ⟨q, q1, q2, q3⟩ | ⟨h1, h2⟩
      · exact Or.inl ⟨q, by omega, q2, q3⟩
      · by_cases h0 : (P m).1 = 0
        · exact Or.inl ⟨m, by omega, h0, h2⟩
        · refine Or.inr ⟨?_, ?_⟩
          · unfold nS
            rw [h1, if_neg h0]
          · intro i hi
            by_cases him : i = m
            · subst him; exact h0
            · exact h2 i (by omega)
  rcases key 32 (by omega) with ⟨q, q1, q2, q3⟩ | ⟨h1, h2⟩
  · exact ⟨q, q1, q2, q3⟩
  · omega
/-- other entries of an inner page -/
theorem core_in (h : Core P L V lvl) (ht : t + 1 < L) (hv : V t = A ++ (s, (i : Int)) :: B) (hp : POk (2, l, es)) : Core (uP P i (2, l, es)) L V lvl := by
  have hi := Core_sort h (n := t) (s := s) (i := i) (by omega) (by rw [hv]; simp)
  have hne : ∀ n, n < L → n ≠ t → ∀ e ∈ V n, e.2.toNat ≠ i := by
    intro n hn hnt e he
    obtain ⟨k, q1, q2, q3, q4⟩ := h.2.1 n hn e he
    intro heq
    have : k = i := by omega
    subst this
    omega
  refine Core_mk (t := t) h (by omega) (TOk_u h.1 hp) (fun _ _ _ => rfl) ?_ ?_ (h.2.2.1 t (by omega)) ?_ ?_ ?_
  · intro n hn hnt e he k hk hk32 hlk
    have : k ≠ i := by have := hne n hn hnt e he; omega
    rw [uP_o this]
    exact ⟨hlk, rfl⟩
  · intro e he
    obtain ⟨k, q1, q2, q3, q4⟩ := h.2.1 t (by omega) e he
    refine ⟨k, q1, q2, q3, ?_⟩
    by_cases hki : k = i
    · subst hki; rw [uP_s, if_neg (by omega)]
    · rw [uP_o hki]; exact q4
  · intro k hk hno
    have : k ≠ i := by
      intro heq
      subst heq
      exact hno t (by omega) (s, (k : Int)) (by rw [hv]; simp) rfl
    rw [uP_o this]
    exact h.2.2.2.1 k hk hno
  · rw [LkTo_c (P := P) (fun e he => uP_o (hne (L - 1) (by omega) (by omega) e he))]
    exact h.2.2.2.2.1
  · rw [lfs_c (P := P) (fun e he => uP_o (hne (L - 1) (by omega) (by omega) e he))]
    exact h.2.2.2.2.2
/-- an inner page is split -/
theorem core_spI (h : Core P L V lvl) (ht : t + 1 < L) (hv : V t = A ++ (s, (i : Int)) :: B) (hq : (P q).1 = 0) (hq32 : q < 32) (hp : POk (2, l1, x)) (hp2 : POk (2, l2, y)) : Core (uP (uP P i (2, l1, x)) q (2, l2, y)) L (uV V t (A ++ (s, (i : Int)) :: (s2, (q : Int)) :: B)) (fun k => if k = q then t else lvl k) := by
  have hi := Core_sort h (n := t) (s := s) (i := i) (by omega) (by rw [hv]; simp)
  have hiq : i ≠ q := by
    intro heq
    subst heq
    rw [hq, if_neg (by omega)] at hi
    omega
  have hne : ∀ n, n < L → n ≠ t → ∀ e ∈ V n, e.2.toNat ≠ i := by
    intro n hn hnt e he
    obtain ⟨k, q1, q2, q3, q4⟩ := h.2.1 n hn e he
    intro heq
    have : k = i := by omega
    subst this
    omega
  have hneq : ∀ n, n < L → ∀ e ∈ V n, e.2.toNat ≠ q := by
    intro n hn e he
    have := Core_free h hq hn he
    obtain ⟨k, q1, q2, q3, q4⟩ := h.2.1 n hn e he
    omega
  have hlast : uV V t (A ++ (s, (i : Int)) :: (s2, (q : Int)) :: B) (L - 1) = V (L - 1) := uV_o (by omega)
  refine Core_mk (t := t) h (by omega) (TOk_u (TOk_u h.1 hp) hp2) (fun n _ hnt => uV_o hnt) ?_ ?_ ?_ ?_ ?_ ?_
  · intro n hn hnt e he k hk hk32 hlk
    have k1 : k ≠ i := by have := hne n hn hnt e he; omega
    have k2 : k ≠ q := by have := hneq n hn e he; omega
    rw [uP_o k2, uP_o k1, if_neg k2]
    exact ⟨hlk, rfl⟩
  · intro e he
    rw [uV_s] at he
    have hcase : e = (s2, (q : Int)) ∨ e ∈ V t := by
      rw [hv]
      simp at he ⊢
      rcases he with he | he | he | he
      · exact Or.inr (Or.inl he)
      · exact Or.inr (Or.inr (Or.inl he))
      · exact Or.inl he
      · exact Or.inr (Or.inr (Or.inr he))
    rcases hcase with he | he
    · refine ⟨q, by rw [he], hq32, if_pos rfl, ?_⟩
      rw [uP_s, if_neg (by omega)]
    · obtain ⟨k, q1, q2, q3, q4⟩ := h.2.1 t (by omega) e he
      have k2 : k ≠ q := by have := hneq t (by omega) e he; omega
      refine ⟨k, q1, q2, (if_neg k2).trans q3, ?_⟩
      rw [uP_o k2]
      by_cases hki : k = i
      · subst hki; rw [uP_s, if_neg (by omega)]
      · rw [uP_o hki]; exact q4
  · rw [uV_s]
    have := nd_ins (A := A ++ [(s, (i : Int))]) (B := B) (f := (s2, (q : Int))) (by rw [List.append_assoc]; have := h.2.2.1 t (by omega); rw [hv] at this; exact this) (by
      intro x hx
      have hx2 : x ∈ V t := by rw [hv]; simp at hx ⊢; exact hx
      exact Core_free h hq (by omega) hx2)
    rw [List.append_assoc] at this
    exact this
  · intro k hk hno
    have hno2 : ∀ e ∈ A ++ (s, (i : Int)) :: (s2, (q : Int)) :: B, e.2 ≠ (k : Int) := by
      have := hno t (by omega)
      rw [uV_s] at this
      exact this
    have k1 : k ≠ i := by
      intro heq; subst heq
      exact hno2 (s, (k : Int)) (by simp) rfl
    have k2 : k ≠ q := by
      intro heq; subst heq
      exact hno2 (s2, (k : Int)) (by simp) rfl
    rw [uP_o k2, uP_o k1]
    refine h.2.2.2.1 k hk ?_
    intro n hn e he
    by_cases hnt : n = t
    · subst hnt
      rw [hv] at he
      refine hno2 e ?_
      simp at he ⊢
      rcases he with he | he | he
      · exact Or.inl he
      · exact Or.inr (Or.inl he)
      · exact Or.inr (Or.inr (Or.inr he))
    · have := hno n hn
      rw [uV_o hnt] at this
      exact this e he
  · rw [hlast, LkTo_c (P := P) (fun e he => by rw [uP_o (hneq (L - 1) (by omega) e he), uP_o (hne (L - 1) (by omega) (by omega) e he)])]
    exact h.2.2.2.2.1
  · rw [hlast, lfs_c (P := P) (fun e he => by rw [uP_o (hneq (L - 1) (by omega) e he), uP_o (hne (L - 1) (by omega) (by omega) e he)])]
    exact h.2.2.2.2.2
/-- a new root over all -/
theorem core_root (h : Core P L V lvl) (hL : 1 ≤ L) (hq : (P q).1 = 0) (hq32 : q < 32) (hp : POk (2, l, es)) : Core (uP P q (2, l, es)) (L + 1) (fun n => match n with | 0 => [([], (q : Int))] | n + 1 => V n) (fun k => if k = q then 0 else lvl k + 1) := by
  have hneq : ∀ n, n < L → ∀ e ∈ V n, e.2.toNat ≠ q := by
    intro n hn e he
    have := Core_free h hq hn he
    obtain ⟨k, q1, q2, q3, q4⟩ := h.2.1 n hn e he
    omega
  have hlast : (fun n => match n with | 0 => [([], (q : Int))] | n + 1 => V n : Nat → List Ent) (L + 1 - 1) = V (L - 1) := by
    rw [show L + 1 - 1 = (L - 1) + 1 by omega]
  refine ⟨TOk_u h.1 hp, ?_, ?_, ?_, ?_, ?_⟩
  · intro n hn e he
    cases n with
    | zero =>
      have he : e ∈ [(([] : List Int), (q : Int))] := he
      have := List.mem_singleton.mp he
      subst this
      exact ⟨q, rfl, hq32, if_pos rfl, by rw [uP_s, if_neg (by omega)]⟩
    | succ n =>
      obtain ⟨k, q1, q2, q3, q4⟩ := h.2.1 n (by omega) e he
      have k2 : k ≠ q := by have := hneq n (by omega) e he; omega
      refine ⟨k, q1, q2, (if_neg k2).trans (by rw [q3]), ?_⟩
      rw [uP_o k2, q4]
      by_cases hh : n + 1 = L
      · rw [if_pos hh, if_pos (by omega)]
      · rw [if_neg hh, if_neg (by omega)]
  · intro n hn
    cases n with
    | zero => simp
    | succ n => exact h.2.2.1 n (by omega)
  · intro k hk hno
    have k2 : k ≠ q := by
      intro heq; subst heq
      exact hno 0 (by omega) ([], (k : Int)) (by simp) rfl
    rw [uP_o k2]
    exact h.2.2.2.1 k hk (fun n hn e he => hno (n + 1) (by omega) e he)
  · rw [hlast, LkTo_c (P := P) (fun e he => uP_o (hneq (L - 1) (by omega) e he))]
    exact h.2.2.2.2.1
  · rw [hlast, lfs_c (P := P) (fun e he => uP_o (hneq (L - 1) (by omega) e he))]
    exact h.2.2.2.2.2
/-! leaves -/
def k1 (e : Ent) : Ent := (e.1, 1)
theorem lfs_mid : lfs P (A ++ (s, (i : Int)) :: B) = lfs P A ++ (s, 0) :: ((P i).2.2.map k1 ++ lfs P B) := by
  rw [lfs_app, lfs_cons]
  rfl
theorem lfs_head {x : Ent} (h : (lfs P B).head? = some x) : ∃ y, B.head? = some y ∧ x = (y.1, 0) := by
  cases B with
  | nil => simp [lfs] at h
  | cons b r =>
    rw [lfs_cons] at h
    simp at h
    exact ⟨b, rfl, h.symm⟩
/-- the rising row of all keys, with a new one -/
theorem pw_new (h : (lfs P (A ++ (s, (i : Int)) :: B)).Pairwise lt2) (hp : (P i).2.2 = a ++ b) (hs : cmp s w ≤ 0) (hB : Hgt w B) (ha : ∀ e ∈ a, cmp e.1 w < 0) (hb : ∀ e, b.head? = some e → cmp w e.1 < 0) : (lfs P A ++ (s, 0) :: ((a ++ (w, z) :: b).map k1 ++ lfs P B)).Pairwise lt2 := by
  rw [lfs_mid, hp, List.map_append] at h
  have e1 : lfs P A ++ (s, 0) :: ((a ++ (w, z) :: b).map k1 ++ lfs P B) = (lfs P A ++ (s, 0) :: a.map k1) ++ (w, 1) :: (b.map k1 ++ lfs P B) := by
    rw [List.map_append, List.map_cons]
    simp [k1]
  rw [e1]
  refine pw_ins ?_ ?_ ?_
  · simpa using h
  · intro x hx
    by_cases hae : a = []
    · subst hae
      simp at hx
      subst hx
      rcases Int.lt_or_eq_of_le hs with h1 | h1
      · exact Or.inl h1
      · exact Or.inr ⟨h1, by show (0 : Int) < 1; decide⟩
    · obtain ⟨a', f, rfl⟩ := snoc hae
      have : ((lfs P A ++ (s, 0) :: (a' ++ [f]).map k1)).getLast? = some (k1 f) := by
        rw [List.map_append]
        have : lfs P A ++ (s, 0) :: (a'.map k1 ++ [f].map k1) = (lfs P A ++ (s, 0) :: a'.map k1) ++ [k1 f] := by simp
        rw [this]
        exact List.getLast?_concat
      rw [this] at hx
      simp at hx
      subst hx
      exact Or.inl (ha f (by simp))
  · intro x hx
    cases b with
    | nil =>
      simp at hx
      obtain ⟨y, y1, y2⟩ := lfs_head hx
      rw [y2]
      exact Or.inl (Hgt_iff.mp hB y y1)
    | cons f b' =>
      simp at hx
      subst hx
      exact Or.inl (hb f rfl)
/-- .. parted by a separator -/
theorem pw_part {X Y : List Ent} (h : (X ++ ((x ++ [u]) ++ v :: y).map k1 ++ Y).Pairwise lt2) : cmp u.1 v.1 < 0 ∧ (X ++ ((x ++ [u]).map k1 ++ (sep u.1 v.1, 0) :: ((v :: y).map k1 ++ Y))).Pairwise lt2 := by
  have e0 : X ++ ((x ++ [u]) ++ v :: y).map k1 ++ Y = (X ++ (x ++ [u]).map k1) ++ ((v :: y).map k1 ++ Y) := by simp
  rw [e0] at h
  have huv : lt2 (k1 u) (k1 v) := (List.pairwise_append.mp h).2.2 (k1 u) (by simp) (k1 v) (by simp)
  have hc : cmp u.1 v.1 < 0 := by
    rcases huv with h1 | ⟨_, h1⟩
    · exact h1
    · exact absurd h1 (by show ¬ ((1 : Int) < 1); decide)
  refine ⟨hc, ?_⟩
  have e1 : X ++ ((x ++ [u]).map k1 ++ (sep u.1 v.1, 0) :: ((v :: y).map k1 ++ Y)) = (X ++ (x ++ [u]).map k1) ++ (sep u.1 v.1, 0) :: ((v :: y).map k1 ++ Y) := by simp
  rw [e1]
  refine pw_ins h ?_ ?_
  · intro t ht
    rw [List.map_append, ← List.append_assoc] at ht
    have : (X ++ x.map k1 ++ [u].map k1).getLast? = some (k1 u) := List.getLast?_concat
    rw [this] at ht
    simp at ht
    subst ht
    exact Or.inl (sep_gt u.1 v.1 hc)
  · intro t ht
    simp at ht
    subst ht
    have := sep_le u.1 v.1
    rcases Int.lt_or_eq_of_le this with h1 | h1
    · exact Or.inl h1
    · exact Or.inr ⟨h1, by show (0 : Int) < 1; decide⟩
/-- other entries of a leaf, its link as it was -/
theorem core_lf (h : Core P L V lvl) (ht : t + 1 = L) (hv : V t = A ++ (s, (i : Int)) :: B) (hl : l = (P i).2.1) (hp : POk (1, l, es)) (hpw : (lfs P A ++ (s, 0) :: (es.map k1 ++ lfs P B)).Pairwise lt2) : Core (uP P i (1, l, es)) L V lvl := by
  have hi := Core_sort h (n := t) (s := s) (i := i) (by omega) (by rw [hv]; simp)
  have hL1 : L - 1 = t := by omega
  have hne : ∀ n, n < L → n ≠ t → ∀ e ∈ V n, e.2.toNat ≠ i := by
    intro n hn hnt e he
    obtain ⟨k, q1, q2, q3, q4⟩ := h.2.1 n hn e he
    intro heq
    have : k = i := by omega
    subst this
    omega
  have hnd := h.2.2.1 t (by omega)
  rw [hv] at hnd
  have hmid := nd_mid hnd
  have hmid2 : ∀ e ∈ A ++ B, e.2.toNat ≠ i := by
    intro e he
    have h1 := hmid e he
    have h2 : e ∈ V t := by rw [hv]; simp at he ⊢; rcases he with he | he; exact Or.inl he; exact Or.inr (Or.inr he)
    obtain ⟨k, q1, _⟩ := h.2.1 t (by omega) e h2
    have h1 : e.2 ≠ (i : Int) := h1
    omega
  have cA : ∀ e ∈ A, uP P i (1, l, es) e.2.toNat = P e.2.toNat := fun e he => uP_o (hmid2 e (List.mem_append_left _ he))
  have cB : ∀ e ∈ B, uP P i (1, l, es) e.2.toNat = P e.2.toNat := fun e he => uP_o (hmid2 e (List.mem_append_right _ he))
  refine Core_mk (t := t) h (by omega) (TOk_u h.1 hp) (fun _ _ _ => rfl) ?_ ?_ (h.2.2.1 t (by omega)) ?_ ?_ ?_
  · intro n hn hnt e he k hk hk32 hlk
    have : k ≠ i := by have := hne n hn hnt e he; omega
    rw [uP_o this]
    exact ⟨hlk, rfl⟩
  · intro e he
    obtain ⟨k, q1, q2, q3, q4⟩ := h.2.1 t (by omega) e he
    refine ⟨k, q1, q2, q3, ?_⟩
    by_cases hki : k = i
    · subst hki; rw [uP_s, if_pos ht]
    · rw [uP_o hki]; exact q4
  · intro k hk hno
    have : k ≠ i := by
      intro heq
      subst heq
      exact hno t (by omega) (s, (k : Int)) (by rw [hv]; simp) rfl
    rw [uP_o this]
    exact h.2.2.2.1 k hk hno
  · rw [hL1]
    have h6 := h.2.2.2.2.1
    rw [hL1, hv, LkTo_app, LkTo_cons] at h6
    rw [hv, LkTo_app, LkTo_cons, LkTo_c cA, LkTo_c cB]
    refine ⟨h6.1, ?_, h6.2.2⟩
    show (uP P i (1, l, es) i).2.1 = _
    rw [uP_s, hl]
    exact h6.2.1
  · rw [hL1, hv, lfs_mid, uP_s, lfs_c cA, lfs_c cB]
    exact hpw
/-- a leaf is split -/
theorem core_spL (h : Core P L V lvl) (ht : t + 1 = L) (hv : V t = A ++ (s, (i : Int)) :: B) (hq : (P q).1 = 0) (hq32 : q < 32) (hp : POk (1, (q : Int) + 1, x)) (hp2 : POk (1, (P i).2.1, y)) (hpw : (lfs P A ++ (s, 0) :: (x.map k1 ++ (s2, 0) :: (y.map k1 ++ lfs P B))).Pairwise lt2) : Core (uP (uP P i (1, (q : Int) + 1, x)) q (1, (P i).2.1, y)) L (uV V t (A ++ (s, (i : Int)) :: (s2, (q : Int)) :: B)) (fun k => if k = q then t else lvl k) := by
  have hi := Core_sort h (n := t) (s := s) (i := i) (by omega) (by rw [hv]; simp)
  have hL1 : L - 1 = t := by omega
  have hiq : i ≠ q := by
    intro heq
    subst heq
    rw [hq, if_pos ht] at hi
    omega
  have hne : ∀ n, n < L → n ≠ t → ∀ e ∈ V n, e.2.toNat ≠ i := by
    intro n hn hnt e he
    obtain ⟨k, q1, q2, q3, q4⟩ := h.2.1 n hn e he
    intro heq
    have : k = i := by omega
    subst this
    omega
  have hneq : ∀ n, n < L → ∀ e ∈ V n, e.2.toNat ≠ q := by
    intro n hn e he
    have := Core_free h hq hn he
    obtain ⟨k, q1, q2, q3, q4⟩ := h.2.1 n hn e he
    omega
  have hnd := h.2.2.1 t (by omega)
  rw [hv] at hnd
  have hmid := nd_mid hnd
  have inV : ∀ e ∈ A ++ B, e ∈ V t := by
    intro e he
    rw [hv]
    simp at he ⊢
    rcases he with he | he
    · exact Or.inl he
    · exact Or.inr (Or.inr he)
  have hmid2 : ∀ e ∈ A ++ B, e.2.toNat ≠ i := by
    intro e he
    have h1 : e.2 ≠ (i : Int) := hmid e he
    obtain ⟨k, q1, _⟩ := h.2.1 t (by omega) e (inV e he)
    omega
  have cAB : ∀ e ∈ A ++ B, uP (uP P i (1, (q : Int) + 1, x)) q (1, (P i).2.1, y) e.2.toNat = P e.2.toNat := fun e he => by rw [uP_o (hneq t (by omega) e (inV e he)), uP_o (hmid2 e he)]
  have cA : ∀ e ∈ A, uP (uP P i (1, (q : Int) + 1, x)) q (1, (P i).2.1, y) e.2.toNat = P e.2.toNat := fun e he => cAB e (List.mem_append_left _ he)
  have cB : ∀ e ∈ B, uP (uP P i (1, (q : Int) + 1, x)) q (1, (P i).2.1, y) e.2.toNat = P e.2.toNat := fun e he => cAB e (List.mem_append_right _ he)
  refine Core_mk (t := t) h (by omega) (TOk_u (TOk_u h.1 hp) hp2) (fun n _ hnt => uV_o hnt) ?_ ?_ ?_ ?_ ?_ ?_
  · intro n hn hnt e he k hk hk32 hlk
    have k1 : k ≠ i := by have := hne n hn hnt e he; omega
    have k2 : k ≠ q := by have := hneq n hn e he; omega
    rw [uP_o k2, uP_o k1, if_neg k2]
    exact ⟨hlk, rfl⟩
  · intro e he
    rw [uV_s] at he
    have hcase : e = (s2, (q : Int)) ∨ e ∈ V t := by
      rw [hv]
      simp at he ⊢
      rcases he with he | he | he | he
      · exact Or.inr (Or.inl he)
      · exact Or.inr (Or.inr (Or.inl he))
      · exact Or.inl he
      · exact Or.inr (Or.inr (Or.inr he))
    rcases hcase with he | he
    · refine ⟨q, by rw [he], hq32, if_pos rfl, ?_⟩
      rw [uP_s, if_pos ht]
    · obtain ⟨k, q1, q2, q3, q4⟩ := h.2.1 t (by omega) e he
      have k2 : k ≠ q := by have := hneq t (by omega) e he; omega
      refine ⟨k, q1, q2, (if_neg k2).trans q3, ?_⟩
      rw [uP_o k2]
      by_cases hki : k = i
      · subst hki; rw [uP_s, if_pos ht]
      · rw [uP_o hki]; exact q4
  · rw [uV_s]
    have := nd_ins (A := A ++ [(s, (i : Int))]) (B := B) (f := (s2, (q : Int))) (by rw [List.append_assoc]; exact hnd) (by
      intro x hx
      have hx2 : x ∈ V t := by rw [hv]; simp at hx ⊢; exact hx
      exact Core_free h hq (by omega) hx2)
    rw [List.append_assoc] at this
    exact this
  · intro k hk hno
    have hno2 : ∀ e ∈ A ++ (s, (i : Int)) :: (s2, (q : Int)) :: B, e.2 ≠ (k : Int) := by
      have := hno t (by omega)
      rw [uV_s] at this
      exact this
    have k1 : k ≠ i := by
      intro heq; subst heq
      exact hno2 (s, (k : Int)) (by simp) rfl
    have k2 : k ≠ q := by
      intro heq; subst heq
      exact hno2 (s2, (k : Int)) (by simp) rfl
    rw [uP_o k2, uP_o k1]
    refine h.2.2.2.1 k hk ?_
    intro n hn e he
    by_cases hnt : n = t
    · subst hnt
      rw [hv] at he
      refine hno2 e ?_
      simp at he ⊢
      rcases he with he | he | he
      · exact Or.inl he
      · exact Or.inr (Or.inl he)
      · exact Or.inr (Or.inr (Or.inr he))
    · have := hno n hn
      rw [uV_o hnt] at this
      exact this e he
  · rw [hL1, uV_s]
    have h6 := h.2.2.2.2.1
    rw [hL1, hv, LkTo_app, LkTo_cons] at h6
    rw [LkTo_app, LkTo_cons, LkTo_cons, LkTo_c cA, LkTo_c cB]
    refine ⟨h6.1, ?_, ?_, h6.2.2⟩
    · show (uP (uP P i (1, (q : Int) + 1, x)) q (1, (P i).2.1, y) i).2.1 = _
      rw [uP_o hiq, uP_s]
      rfl
    · show (uP (uP P i (1, (q : Int) + 1, x)) q (1, (P i).2.1, y) q).2.1 = _
      rw [uP_s]
      exact h6.2.1
  · rw [hL1, uV_s]
    have e1 : A ++ (s, (i : Int)) :: (s2, (q : Int)) :: B = (A ++ [(s, (i : Int))]) ++ (s2, (q : Int)) :: B := by simp
    rw [e1, lfs_mid, uP_s, lfs_app, lfs_c cA, lfs_c cB, lfs_cons]
    show (lfs P A ++ (s, 0) :: ((uP (uP P i (1, (q : Int) + 1, x)) q (1, (P i).2.1, y) i).2.2.map k1 ++ lfs _ []) ++ _).Pairwise lt2
    rw [uP_o hiq, uP_s]
    have e2 : lfs P A ++ (s, 0) :: (x.map k1 ++ (s2, 0) :: (y.map k1 ++ lfs P B)) = lfs P A ++ (s, 0) :: (x.map k1 ++ lfs (uP (uP P i (1, (q : Int) + 1, x)) q (1, (P i).2.1, y)) []) ++ (s2, 0) :: (y.map k1 ++ lfs P B) := by
      simp [lfs]
    rw [e2] at hpw
    exact hpw
end CO
end
section
/-! PUT: class and model side by side. -/
def RC (C : Mem) (P : Nat → Pg) (root L : Nat) (c1 c2 c3 : Int) : Prop := TC C P ∧ C 1 4 = (root : Int) ∧ C 1 5 = (L : Int) ∧ C 2 4 = c1 ∧ C 2 5 = c2 ∧ C 2 6 = c3
def RX (X : Mem) (P : Nat → Pg) (root L : Nat) (c1 c2 c3 : Int) : Prop := TX X P ∧ X 95 1 = (root : Int) ∧ X 95 2 = (L : Int) ∧ X 95 3 = c1 ∧ X 95 4 = c2 ∧ X 95 5 = c3
def GoodS (P : Nat → Pg) (root L : Nat) : Prop := ∃ V lvl, Good P root L V lvl
/-- what commands of the tree leave as it was -/
def KpC (C C' : Mem) : Prop := ∀ x y, x ≠ 1 → x ≠ 2 → (x < 10 ∨ (23 ≤ x ∧ x < 61)) → C' x y = C x y
def KpX (X X' : Mem) : Prop := ∀ a b, ((a = 95 ∧ 16 ≤ b) ∨ 104 ≤ a) → X' a b = X a b
/-- after a change: both hold the same good tree -/
def Fin (C X : Mem) (o1 o2 : Option (Mem × Int)) (z1 z2 : Int) : Prop := ∃ C' X' P' root' L' d1 d2 d3, o1 = some (C', z1) ∧ o2 = some (X', z2) ∧ RC C' P' root' L' d1 d2 d3 ∧ RX X' P' root' L' d1 d2 d3 ∧ GoodS P' root' L' ∧ KpC C C' ∧ KpX X X'
section PU
variable {C C' X X' : Mem} {P P' : Nat → Pg} {L n t i j q root : Nat} {V V' : Nat → List Ent} {lvl lvl' : Nat → Nat} {A B R S a b x y es : List Ent} {e f u v : Ent} {s s2 w : List Int} {r l l1 l2 z c1 c2 c3 : Int} {p : Pg} {W T : Nat → Nat} {As Bs : Nat → List Ent} {ss : Nat → List Int}
theorem KpC_refl : KpC C C := fun _ _ _ _ _ => rfl
theorem KpX_refl : KpX X X := fun _ _ _ => rfl
theorem KpC_tr {C2 : Mem} (h1 : KpC C C') (h2 : KpC C' C2) : KpC C C2 := fun x y q1 q2 q3 => by rw [h2 x y q1 q2 q3, h1 x y q1 q2 q3]
theorem KpX_tr {X2 : Mem} (h1 : KpX X X') (h2 : KpX X' X2) : KpX X X2 := fun x y q1 => by rw [h2 x y q1, h1 x y q1]
theorem Fc_KpC (h : Fc C C') : KpC C C' := fun x y _ q2 q3 => h x y q2 (by omega)
theorem Fx_KpX (h : Fx X X') : KpX X X' := fun a b q => h a b (by omega) (by omega) (by omega) (by omega) (by omega) (by omega)
theorem Fin_tr {C2 X2 : Mem} {o1 o2 : Option (Mem × Int)} {z1 z2 : Int} (h1 : KpC C C2) (h2 : KpX X X2) (h : Fin C2 X2 o1 o2 z1 z2) : Fin C X o1 o2 z1 z2 := by
  obtain ⟨C', X', P', root', L', d1, d2, d3, g1, g2, g3, g4, g5, g6, g7⟩ := h
  exact ⟨C', X', P', root', L', d1, d2, d3, g1, g2, g3, g4, g5, KpC_tr h1 g6, KpX_tr h2 g7⟩
theorem RC_Fc (h : RC C P root L c1 c2 c3) (hf : Fc C C') (hT : TC C' P') {d1 d2 d3 : Int} (h1 : C' 2 4 = d1) (h2 : C' 2 5 = d2) (h3 : C' 2 6 = d3) : RC C' P' root L d1 d2 d3 := ⟨hT, by rw [hf _ _ (by omega) (by omega)]; exact h.2.1, by rw [hf _ _ (by omega) (by omega)]; exact h.2.2.1, h1, h2, h3⟩
theorem RX_Fx (h : RX X P root L c1 c2 c3) (hf : Fx X X') (hT : TX X' P') {d1 d2 d3 : Int} (h1 : X' 95 3 = d1) (h2 : X' 95 4 = d2) (h3 : X' 95 5 = d3) : RX X' P' root L d1 d2 d3 := ⟨hT, by rw [hf _ _ (by omega) (by omega) (by omega) (by omega) (by omega) (by omega)]; exact h.2.1, by rw [hf _ _ (by omega) (by omega) (by omega) (by omega) (by omega) (by omega)]; exact h.2.2.1, h1, h2, h3⟩
theorem WayC_Fc (h : WayC C L W T) (hf : Fc C C') : WayC C' L W T := ⟨fun t ht => by rw [hf _ _ (by omega) (by omega)]; exact h.1 t ht, fun t ht => by rw [hf _ _ (by omega) (by omega)]; exact h.2 t ht⟩
/-- a page of another level is not changed -/
theorem exp_lv (h : Core P L V lvl) (hn : n < L) (hnt : lvl i ≠ n) : exp (uP P i p) (V n) = exp P (V n) := by
  refine exp_c (fun e he => uP_o ?_)
  obtain ⟨k, q1, q2, q3, q4⟩ := h.2.1 n hn e he
  intro heq
  have : k = i := by omega
  subst this
  exact hnt q3
theorem exp_fr (h : Core P L V lvl) (hn : n < L) (hq : (P q).1 = 0) : exp (uP P q p) (V n) = exp P (V n) := by
  refine exp_c (fun e he => uP_o ?_)
  have := Core_free h hq hn he
  obtain ⟨k, q1, _⟩ := h.2.1 n hn e he
  omega
/-- a row of pages around one of them -/
theorem exp_AB (h : Core P L V lvl) (ht : t < L) (hv : V t = A ++ (s, (i : Int)) :: B) : exp (uP P i p) A = exp P A ∧ exp (uP P i p) B = exp P B := by
  have hnd := h.2.2.1 t ht
  rw [hv] at hnd
  have hmid := nd_mid hnd
  have key : ∀ e ∈ A ++ B, e.2.toNat ≠ i := by
    intro e he
    have h1 : e.2 ≠ (i : Int) := hmid e he
    have h2 : e ∈ V t := by rw [hv]; simp at he ⊢; rcases he with he | he; exact Or.inl he; exact Or.inr (Or.inr he)
    obtain ⟨k, q1, _⟩ := h.2.1 t ht e h2
    omega
  exact ⟨exp_c (fun e he => uP_o (key e (List.mem_append_left _ he))), exp_c (fun e he => uP_o (key e (List.mem_append_right _ he)))⟩
theorem exp_ABq (h : Core P L V lvl) (ht : t < L) (hv : V t = A ++ (s, (i : Int)) :: B) (hq : (P q).1 = 0) : exp (uP P q p) A = exp P A ∧ exp (uP P q p) B = exp P B := by
  have key : ∀ e ∈ A ++ B, e.2.toNat ≠ q := by
    intro e he
    have h2 : e ∈ V t := by rw [hv]; simp at he ⊢; rcases he with he | he; exact Or.inl he; exact Or.inr (Or.inr he)
    have := Core_free h hq ht h2
    obtain ⟨k, q1, _⟩ := h.2.1 t ht e h2
    omega
  exact ⟨exp_c (fun e he => uP_o (key e (List.mem_append_left _ he))), exp_c (fun e he => uP_o (key e (List.mem_append_right _ he)))⟩
/-- the root, split, under a new one -/
theorem good_root (h : Core P L V lvl) (hL : 1 ≤ L) (hL31 : L ≤ 31) (hr : root < 32) (h0 : V 0 = [([], (root : Int)), (s2, (j : Int))]) (h1 : ∀ n, n + 1 < L → V (n + 1) = exp P (V n)) (hq : (P q).1 = 0) (hq32 : q < 32) (hs : LOk s2) (hs1 : 1 ≤ s2.length) (hj : j < 32) : GoodS (uP P q (2, (root : Int), [(s2, (j : Int))])) q (L + 1) := by
  have hsz : szs [(s2, (j : Int))] ≤ 61 := by have := hs.1; simp [szs]; omega
  have hp : POk (2, (root : Int), [(s2, (j : Int))]) := ⟨EsOk_cons.mpr ⟨⟨hs1, hs.1, hs.2, by show (0 : Int) ≤ (j : Int) ∧ (j : Int) ≤ 255; omega⟩, by intro e he; cases he⟩, hsz, by show (0 : Int) ≤ 2 ∧ (2 : Int) ≤ 2; omega, by show (0 : Int) ≤ (root : Int) ∧ (root : Int) ≤ 255; omega⟩
  refine ⟨_, _, core_root h hL hq hq32 hp, rfl, ?_, by omega, by omega, hq32, ?_⟩
  · intro n hn
    cases n with
    | zero =>
      show V 0 = exp _ [([], (q : Int))]
      rw [exp_cons, exp_nil]
      show V 0 = ([], (uP P q (2, (root : Int), [(s2, (j : Int))]) q).2.1) :: ((uP P q (2, (root : Int), [(s2, (j : Int))]) q).2.2 ++ [])
      rw [uP_s, h0]
      rfl
    | succ n =>
      show V (n + 1) = exp _ (V n)
      rw [exp_fr h (by omega) hq]
      exact h1 n (by omega)
  · intro _
    rw [uP_s]
    simp
def kCc : Int → Int → Int → Mem → Option (Mem × Int) := (fun (v3_e16 : Int) (v4_e16 : Int) (v5_e16 : Int) (C_e16 : Mem) => (bd (f_X0_raiseRoot (v4_e16) C_e16) (fun C104 _ => (some (C104, 0)))))
def kX : Int → Int → Mem → Option (Mem × Int) := (fun (v2_e104 : Int) (v3_e104 : Int) (C_e104 : Mem) => (bd (f_X8_at (v3_e104) (0) C_e104) (fun C225 r225 => (bd (f_X8_at (v3_e104) (2) C225) (fun C231 r231 => (bd (f_X8_goBack (v3_e104) (r225) (r231) (0) (C231 95 6) C231) (fun C239 _ => (some (C239, -9)))))))))
/-- what is to come into an inner page, and all that is known there -/
def Pend (C X : Mem) (P : Nat → Pg) (V : Nat → List Ent) (lvl : Nat → Nat) (root L t : Nat) (W T : Nat → Nat) (As Bs : Nat → List Ent) (ss : Nat → List Int) (a b : List Ent) (w : List Int) (z : Nat) (c1 c2 c3 : Int) : Prop := Core P L V lvl ∧ L ≤ 31 ∧ t + 1 < L ∧ root < 32 ∧ V 0 = [([], (root : Int))] ∧ (∀ n, n + 1 < L → n ≠ t → V (n + 1) = exp P (V n)) ∧ Pth P V W T As Bs ss t ∧ W 0 = root ∧ (∀ n, n < L → W n < 32) ∧ (P (W t)).2.2 = a ++ b ∧ a.length = T t ∧ V (t + 1) = exp P (As t) ++ (ss t, (P (W t)).2.1) :: ((a ++ (w, (z : Int)) :: b) ++ exp P (Bs t)) ∧ t + 2 ≤ nS P 0 32 ∧ z < 32 ∧ LOk w ∧ 1 ≤ w.length ∧ (0 < t → (P root).2.2 ≠ []) ∧ RC C P root L c1 c2 c3 ∧ WayC C L W T ∧ KyC C 1 w ∧ RX X P root L c1 c2 c3 ∧ WayX X L W T ∧ RowX X (a ++ (w, (z : Int)) :: b)
theorem szs_1 {w : List Int} (h : LOk w) (h61 : szs (a ++ b) ≤ 61) : szs (a ++ (w, z) :: b) ≤ 71 := by
  rw [szs_app] at h61 ⊢
  rw [szs_cons]
  have := h.1
  show _ + (w.length + 2 + _) ≤ _
  omega
theorem put_fit {z : Nat} {n1 n2 : Nat} {v3 : Int} (hP : Pend C X P V lvl root L t W T As Bs ss a b w z c1 c2 c3) (hv3 : v3 = (T t : Int)) (hfit : szs (a ++ (w, (z : Int)) :: b) ≤ 61) : Fin C X (f_X0_insertUpward_16 kCc (n1 + 1) v3 (z : Int) (t : Int) C) (f_X8_putKey_104 kX (n2 + 1) (t : Int) ((W t : Nat) : Int) X) 0 (-9) := by
  obtain ⟨hcore, hL31, ht, hr, h0, heq, hpth, hW0, hW32, hes, hal, hpend, hfree, hz32, hw, hw1, hroot, hRC, hWC, hKC, hRX, hWX, hRow⟩ := hP
  have hvt := hpth.1 t (Nat.le_refl t)
  have hso := Core_sort hcore (n := t) (by omega) (show (ss t, ((W t : Nat) : Int)) ∈ V t by rw [hvt]; simp)
  rw [if_neg (by omega)] at hso
  have hpi : P (W t) = (2, (P (W t)).2.1, a ++ b) := by rw [← hes, ← hso.2.2]
  have hlink := (hcore.1 (W t) hso.1).2.2.2
  have hab : EsOk (a ++ b) := by have := (hcore.1 (W t) hso.1).1; rw [hes] at this; exact this
  have hab1 := EsOk_app.mp hab
  have heo : EsOk (a ++ (w, (z : Int)) :: b) := hRow.2.2
  obtain ⟨C', f1, f2, f3, f4⟩ := sp_inFit (K := kCc) (n := n1) hcore.1 hRC.1 hWC (by omega) (t := t) (by omega) rfl hso.1 hpi (Or.inr rfl) hKC hw1 (z := (z : Int)) (v3 := v3) (v5 := (t : Int)) (by omega) (by rw [hv3, hal]) rfl hfit
  have h3 := len_szs3 _ heo
  have hpg := TX_pg hcore.1 hRX.1 hso.1
  have mk := mx_back (i := W t) (p := ((W t : Nat) : Int)) (s := 2) (l := (P (W t)).2.1) (X := X) (x := []) (y := a ++ (w, (z : Int)) :: b) (z := []) (q4 := 0) (q5 := X 95 6) hso.1 rfl (by rw [List.append_nil]; exact hRow.2.1) heo (by simpa using (show (a ++ (w, (z : Int)) :: b).length ≤ 48 by omega)) hfit (by rfl) (by rw [hRow.1]; simp)
  have hmod : f_X8_putKey_104 kX (n2 + 1) (t : Int) ((W t : Nat) : Int) X = some (stX X (W t) (enc 2 (P (W t)).2.1 (a ++ (w, (z : Int)) :: b)), -9) := by
    rw [mx_inFit hRow (by omega) hfit]
    unfold kX
    rw [mx_0 hpg rfl, bd_some, mx_2 hpg rfl, bd_some, hso.2.2, mk, bd_some]
  have hpok : POk (2, (P (W t)).2.1, a ++ (w, (z : Int)) :: b) := ⟨heo, hfit, by show (0 : Int) ≤ 2 ∧ (2 : Int) ≤ 2; omega, hlink⟩
  have hcore' := core_in hcore ht hvt hpok
  have hg : GoodS (uP P (W t) (2, (P (W t)).2.1, a ++ (w, (z : Int)) :: b)) root L := by
    refine ⟨V, lvl, hcore', h0, ?_, by omega, by omega, hr, ?_⟩
    · intro n hn
      by_cases hnt : n = t
      · subst hnt
        have hAB := exp_AB (p := (2, (P (W n)).2.1, a ++ (w, (z : Int)) :: b)) hcore (by omega) hvt
        rw [hpend, hvt, exp_app, exp_cons, hAB.1, hAB.2]
        show _ = _ ++ (ss n, (uP P (W n) (2, (P (W n)).2.1, a ++ (w, (z : Int)) :: b) (W n)).2.1) :: ((uP P (W n) (2, (P (W n)).2.1, a ++ (w, (z : Int)) :: b) (W n)).2.2 ++ _)
        rw [uP_s]
      · rw [heq n hn hnt, exp_lv hcore (by omega) (by omega)]
    · intro _
      by_cases h00 : t = 0
      · subst h00
        rw [← hW0, uP_s]
        simp
      · have : root ≠ W t := by
          intro he
          have h1 := Core_sort hcore (n := 0) (i := root) (s := []) (by omega) (by rw [h0]; simp)
          rw [he] at h1
          omega
        rw [uP_o this]
        exact hroot (by omega)
  have hfx : Fx X (stX X (W t) (enc 2 (P (W t)).2.1 (a ++ (w, (z : Int)) :: b))) := Fx_st Fx_refl
  refine ⟨C', _, _, root, L, c1, c2, c3, f1, hmod, RC_Fc hRC f3 f2 ?_ ?_ ?_, RX_Fx hRX hfx (TX_st (pg := (2, (P (W t)).2.1, a ++ (w, (z : Int)) :: b)) hRX.1 ⟨rfl, rfl, rfl⟩) ?_ ?_ ?_, hg, Fc_KpC f3, Fx_KpX hfx⟩
  · rw [f4]; exact hRC.2.2.2.1
  · rw [f4]; exact hRC.2.2.2.2.1
  · rw [f4]; exact hRC.2.2.2.2.2
  · rw [stX_k (by omega)]; exact hRX.2.2.2.1
  · rw [stX_k (by omega)]; exact hRX.2.2.2.2.1
  · rw [stX_k (by omega)]; exact hRX.2.2.2.2.2
/-- the inner page is split: what is known then -/
theorem put_spl {z : Nat} {n1 n2 : Nat} {v3 : Int} (hP : Pend C X P V lvl root L t W T As Bs ss a b w z c1 c2 c3) (hv3 : v3 = (T t : Int)) (hfit : 61 < szs (a ++ (w, (z : Int)) :: b)) : ∃ (q : Nat) (x y : List Ent) (v : Ent) (C1 X1 : Mem), (P q).1 = 0 ∧ q < 32 ∧ LOk v.1 ∧ 1 ≤ v.1.length ∧ Core (uP (uP P (W t) (2, (P (W t)).2.1, x)) q (2, v.2, y)) L (uV V t (As t ++ (ss t, ((W t : Nat) : Int)) :: (v.1, (q : Int)) :: Bs t)) (fun k => if k = q then t else lvl k) ∧ (∀ n, n + 1 < L → n + 1 ≠ t → uV V t (As t ++ (ss t, ((W t : Nat) : Int)) :: (v.1, (q : Int)) :: Bs t) (n + 1) = exp (uP (uP P (W t) (2, (P (W t)).2.1, x)) q (2, v.2, y)) (uV V t (As t ++ (ss t, ((W t : Nat) : Int)) :: (v.1, (q : Int)) :: Bs t) n)) ∧ t + 1 ≤ nS (uP (uP P (W t) (2, (P (W t)).2.1, x)) q (2, v.2, y)) 0 32 ∧ f_X0_insertUpward_16 kCc (n1 + 1) v3 (z : Int) (t : Int) C = f_X0_insertUpward_16 kCc n1 (C 22 t) (q : Int) ((t : Int) + -1) C1 ∧ RC C1 (uP (uP P (W t) (2, (P (W t)).2.1, x)) q (2, v.2, y)) root L (c1 + 1) c2 c3 ∧ KyC C1 1 v.1 ∧ Fc C C1 ∧ RX X1 (uP (uP P (W t) (2, (P (W t)).2.1, x)) q (2, v.2, y)) root L c1 c2 c3 ∧ UpX X1 v.1 ∧ Fx X X1 ∧ f_X8_putKey_104 kX (n2 + 1) (t : Int) ((W t : Nat) : Int) X = (cEq (t : Int) 0 (bd (f_X8_newRoot ((W t : Nat) : Int) (q : Int) (up X1 95 3 ((X1 95 3) + 1))) (fun C171 _ => (some (C171, -9)))) (ix ((t : Int) + (-1)) 32 (bd (f_X8_comeOut ((up X1 95 3 ((X1 95 3) + 1)) (102) ((t : Int) + (-1)).toNat) (up (up X1 95 3 ((X1 95 3) + 1)) 95 6 (0))) (fun C194 _ => (ix ((t : Int) + (-1)) 32 (bd (f_X8_comesIn (C194 (103) ((t : Int) + (-1)).toNat) 0 (C194 95 10) (q : Int) C194) (fun C214 _ => (f_X8_putKey_104 kX n2 ((t : Int) + (-1)) ((up X1 95 3 ((X1 95 3) + 1)) (102) ((t : Int) + (-1)).toNat) C214)))))))) := by
  obtain ⟨hcore, hL31, ht, hr, h0, heq, hpth, hW0, hW32, hes, hal, hpend, hfree, hz32, hw, hw1, hroot, hRC, hWC, hKC, hRX, hWX, hRow⟩ := hP
  have hvt := hpth.1 t (Nat.le_refl t)
  have hso := Core_sort hcore (n := t) (by omega) (show (ss t, ((W t : Nat) : Int)) ∈ V t by rw [hvt]; simp)
  rw [if_neg (by omega)] at hso
  have hpi : P (W t) = (2, (P (W t)).2.1, a ++ b) := by rw [← hes, ← hso.2.2]
  have hlink := (hcore.1 (W t) hso.1).2.2.2
  have hsz0 : szs (a ++ b) ≤ 61 := by have := (hcore.1 (W t) hso.1).2.1; rw [hes] at this; exact this
  have hsz1 := szs_1 (z := (z : Int)) hw hsz0
  have heo : EsOk (a ++ (w, (z : Int)) :: b) := hRow.2.2
  have h3 := len_szs3 _ heo
  obtain ⟨x', u, v, y, e1, e2, e3, e4, e5⟩ := hf_split heo hfit
  have e6 : szs (a ++ (w, (z : Int)) :: b) = szs (x' ++ [u]) + (v.1.length + 2 + szs y) := by rw [e1, szs_app, szs_cons]
  have heo2 := heo
  rw [e1] at heo2
  have ev := EsOk_mid heo2
  have ex := (EsOk_app.mp heo2).1
  have ey := (EsOk_cons.mp (EsOk_app.mp heo2).2).2
  obtain ⟨q, hq⟩ := lf_ex (P := P) (by omega)
  have hq0 := hq.2.1
  have hq32 := hq.1
  obtain ⟨C1, f1, f2, f3, f4, f5, f6, f7⟩ := sp_inI (K := kCc) (n := n1) hcore.1 hRC.1 hWC (by omega) (t := t) (by omega) rfl hso.1 hpi hKC hw1 (z := (z : Int)) (v3 := v3) (v5 := (t : Int)) (by omega) (by rw [hv3, hal]) rfl hfit hq e1 e2 (by omega) (by omega)
  obtain ⟨X1, g1, g2, g3, g4, g5, g6, g7⟩ := mx_inI (K := kX) (n := n2) hcore.1 hRX.1 hRow hso.1 hpi hfit (by omega) (by omega) hq e1 e2 (by omega) (by omega) (v2 := (t : Int)) (v3 := ((W t : Nat) : Int)) rfl (by omega)
  have hp1 : POk (2, (P (W t)).2.1, x' ++ [u]) := ⟨ex, by show szs (x' ++ [u]) ≤ 61; omega, by show (0 : Int) ≤ 2 ∧ (2 : Int) ≤ 2; omega, hlink⟩
  have hp2 : POk (2, v.2, y) := ⟨ey, by show szs y ≤ 61; omega, by show (0 : Int) ≤ 2 ∧ (2 : Int) ≤ 2; omega, ev.2.2.2⟩
  have hcore' := core_spI (s2 := v.1) hcore ht hvt hq0 hq32 hp1 hp2
  have hiq : W t ≠ q := by intro h; rw [h, hq0] at hso; omega
  have hAB := exp_AB (p := (2, (P (W t)).2.1, x' ++ [u])) hcore (by omega) hvt
  have hABq := exp_ABq (p := (2, v.2, y)) (P := uP P (W t) (2, (P (W t)).2.1, x' ++ [u])) (lvl := lvl) (L := L) (V := V) (core_in hcore ht hvt hp1) (by omega) hvt (by rw [uP_o hiq.symm]; exact hq0)
  refine ⟨q, x' ++ [u], y, v, C1, X1, hq0, hq32, EOk_L ev, ev.1, hcore', ?_, ?_, f1, RC_Fc hRC f4 f2 ?_ ?_ ?_, f3, f4, RX_Fx hRX g3 g1 ?_ ?_ ?_, g2, g3, g7⟩
  · intro n hn hnt
    rw [uV_o hnt]
    by_cases hn2 : n = t
    · subst hn2
      rw [uV_s, hpend, exp_app, exp_cons, exp_cons, hABq.1, hABq.2, hAB.1, hAB.2]
      show _ = _ ++ (ss n, (uP (uP P (W n) (2, (P (W n)).2.1, x' ++ [u])) q (2, v.2, y) (W n)).2.1) :: ((uP (uP P (W n) (2, (P (W n)).2.1, x' ++ [u])) q (2, v.2, y) (W n)).2.2 ++ (v.1, (uP (uP P (W n) (2, (P (W n)).2.1, x' ++ [u])) q (2, v.2, y) q).2.1) :: ((uP (uP P (W n) (2, (P (W n)).2.1, x' ++ [u])) q (2, v.2, y) q).2.2 ++ _))
      rw [uP_s, uP_o hiq, uP_s, e1]
      simp
    · rw [uV_o hn2, heq n hn hn2]
      rw [exp_fr (core_in hcore ht hvt hp1) (by omega) (by rw [uP_o hiq.symm]; exact hq0), exp_lv hcore (by omega) (by omega)]
  · have n1 := nS_u (P := P) (n := 32) (p := (2, (P (W t)).2.1, x' ++ [u])) hso.1
    rw [if_neg (by rw [hso.2.2]; omega)] at n1
    have n2 := nS_u (P := uP P (W t) (2, (P (W t)).2.1, x' ++ [u])) (n := 32) (p := (2, v.2, y)) hq32
    split at n2 <;> omega
  · rw [f5, hRC.2.2.2.1]
  · rw [f6, hRC.2.2.2.2.1]
  · rw [f7, hRC.2.2.2.2.2]
  · rw [g4, hRX.2.2.2.1]
  · rw [g5, hRX.2.2.2.2.1]
  · rw [g6, hRX.2.2.2.2.2]
theorem single {p : Ent} (h : [p] = A ++ e :: B) : A = [] ∧ e = p ∧ B = [] := by
  cases A with
  | nil => simp at h; exact ⟨rfl, h.1.symm, h.2⟩
  | cons a r => simp at h
/-- the root was split: a new one -/
theorem put_root {q : Nat} {n1 : Nat} {v3 : Int} (hcore : Core P L V lvl) (hL : 1 ≤ L) (hL31 : L ≤ 31) (hr : root < 32) (h0 : V 0 = [([], (root : Int)), (s2, (q : Int))]) (h1 : ∀ n, n + 1 < L → V (n + 1) = exp P (V n)) (hfree : 1 ≤ nS P 0 32) (hs : LOk s2) (hs1 : 1 ≤ s2.length) (hq32 : q < 32) (hRC : RC C P root L (c1 + 1) c2 c3) (hKC : KyC C 1 s2) (hRX : RX X P root L c1 c2 c3) (hUp : UpX X s2) : Fin C X (f_X0_insertUpward_16 kCc (n1 + 1) v3 (q : Int) (-1) C) (bd (f_X8_newRoot (root : Int) (q : Int) (up X 95 3 ((X 95 3) + 1))) (fun C171 _ => (some (C171, -9)))) 0 (-9) := by
  obtain ⟨q2, hq2⟩ := lf_ex hfree
  obtain ⟨C', f1, f2, f3, f4, f5⟩ := sp_raise hcore.1 hRC.1 hq2 hRC.2.1 hr hKC (z := (q : Int)) (by omega)
  have hT1 : TX (up X 95 3 (X 95 3 + 1)) P := TX_fr hRX.1 (fun y => up_k (by omega))
  have hU1 : UpX (up X 95 3 (X 95 3 + 1)) s2 := ⟨by rw [up_j (by omega)]; exact hUp.1, fun j hj => by rw [up_k (by omega)]; exact hUp.2.1 j hj, hUp.2.2⟩
  obtain ⟨X', g1, g2, g3, g4, g5⟩ := mx_raise hcore.1 hT1 hq2 hU1 hs1 (r1 := (root : Int)) (r2 := (q : Int)) rfl (by omega)
  have hg := good_root hcore hL hL31 hr h0 h1 hq2.2.1 hq2.1 hs hs1 hq32
  refine ⟨C', X', _, q2, L + 1, c1 + 1, c2, c3, ?_, ?_, ⟨f2, f3, ?_, ?_, ?_, ?_⟩, ⟨g2, g3, ?_, ?_, ?_, ?_⟩, hg, ?_, ?_⟩
  · unfold f_X0_insertUpward_16 kCc
    rw [tLt (by omega), f1, bd_some]
  · rw [g1, bd_some]
  · rw [f4, hRC.2.2.1]; simp
  · rw [f5 _ _ (by omega) (by omega)]; exact hRC.2.2.2.1
  · rw [f5 _ _ (by omega) (by omega)]; exact hRC.2.2.2.2.1
  · rw [f5 _ _ (by omega) (by omega)]; exact hRC.2.2.2.2.2
  · rw [g4, up_j (by omega), hRX.2.2.1]; simp
  · rw [g5 _ _ (by omega) (by omega) (by omega) (by omega) (by omega), up_same, hRX.2.2.2.1]
  · rw [g5 _ _ (by omega) (by omega) (by omega) (by omega) (by omega), up_j (by omega)]; exact hRX.2.2.2.2.1
  · rw [g5 _ _ (by omega) (by omega) (by omega) (by omega) (by omega), up_j (by omega)]; exact hRX.2.2.2.2.2
  · exact fun x y h1 h2 h3 => f5 x y h1 (by omega)
  · intro a b hab
    rw [g5 a b (by omega) (by omega) (by omega) (by omega) (by omega), up_ap, if_neg (by omega)]
/-- what comes in upward, from an inner level on -/
theorem put_up : ∀ (t : Nat) (n1 n2 : Nat) (C X : Mem) (P : Nat → Pg) (V : Nat → List Ent) (lvl : Nat → Nat) (a b : List Ent) (w : List Int) (z : Nat) (c1 : Int) (v3 : Int), t + 1 < n1 → t + 1 < n2 → Pend C X P V lvl root L t W T As Bs ss a b w z c1 c2 c3 → v3 = (T t : Int) → Fin C X (f_X0_insertUpward_16 kCc n1 v3 (z : Int) (t : Int) C) (f_X8_putKey_104 kX n2 (t : Int) ((W t : Nat) : Int) X) 0 (-9)
  | _, 0, _ => by intros; omega
  | _, _, 0 => by intros; omega
  | 0, n1 + 1, n2 + 1 => by
    intro C X P V lvl a b w z c1 v3 hn1 hn2 hP hv3
    by_cases hfit : szs (a ++ (w, (z : Int)) :: b) ≤ 61
    · exact put_fit hP hv3 hfit
    · obtain ⟨q, x, y, v, C1, X1, k1, k2, k3, k4, k5, k6, k7, k8, k9, k10, k11, k12, k13, k14, k15⟩ := put_spl (n1 := n1) (n2 := n2) hP hv3 (by omega)
      obtain ⟨hcore, hL31, ht, hr, h0, heq, hpth, hW0, hW32, hes, hal, hpend, hfree, hz32, hw, hw1, hroot, hRC, hWC, hKC, hRX, hWX, hRow⟩ := hP
      have hvt := hpth.1 0 (Nat.le_refl 0)
      rw [h0] at hvt
      obtain ⟨s1, s2, s3⟩ := single hvt
      have s2a : ss 0 = [] := congrArg Prod.fst s2
      rw [k8, k15, tEq (by omega), hW0]
      obtain ⟨m, rfl⟩ : ∃ m, n1 = m + 1 := ⟨n1 - 1, by omega⟩
      refine Fin_tr (Fc_KpC k11) (Fx_KpX k14) (put_root (C := C1) (X := X1) (s2 := v.1) k5 (by omega) hL31 hr ?_ ?_ (by omega) k3 k4 k2 k9 k10 k12 k13)
      · rw [uV_s, s1, s3, s2a, hW0]
        rfl
      · intro n hn
        exact k6 n hn (by omega)
  | t + 1, n1 + 1, n2 + 1 => by
    intro C X P V lvl a b w z c1 v3 hn1 hn2 hP hv3
    by_cases hfit : szs (a ++ (w, (z : Int)) :: b) ≤ 61
    · exact put_fit hP hv3 hfit
    · obtain ⟨q, x, y, v, C1, X1, k1, k2, k3, k4, k5, k6, k7, k8, k9, k10, k11, k12, k13, k14, k15⟩ := put_spl (n1 := n1) (n2 := n2) hP hv3 (by omega)
      obtain ⟨hcore, hL31, ht, hr, h0, heq, hpth, hW0, hW32, hes, hal, hpend, hfree, hz32, hw, hw1, hroot, hRC, hWC, hKC, hRX, hWX, hRow⟩ := hP
      obtain ⟨a', b', pre, d1, d2, d3, d4, d5⟩ := hpth.2 t (by omega)
      have hvt1 := hpth.1 (t + 1) (Nat.le_refl _)
      have hvt := hpth.1 t (by omega)
      have hso1 := Core_sort hcore (n := t + 1) (by omega) (show (ss (t + 1), ((W (t + 1) : Nat) : Int)) ∈ V (t + 1) by rw [hvt1]; simp)
      -- pages of upper levels are as they were
      have hup : ∀ n, n ≤ t → ∀ e ∈ V n, uP (uP P (W (t + 1)) (2, (P (W (t + 1))).2.1, x)) q (2, v.2, y) e.2.toNat = P e.2.toNat := by
        intro n hn e he
        have h1 := Core_free hcore k1 (show n < L by omega) he
        obtain ⟨k, q1, q2, q3, q4⟩ := hcore.2.1 n (by omega) e he
        rw [uP_o (by omega), uP_o (by intro h; have : k = W (t + 1) := by omega
                                      rw [this] at q3; omega)]
      have hWt : ∀ n, n ≤ t → uP (uP P (W (t + 1)) (2, (P (W (t + 1))).2.1, x)) q (2, v.2, y) (W n) = P (W n) := by
        intro n hn
        have := hup n hn (ss n, ((W n : Nat) : Int)) (by rw [hpth.1 n (by omega)]; simp)
        simpa using this
      have hAs : ∀ n, n ≤ t → exp (uP (uP P (W (t + 1)) (2, (P (W (t + 1))).2.1, x)) q (2, v.2, y)) (As n) = exp P (As n) := by
        intro n hn
        exact exp_c (fun e he => hup n hn e (by rw [hpth.1 n (by omega)]; simp; exact Or.inl he))
      have hBs : ∀ n, n ≤ t → exp (uP (uP P (W (t + 1)) (2, (P (W (t + 1))).2.1, x)) q (2, v.2, y)) (Bs n) = exp P (Bs n) := by
        intro n hn
        exact exp_c (fun e he => hup n hn e (by rw [hpth.1 n (by omega)]; simp; exact Or.inr (Or.inr he)))
      have hso := Core_sort hcore (n := t) (by omega) (show (ss t, ((W t : Nat) : Int)) ∈ V t by rw [hvt]; simp)
      rw [if_neg (by omega)] at hso
      have hpA : uP (uP P (W (t + 1)) (2, (P (W (t + 1))).2.1, x)) q (2, v.2, y) (W t) = (2, (P (W t)).2.1, a' ++ b') := by
        rw [hWt t (by omega), ← d1, ← hso.2.2]
      obtain ⟨X2, m1, m2, m3, m4, m5, m6, m7⟩ := mx_next (K := kX) (n := n2) k5.1 k12.1 k13 k4 (WayX_Fx hWX k14) (t := t) (by omega) (by omega) rfl (hW32 t (by omega)) hpA d2.symm (r := (q : Int)) (v2 := ((t + 1 : Nat) : Int) + -1) (by omega) (by omega)
      have hp2 : Pend C1 X2 (uP (uP P (W (t + 1)) (2, (P (W (t + 1))).2.1, x)) q (2, v.2, y)) (uV V (t + 1) (As (t + 1) ++ (ss (t + 1), ((W (t + 1) : Nat) : Int)) :: (v.1, (q : Int)) :: Bs (t + 1))) (fun k => if k = q then t + 1 else lvl k) root L t W T As Bs ss a' b' v.1 q (c1 + 1) c2 c3 := by
        refine ⟨k5, hL31, by omega, hr, ?_, ?_, ⟨?_, ?_⟩, hW0, hW32, ?_, d2, ?_, by omega, k2, k3, k4, ?_, k9, WayC_Fc hWC k11, k10, RX_Fx k12 m4 m2 ?_ ?_ ?_, WayX_Fx (WayX_Fx hWX k14) m4, m3⟩
        · rw [uV_o (by omega)]; exact h0
        · intro n hn hnt
          exact k6 n hn (by omega)
        · intro n hn
          rw [uV_o (by omega)]
          exact hpth.1 n (by omega)
        · intro n hn
          obtain ⟨a2, b2, pre2, g1, g2, g3, g4, g5⟩ := hpth.2 n (by omega)
          refine ⟨a2, b2, pre2, ?_, g2, ?_, ?_, ?_⟩
          · rw [hWt n (by omega)]; exact g1
          · rw [hWt n (by omega)]; exact g3
          · rw [hAs n (by omega)]; exact g4
          · rw [hBs n (by omega)]; exact g5
        · rw [hWt t (by omega)]; exact d1
        · rw [uV_s, hAs t (by omega), hBs t (by omega), hWt t (by omega), d4, d5]
          have : (ss t, (P (W t)).2.1) :: ((a' ++ (v.1, (q : Int)) :: b') ++ exp P (Bs t)) = ((ss t, (P (W t)).2.1) :: a') ++ (v.1, (q : Int)) :: (b' ++ exp P (Bs t)) := by simp
          rw [this, d3]
          simp
        · intro h0t
          have h1 := Core_sort hcore (n := 0) (i := root) (s := []) (by omega) (by rw [h0]; simp)
          have : uP (uP P (W (t + 1)) (2, (P (W (t + 1))).2.1, x)) q (2, v.2, y) root = P root := by
            rw [← hW0]; exact hWt 0 (by omega)
          rw [this]
          exact hroot (by omega)
        · rw [m5, k12.2.2.2.1]
        · rw [m6, k12.2.2.2.2.1]
        · rw [m7, k12.2.2.2.2.2]
      have hslot : C 22 (t + 1) = (T t : Int) := hWC.2 t (by omega)
      have ih := put_up t n1 n2 C1 X2 _ _ _ a' b' v.1 q (c1 + 1) (C 22 (t + 1)) (by omega) (by omega) hp2 hslot
      rw [k8, k15, fEq (by omega), ix_t (by omega), m1, show ((t + 1 : Nat) : Int) + -1 = (t : Int) by omega]
      exact Fin_tr (Fc_KpC k11) (KpX_tr (Fx_KpX k14) (Fx_KpX m4)) ih
end PU
end
section
/-! PUT, whole. -/
section PK
variable {C C' X X' : Mem} {P P' : Nat → Pg} {L n t i j q root k : Nat} {V V' : Nat → List Ent} {lvl lvl' : Nat → Nat} {A B R S a b x y es : List Ent} {e f u v : Ent} {s s2 w : List Int} {r l l1 l2 z c1 c2 c3 : Int} {p : Pg} {W T : Nat → Nat} {As Bs : Nat → List Ent} {ss : Nat → List Int}
theorem enc_set {tl : Int} : enc s2.length l (a ++ (e.1, tl) :: b) j = enc s2.length l (a ++ (e.1, tl) :: b) j := rfl
theorem enc_sett {s l tl : Int} {j : Nat} (h1 : j ≠ 3 + szs a + 1 + e.1.length) : enc s l (a ++ (e.1, tl) :: b) j = enc s l (a ++ e :: b) j := by
  by_cases hlo : j < 3 + szs a ∧ j ≠ 1
  · rw [enc_lo hlo.1 hlo.2, enc_lo hlo.1 hlo.2]
  · by_cases hj1 : j = 1
    · subst hj1
      rw [enc_1, enc_1]; simp
    · rw [enc_hi (by omega), enc_hi (by omega), flat_cons, flat_cons]
      by_cases h3 : j - 3 - szs a < e.1.length + 2
      · rw [gd_l (by rw [e1_len]; exact h3), gd_l (by rw [e1_len]; omega)]
        by_cases h4 : j - 3 - szs a = 0
        · rw [h4]; rfl
        · rw [show j - 3 - szs a = 1 + (j - 3 - szs a - 1) by omega, e1_l _ (by show _ < e.1.length; omega), e1_l _ (by omega)]
      · rw [gd_r (by rw [e1_len]; show e.1.length + 2 ≤ _; omega), gd_r (by rw [e1_len]; omega), e1_len, e1_len]
theorem TX_tell (hT : TX X P) (hi : i < 32) (hp : P i = (r, l, a ++ e :: b)) (hz : szs (a ++ e :: b) ≤ 61) : TX (up X 96 (64 * i + (3 + szs a + 1 + e.1.length)) z) (uP P i (r, l, a ++ (e.1, z) :: b)) := by
  rw [szs_app, szs_cons] at hz
  intro c hc d hd
  by_cases hci : c = i
  · subst hci
    rw [uP_s]
    by_cases hd2 : d = 3 + szs a + 1 + e.1.length
    · rw [hd2, up_same]
      exact (enc_tail (e := (e.1, z)) rfl).symm
    · rw [up_j (by omega), hT c hc d hd, hp]
      exact (enc_sett hd2).symm
  · rw [up_j (by omega), uP_o hci]
    exact hT c hc d hd
/-- a leaf's entries are others, the rows of pages the same -/
theorem good_leaf (hg : Good P root L V lvl) (ht : t + 1 = L) (hv : V t = A ++ (s, (i : Int)) :: B) (hl : l = (P i).2.1) (hp : POk (1, l, es)) (hpw : (lfs P A ++ (s, 0) :: (es.map k1 ++ lfs P B)).Pairwise lt2) : Good (uP P i (1, l, es)) root L V lvl := by
  obtain ⟨hcore, h0, heq, hL1, hL32, hr, hroot⟩ := hg
  have hi := Core_sort hcore (n := t) (s := s) (i := i) (by omega) (by rw [hv]; simp)
  refine ⟨core_lf hcore ht hv hl hp hpw, h0, ?_, hL1, hL32, hr, ?_⟩
  · intro n hn
    rw [heq n hn, exp_lv hcore (by omega) (by omega)]
  · intro h
    have : root ≠ i := by
      intro he
      have h1 := Core_sort hcore (n := 0) (i := root) (s := []) (by omega) (by rw [h0]; simp)
      rw [he] at h1
      omega
    rw [uP_o this]
    exact hroot h
/-- what is known before a key comes into its leaf -/
theorem leaf_new (hg : Good P root L V lvl) (hv : V (L - 1) = A ++ (s, (i : Int)) :: B) (hes : (P i).2.2 = a ++ b) (hs : cmp s w ≤ 0) (hB : Hgt w B) (ha : ∀ e ∈ a, cmp e.1 w < 0) (hb : ∀ e, b.head? = some e → cmp w e.1 < 0) : (lfs P A ++ (s, 0) :: ((a ++ (w, z) :: b).map k1 ++ lfs P B)).Pairwise lt2 := by
  have := hg.1.2.2.2.2.2
  rw [hv] at this
  exact pw_new this hes hs hB ha hb
theorem put_new {m : Nat} (hm : m + 1 = L) (hg : Good P root L V lvl) (hd : Down P w root L W T) (hpth : Pth P V W T As Bs ss (m)) (hcp : ∀ n, n < L → cmp (ss n) w ≤ 0 ∧ Hgt w (Bs n)) (hes : (P (W (m))).2.2 = a ++ b) (ha : ∀ e ∈ a, cmp e.1 w < 0) (hb : ∀ e, b.head? = some e → cmp w e.1 < 0) (hfree : L < nS P 0 32) (hw : LOk w) (hw1 : 1 ≤ w.length) (hz : 0 ≤ z ∧ z ≤ 255) (hRC : RC C P root L c1 c2 c3) (hWC : WayC C L W T) (hKC : KyC C 1 w) (hRX : RX X P root L c1 c2 c3) (hWX : WayX X L W T) (hRow : RowX X (a ++ (w, z) :: b)) {v3 : Int} (hv3 : v3 = (a.length : Int)) : Fin C X (f_X0_insertUpward_16 kCc FU v3 z (m : Int) C) (f_X8_putKey_104 kX FU (m : Int) ((W (m) : Nat) : Int) X) 0 (-9) := by
  have hfu : FU = 4999 + 1 := FU_eq
  have hg0 := hg
  obtain ⟨hcore, h0, heq, hL1, hL32, hr, hroot⟩ := hg
  have hnle := nS_le P 0 32
  have hvt := hpth.1 (m) (Nat.le_refl _)
  have hso := Core_sort hcore (n := m) (by omega) (show (ss (m), ((W (m) : Nat) : Int)) ∈ V (m) by rw [hvt]; simp)
  rw [if_pos (by omega)] at hso
  have hpi : P (W (m)) = (1, (P (W (m))).2.1, a ++ b) := by rw [← hes, ← hso.2.2]
  have hlink := (hcore.1 _ hso.1).2.2.2
  have hsz0 : szs (a ++ b) ≤ 61 := by have := (hcore.1 _ hso.1).2.1; rw [hes] at this; exact this
  have hsz1 := szs_1 (z := z) hw hsz0
  have heo : EsOk (a ++ (w, z) :: b) := hRow.2.2
  have h3 := len_szs3 _ heo
  have hpw := leaf_new (z := z) hg0 (by rw [show L - 1 = m by omega]; exact hvt) hes (hcp (m) (by omega)).1 (hcp (m) (by omega)).2 ha hb
  rw [hfu]
  by_cases hfit : szs (a ++ (w, z) :: b) ≤ 61
  · obtain ⟨C', f1, f2, f3, f4⟩ := sp_inFit (K := kCc) (n := 4999) hcore.1 hRC.1 hWC hL32 (t := m) (by omega) rfl hso.1 hpi (Or.inl rfl) hKC hw1 (z := z) (v3 := v3) (v5 := (m : Int)) hz hv3 rfl hfit
    have hpg := TX_pg hcore.1 hRX.1 hso.1
    have mk := mx_back (i := W (m)) (p := ((W (m) : Nat) : Int)) (s := 1) (l := (P (W (m))).2.1) (X := X) (x := []) (y := a ++ (w, z) :: b) (z := []) (q4 := 0) (q5 := X 95 6) hso.1 rfl (by rw [List.append_nil]; exact hRow.2.1) heo (by simpa using (show (a ++ (w, z) :: b).length ≤ 48 by omega)) hfit (by rfl) (by rw [hRow.1]; simp)
    have hmod : f_X8_putKey_104 kX (4999 + 1) (m : Int) ((W (m) : Nat) : Int) X = some (stX X (W (m)) (enc 1 (P (W (m))).2.1 (a ++ (w, z) :: b)), -9) := by
      rw [mx_inFit hRow (by omega) hfit]
      unfold kX
      rw [mx_0 hpg rfl, bd_some, mx_2 hpg rfl, bd_some, hso.2.2, mk, bd_some]
    have hpok : POk (1, (P (W (m))).2.1, a ++ (w, z) :: b) := ⟨heo, hfit, by show (0 : Int) ≤ 1 ∧ (1 : Int) ≤ 2; omega, hlink⟩
    have hgd := good_leaf hg0 (t := m) (by omega) hvt rfl hpok hpw
    have hfx : Fx X (stX X (W (m)) (enc 1 (P (W (m))).2.1 (a ++ (w, z) :: b))) := Fx_st Fx_refl
    refine ⟨C', _, _, root, L, c1, c2, c3, f1, hmod, RC_Fc hRC f3 f2 ?_ ?_ ?_, RX_Fx hRX hfx (TX_st (pg := (1, (P (W (m))).2.1, a ++ (w, z) :: b)) hRX.1 ⟨rfl, rfl, rfl⟩) ?_ ?_ ?_, ⟨_, _, hgd⟩, Fc_KpC f3, Fx_KpX hfx⟩
    · rw [f4]; exact hRC.2.2.2.1
    · rw [f4]; exact hRC.2.2.2.2.1
    · rw [f4]; exact hRC.2.2.2.2.2
    · rw [stX_k (by omega)]; exact hRX.2.2.2.1
    · rw [stX_k (by omega)]; exact hRX.2.2.2.2.1
    · rw [stX_k (by omega)]; exact hRX.2.2.2.2.2
  · obtain ⟨x', u, v, y, e1, e2, e3, e4, e5⟩ := hf_split heo (by omega)
    have e6 : szs (a ++ (w, z) :: b) = szs (x' ++ [u]) + szs (v :: y) := by rw [e1, szs_app]
    have heo2 := heo
    rw [e1] at heo2
    have ev := EsOk_mid heo2
    have ex := (EsOk_app.mp heo2).1
    have ey := (EsOk_app.mp heo2).2
    rw [e1] at hpw
    have hpw1 : ((lfs P (As (m)) ++ [(ss (m), 0)]) ++ ((x' ++ [u]) ++ v :: y).map k1 ++ lfs P (Bs (m))).Pairwise lt2 := by
      have : (lfs P (As (m)) ++ [(ss (m), 0)]) ++ ((x' ++ [u]) ++ v :: y).map k1 ++ lfs P (Bs (m)) = lfs P (As (m)) ++ (ss (m), 0) :: (((x' ++ [u]) ++ v :: y).map k1 ++ lfs P (Bs (m))) := by simp
      rw [this]; exact hpw
    obtain ⟨hc, hpw2⟩ := pw_part hpw1
    have hpw3 : (lfs P (As (m)) ++ (ss (m), 0) :: ((x' ++ [u]).map k1 ++ (sep u.1 v.1, 0) :: ((v :: y).map k1 ++ lfs P (Bs (m))))).Pairwise lt2 := by
      have : (lfs P (As (m)) ++ [(ss (m), 0)]) ++ ((x' ++ [u]).map k1 ++ (sep u.1 v.1, 0) :: ((v :: y).map k1 ++ lfs P (Bs (m)))) = lfs P (As (m)) ++ (ss (m), 0) :: ((x' ++ [u]).map k1 ++ (sep u.1 v.1, 0) :: ((v :: y).map k1 ++ lfs P (Bs (m)))) := by simp
      rw [← this]; exact hpw2
    obtain ⟨q, hq⟩ := lf_ex (P := P) (by omega)
    have hq0 := hq.2.1
    have hq32 := hq.1
    obtain ⟨C1, f1, f2, f3, f4, f5, f6, f7⟩ := sp_inL (K := kCc) (n := 4999) hcore.1 hRC.1 hWC hL32 (t := m) (by omega) rfl hso.1 hpi hKC hw1 (z := z) (v3 := v3) (v5 := (m : Int)) hz hv3 rfl (by omega) hq e1 e2 hc (by omega) (by omega)
    obtain ⟨X1, g1, g2, g3, g4, g5, g6, g7⟩ := mx_inL (K := kX) (n := 4999) hcore.1 hRX.1 hRow hso.1 hpi (by omega) (by omega) (by omega) hq e1 e2 hc (by omega) (by omega) (v2 := (m : Int)) (v3 := ((W (m) : Nat) : Int)) rfl (by omega)
    have hp1 : POk (1, (q : Int) + 1, x' ++ [u]) := ⟨ex, by show szs (x' ++ [u]) ≤ 61; omega, by show (0 : Int) ≤ 1 ∧ (1 : Int) ≤ 2; omega, by show (0 : Int) ≤ (q : Int) + 1 ∧ (q : Int) + 1 ≤ 255; omega⟩
    have hp2 : POk (1, (P (W (m))).2.1, v :: y) := ⟨ey, by show szs (v :: y) ≤ 61; omega, by show (0 : Int) ≤ 1 ∧ (1 : Int) ≤ 2; omega, hlink⟩
    have hcore' := core_spL (s2 := sep u.1 v.1) hcore (t := m) (by omega) hvt hq0 hq32 hp1 hp2 hpw3
    have hiq : W (m) ≠ q := by intro h; rw [h, hq0] at hso; omega
    have hsl := sep_LOk (u := u.1) (EOk_L ev)
    have hsl1 := sep_pos hc
    have hRC1 : RC C1 (uP (uP P (W (m)) (1, (q : Int) + 1, x' ++ [u])) q (1, (P (W (m))).2.1, v :: y)) root L (c1 + 1) c2 c3 := RC_Fc hRC f4 f2 (by rw [f5, hRC.2.2.2.1]) (by rw [f6, hRC.2.2.2.2.1]) (by rw [f7, hRC.2.2.2.2.2])
    have hRX1 : RX X1 (uP (uP P (W (m)) (1, (q : Int) + 1, x' ++ [u])) q (1, (P (W (m))).2.1, v :: y)) root L c1 c2 c3 := RX_Fx hRX g3 g1 (by rw [g4, hRX.2.2.2.1]) (by rw [g5, hRX.2.2.2.2.1]) (by rw [g6, hRX.2.2.2.2.2])
    have hnS : L ≤ nS (uP (uP P (W (m)) (1, (q : Int) + 1, x' ++ [u])) q (1, (P (W (m))).2.1, v :: y)) 0 32 := by
      have n1 := nS_u (P := P) (n := 32) (p := (1, (q : Int) + 1, x' ++ [u])) hso.1
      rw [if_neg (by rw [hso.2.2]; omega)] at n1
      have n2 := nS_u (P := uP P (W (m)) (1, (q : Int) + 1, x' ++ [u])) (n := 32) (p := (1, (P (W (m))).2.1, v :: y)) hq32
      split at n2 <;> omega
    have hup : ∀ n, n < m → ∀ e ∈ V n, uP (uP P (W (m)) (1, (q : Int) + 1, x' ++ [u])) q (1, (P (W (m))).2.1, v :: y) e.2.toNat = P e.2.toNat := by
      intro n hn e he
      have h1 := Core_free hcore hq0 (show n < L by omega) he
      obtain ⟨k, q1, q2, q3, q4⟩ := hcore.2.1 n (by omega) e he
      rw [uP_o (by omega), uP_o (by intro h; have : k = W (m) := by omega
                                    rw [this] at q3; omega)]
    cases m with
    | zero =>
      have hvt0 : V 0 = As 0 ++ (ss 0, ((W 0 : Nat) : Int)) :: Bs 0 := hvt
      rw [h0] at hvt0
      obtain ⟨s1, s2, s3⟩ := single hvt0
      have s2a : ss 0 = [] := congrArg Prod.fst s2
      have hW0 : W 0 = root := hd.1
      rw [f1, g7, tEq (by omega)]
      show Fin C X (f_X0_insertUpward_16 kCc 4999 (C 22 0) (q : Int) (-1) C1) (bd (f_X8_newRoot ((W 0 : Nat) : Int) (q : Int) _) _) 0 (-9)
      rw [hW0]
      refine Fin_tr (Fc_KpC f4) (Fx_KpX g3) (put_root (C := C1) (X := X1) (n1 := 4998) (s2 := sep u.1 v.1) hcore' (by omega) (by omega) hr ?_ ?_ (by omega) hsl hsl1 hq32 hRC1 f3 hRX1 g2)
      · show uV V 0 (As 0 ++ (ss 0, ((W 0 : Nat) : Int)) :: (sep u.1 v.1, (q : Int)) :: Bs 0) 0 = _
        rw [uV_s, s1, s3, s2a, hW0]
        rfl
      · intro n hn
        omega
    | succ t =>
      obtain ⟨a', b', pre, d1, d2, d3, d4, d5⟩ := hpth.2 t (by omega)
      have hWt : ∀ n, n ≤ t → uP (uP P (W (t + 1)) (1, (q : Int) + 1, x' ++ [u])) q (1, (P (W (t + 1))).2.1, v :: y) (W n) = P (W n) := by
        intro n hn
        have := hup n (by omega) (ss n, ((W n : Nat) : Int)) (by rw [hpth.1 n (by omega)]; simp)
        simpa using this
      have hAs : ∀ n, n ≤ t → exp (uP (uP P (W (t + 1)) (1, (q : Int) + 1, x' ++ [u])) q (1, (P (W (t + 1))).2.1, v :: y)) (As n) = exp P (As n) := by
        intro n hn
        exact exp_c (fun e he => hup n (by omega) e (by rw [hpth.1 n (by omega)]; simp; exact Or.inl he))
      have hBs : ∀ n, n ≤ t → exp (uP (uP P (W (t + 1)) (1, (q : Int) + 1, x' ++ [u])) q (1, (P (W (t + 1))).2.1, v :: y)) (Bs n) = exp P (Bs n) := by
        intro n hn
        exact exp_c (fun e he => hup n (by omega) e (by rw [hpth.1 n (by omega)]; simp; exact Or.inr (Or.inr he)))
      have hsot := Core_sort hcore (n := t) (by omega) (show (ss t, ((W t : Nat) : Int)) ∈ V t by rw [hpth.1 t (by omega)]; simp)
      rw [if_neg (by omega)] at hsot
      have hpA : uP (uP P (W (t + 1)) (1, (q : Int) + 1, x' ++ [u])) q (1, (P (W (t + 1))).2.1, v :: y) (W t) = (2, (P (W t)).2.1, a' ++ b') := by
        rw [hWt t (by omega), ← d1, ← hsot.2.2]
      obtain ⟨X2, m1, m2, m3, m4, m5, m6, m7⟩ := mx_next (K := kX) (n := 4999) hcore'.1 hRX1.1 g2 hsl1 (WayX_Fx hWX g3) (t := t) (by omega) (by omega) rfl (hd.2.1 t (by omega)) hpA d2.symm (r := (q : Int)) (v2 := ((t + 1 : Nat) : Int) + -1) (by omega) (by omega)
      have hp2 : Pend C1 X2 (uP (uP P (W (t + 1)) (1, (q : Int) + 1, x' ++ [u])) q (1, (P (W (t + 1))).2.1, v :: y)) (uV V (t + 1) (As (t + 1) ++ (ss (t + 1), ((W (t + 1) : Nat) : Int)) :: (sep u.1 v.1, (q : Int)) :: Bs (t + 1))) (fun k => if k = q then t + 1 else lvl k) root L t W T As Bs ss a' b' (sep u.1 v.1) q (c1 + 1) c2 c3 := by
        refine ⟨hcore', by omega, by omega, hr, ?_, ?_, ⟨?_, ?_⟩, hd.1, hd.2.1, ?_, d2, ?_, by omega, hq32, hsl, hsl1, ?_, hRC1, WayC_Fc hWC f4, f3, RX_Fx hRX1 m4 m2 ?_ ?_ ?_, WayX_Fx (WayX_Fx hWX g3) m4, m3⟩
        · rw [uV_o (by omega)]; exact h0
        · intro n hn hnt
          rw [uV_o (by omega), uV_o (by omega), heq n hn]
          exact (exp_c (fun e he => hup n (by omega) e he)).symm
        · intro n hn
          rw [uV_o (by omega)]
          exact hpth.1 n (by omega)
        · intro n hn
          obtain ⟨a2, b2, pre2, g1, g2, g3, g4, g5⟩ := hpth.2 n (by omega)
          refine ⟨a2, b2, pre2, ?_, g2, ?_, ?_, ?_⟩
          · rw [hWt n (by omega)]; exact g1
          · rw [hWt n (by omega)]; exact g3
          · rw [hAs n (by omega)]; exact g4
          · rw [hBs n (by omega)]; exact g5
        · rw [hWt t (by omega)]; exact d1
        · rw [uV_s, hAs t (by omega), hBs t (by omega), hWt t (by omega), d4, d5]
          have : (ss t, (P (W t)).2.1) :: ((a' ++ (sep u.1 v.1, (q : Int)) :: b') ++ exp P (Bs t)) = ((ss t, (P (W t)).2.1) :: a') ++ (sep u.1 v.1, (q : Int)) :: (b' ++ exp P (Bs t)) := by simp
          rw [this, d3]
          simp
        · intro _
          have : uP (uP P (W (t + 1)) (1, (q : Int) + 1, x' ++ [u])) q (1, (P (W (t + 1))).2.1, v :: y) root = P root := by
            rw [← hd.1]; exact hWt 0 (by omega)
          rw [this]
          exact hroot (by omega)
        · rw [m5, hRX1.2.2.2.1]
        · rw [m6, hRX1.2.2.2.2.1]
        · rw [m7, hRX1.2.2.2.2.2]
      have hslot : C 22 (t + 1) = (T t : Int) := hWC.2 t (by omega)
      have ih := put_up t 4999 4999 C1 X2 _ _ _ a' b' (sep u.1 v.1) q (c1 + 1) (C 22 (t + 1)) (by omega) (by omega) hp2 hslot
      rw [f1, g7, fEq (by omega), ix_t (by omega), m1, show ((t + 1 : Nat) : Int) + -1 = (t : Int) by omega]
      exact Fin_tr (Fc_KpC f4) (KpX_tr (Fx_KpX g3) (Fx_KpX m4)) ih
end PK
end
section
/-! PUT a key: found, full, new. -/
section PQ
variable {C C' X X' : Mem} {P P' : Nat → Pg} {L n t i j q root k : Nat} {V V' : Nat → List Ent} {lvl lvl' : Nat → Nat} {A B R S a b x y es : List Ent} {e f u v : Ent} {s s2 w : List Int} {r l l1 l2 z c1 c2 c3 : Int} {p : Pg} {W T : Nat → Nat} {As Bs : Nat → List Ent} {ss : Nat → List Int}
/-- both have come down to the leaf of a key -/
theorem both_down (hg : Good P root L V lvl) (hRC : RC C P root L c1 c2 c3) (hRX : RX X P root L c1 c2 c3) (hKC : KyC C k w) (hk5 : k < 5) (hKX : KX X w) : ∃ C1 X1 W T As Bs ss m, m + 1 = L ∧ Down P w root L W T ∧ Pth P V W T As Bs ss m ∧ (∀ n, n < L → cmp (ss n) w ≤ 0 ∧ Hgt w (Bs n)) ∧ W m < 32 ∧ (P (W m)).1 = 1 ∧ f_X6_goDown k C = some (C1, 0) ∧ RC C1 P root L c1 c2 c3 ∧ WayC C1 L W T ∧ KyC C1 k w ∧ KpC C C1 ∧ f_X8_goesDown X = some (X1, 0) ∧ RX X1 P root L c1 c2 c3 ∧ WayX X1 L W T ∧ KX X1 w ∧ KpX X X1 := by
  obtain ⟨W, T, As, Bs, ss, hd, hpth, hcp⟩ := Good_way hg w
  obtain ⟨hcore, h0, heq, hL1, hL32, hr, hroot⟩ := hg
  obtain ⟨C1, g1, g2, g3⟩ := sp_down hcore.1 hRC.1 hRC.2.1 hRC.2.2.1 hL1 hL32 hKC hk5 hd
  obtain ⟨X1, x1, x2, x3⟩ := mx_down hcore.1 hRX.1 hRX.2.1 hRX.2.2.1 hL32 hKX hd
  obtain ⟨m, rfl⟩ : ∃ m, L = m + 1 := ⟨L - 1, by omega⟩
  have hvt := hpth.1 m (by omega)
  have hso := Core_sort hcore (n := m) (by omega) (show (ss m, ((W m : Nat) : Int)) ∈ V m by rw [hvt]; simp)
  rw [if_pos rfl] at hso
  refine ⟨C1, X1, W, T, As, Bs, ss, m, rfl, hd, hpth, hcp, hso.1, hso.2.2, g1, ⟨TC_fr hRC.1 (fun x y hx => g2 x y (by omega) (by omega)), ?_, ?_, ?_, ?_, ?_⟩, g3, ⟨?_, ?_, hKC.2.2⟩, ?_, x1, ⟨TX_fr hRX.1 (fun y => x2 _ y (by omega) (by omega)), ?_, ?_, ?_, ?_, ?_⟩, x3, ⟨?_, ?_, hKX.2.2⟩, ?_⟩
  · rw [g2 _ _ (by omega) (by omega)]; exact hRC.2.1
  · rw [g2 _ _ (by omega) (by omega)]; exact hRC.2.2.1
  · rw [g2 _ _ (by omega) (by omega)]; exact hRC.2.2.2.1
  · rw [g2 _ _ (by omega) (by omega)]; exact hRC.2.2.2.2.1
  · rw [g2 _ _ (by omega) (by omega)]; exact hRC.2.2.2.2.2
  · rw [g2 _ _ (by omega) (by omega)]; exact hKC.1
  · intro j hj; rw [g2 _ _ (by omega) (by omega)]; exact hKC.2.1 j hj
  · intro x y h1 h2 h3; exact g2 x y (by omega) (by omega)
  · rw [x2 _ _ (by omega) (by omega)]; exact hRX.2.1
  · rw [x2 _ _ (by omega) (by omega)]; exact hRX.2.2.1
  · rw [x2 _ _ (by omega) (by omega)]; exact hRX.2.2.2.1
  · rw [x2 _ _ (by omega) (by omega)]; exact hRX.2.2.2.2.1
  · rw [x2 _ _ (by omega) (by omega)]; exact hRX.2.2.2.2.2
  · rw [x2 _ _ (by omega) (by omega)]; exact hKX.1
  · intro j hj; rw [x2 _ _ (by omega) (by omega)]; exact hKX.2.1 j hj
  · intro x y h1; exact x2 x y (by omega) (by omega)
/-- where a key is, or comes in, in its leaf -/
theorem leaf_at (w : List Int) (es : List Ent) : ∃ a b, es = a ++ b ∧ a.length = cb 0 w es ∧ (∀ e ∈ a, cmp e.1 w < 0) ∧ ((∃ e b', b = e :: b' ∧ cmp e.1 w = 0) ∨ (∀ e, b.head? = some e → cmp w e.1 < 0 ∧ cmp e.1 w ≠ 0)) := by
  have h := cb_spec 0 w es
  refine ⟨es.take (cb 0 w es), es.drop (cb 0 w es), (List.take_append_drop _ _).symm, ?_, h.1, ?_⟩
  · rw [List.length_take]
    have := cb_le 0 w es
    omega
  · cases hb : es.drop (cb 0 w es) with
    | nil => exact Or.inr (fun e he => by simp at he)
    | cons e b' =>
      by_cases h0 : cmp e.1 w = 0
      · exact Or.inl ⟨e, b', rfl, h0⟩
      · refine Or.inr ?_
        intro x hx
        simp at hx
        subst hx
        have h1 := h.2 e (by rw [hb]; rfl)
        have h2 := cmp_anti w e.1
        exact ⟨by omega, h0⟩
theorem put_key (hgs : GoodS P root L) (hRC : RC C P root L c1 c2 c3) (hRX : RX X P root L c1 c2 c3) (hKC : KyC C k w) (hk5 : k < 5) (hk1 : k ≠ 1) (hKX : KX X w) (hw1 : 1 ≤ w.length) (hz : 0 ≤ z ∧ z ≤ 255) : ∃ y, -9 ≤ y ∧ y ≤ 255 ∧ Fin C X (f_X0_putKey k z C) (f_X8_putKey z X) y y := by
  obtain ⟨V, lvl, hg⟩ := hgs
  obtain ⟨C1, X1, W, T, As, Bs, ss, m, hm, hd, hpth, hcp, hi32, hi1, g1, hRC1, hWC, hKC1, hkc, x1, hRX1, hWX, hKX1, hkx⟩ := both_down hg hRC hRX hKC hk5 hKX
  have hg0 := hg
  obtain ⟨hcore, h0, heq, hL1, hL32, hr, hroot⟩ := hg
  have hvt := hpth.1 m (Nat.le_refl _)
  obtain ⟨a, b, hes, hal, ha, hb⟩ := leaf_at w (P (W m)).2.2
  have hpC := TC_pg hcore.1 hRC1.1 hi32
  have hpX := TX_pg hcore.1 hRX1.1 hi32
  have hlink := (hcore.1 _ hi32).2.2.2
  have hsz : szs (P (W m)).2.2 ≤ 61 := (hcore.1 _ hi32).2.1
  have hpi : P (W m) = (1, (P (W m)).2.1, a ++ b) := by rw [← hes, ← hi1]
  have hpC' : PgC C1 (W m) 1 (P (W m)).2.1 (a ++ b) := by rw [hpi] at hpC; exact hpC
  have hpX' : PgX X1 (W m) 1 (P (W m)).2.1 (a ++ b) := by rw [hpi] at hpX; exact hpX
  have hpo := sp_pageOn hWC hL32 (t := m) (by omega) hi32 (z := (L : Int) - 1) (by omega)
  have hbl := sp_below (t := 0) (Or.inl rfl) hpC' hKC1
  have hpl := mx_place (p := ((W m : Nat) : Int)) hpX' rfl hKX1
  rw [hes] at hal
  rw [← hal] at hbl hpl
  have hway : X1 102 ((L : Int) - 1).toNat = ((W m : Nat) : Int) := by rw [show ((L : Int) - 1).toNat = m by omega]; exact hWX.1 m (by omega)
  have preC : f_X0_putKey k z C = (bd (f_X4_isEntry (W m) (a.length : Int) k C1) (fun C37 r37 => (cEq (r37) 0 (bd (f_X6_pagesOfSort (0) C37) (fun C66 r66 => (cLt (C66 1 5) (r66) (bd (f_X3_copyFrom 1 k C66) (fun C87 _ => (bd (f_X0_insertUpward (a.length : Int) (z) C87) (fun C94 _ => (some (C94, -9)))))) (some (C66, -3))))) (bd (f_X4_tail (W m) (a.length : Int) C37) (fun C46 r46 => (bd (f_X4_setTail (W m) (a.length : Int) (z) C46) (fun C55 _ => (some (C55, r46))))))))) := by
    unfold f_X0_putKey
    rw [g1, bd_some, hRC1.2.2.1, hpo, bd_some, hbl, bd_some]
  have preX : f_X8_putKey z X = (bd (f_X8_isAt ((W m : Nat) : Int) (a.length : Int) X1) (fun C29 r29 => (cEq (r29) 0 (bd (f_X8_freeMany C29) (fun C66 r66 => (cLt (C66 95 2) (r66) (bd (f_X8_comeOut ((W m : Nat) : Int) (up C66 95 6 (0))) (fun C86 _ => (bd (f_X8_comesIn (a.length : Int) 1 (C86 95 12) (z) C86) (fun C101 _ => (f_X8_putKey_104 kX FU ((L : Int) - 1) ((W m : Nat) : Int) C101))))) (some (C66, -3))))) (bd (f_X8_tellAt ((W m : Nat) : Int) (a.length : Int) C29) (fun C43 r43 => (ix (r43) 2048 (bd (f_X8_tellAt ((W m : Nat) : Int) (a.length : Int) C43) (fun C57 r57 => (ix (r57) 2048 (some ((up C57 (96) (r57).toNat (z)), C43 (96) (r43).toNat)))))))))))  := by
    unfold f_X8_putKey
    rw [x1, bd_some, hRX1.2.2.1, ix_t (by omega), hway, hpl, bd_some]
    rfl
  rcases hb with ⟨e, b', hb1, hb2⟩ | hb
  · -- it is there
    rw [hb1] at hpC' hpX' hes
    have heo := (hcore.1 _ hi32).1
    rw [hes] at heo hsz
    have he := EsOk_mid heo
    have hzz := hsz
    rw [szs_app, szs_cons] at hzz
    have hpi2 : P (W m) = (1, (P (W m)).2.1, a ++ e :: b') := by rw [← hes, ← hi1]
    have hsz2 : szs (a ++ (e.1, z) :: b') ≤ 61 := by rw [szs_app, szs_cons]; exact hzz
    have heo2 : EsOk (a ++ (e.1, z) :: b') := by
      have h1 := EsOk_app.mp heo
      have h2 := EsOk_cons.mp h1.2
      exact EsOk_app.mpr ⟨h1.1, EsOk_cons.mpr ⟨⟨he.1, he.2.1, he.2.2.1, hz⟩, h2.2⟩⟩
    refine ⟨e.2, by have := he.2.2.2; omega, he.2.2.2.2, Fin_tr hkc hkx ?_⟩
    have hpok : POk (1, (P (W m)).2.1, a ++ (e.1, z) :: b') := ⟨heo2, hsz2, by show (0 : Int) ≤ 1 ∧ (1 : Int) ≤ 2; omega, hlink⟩
    have hpw : (lfs P (As m) ++ (ss m, 0) :: ((a ++ (e.1, z) :: b').map k1 ++ lfs P (Bs m))).Pairwise lt2 := by
      have h1 := hcore.2.2.2.2.2
      rw [show L - 1 = m by omega, hvt, lfs_mid, hes] at h1
      have h2 : (a ++ (e.1, z) :: b').map k1 = (a ++ e :: b').map k1 := by simp [k1]
      rw [h2]; exact h1
    have hgd := good_leaf hg0 hm hvt rfl hpok hpw
    have hfc : Fc C1 (stP C1 (W m) (enc 1 (P (W m)).2.1 (a ++ (e.1, z) :: b'))) := Fc_st Fc_refl
    have hfx : Fx X1 (up X1 96 (64 * W m + (3 + szs a + 1 + e.1.length)) z) := fun c d q1 _ _ _ _ _ => up_k q1
    have hv96 : X1 96 (64 * W m + (3 + szs a + 1 + e.1.length)) = e.2 := by
      rw [hpX'.1 _ (by omega), enc_tail rfl]
    refine ⟨_, _, _, root, L, c1, c2, c3, ?_, ?_, RC_Fc hRC1 hfc (TC_st (p := (1, (P (W m)).2.1, a ++ (e.1, z) :: b')) hRC1.1 hi32 ⟨rfl, rfl, rfl⟩) ?_ ?_ ?_, RX_Fx hRX1 hfx (TX_tell hRX1.1 hi32 hpi2 hsz) ?_ ?_ ?_, ⟨_, _, hgd⟩, Fc_KpC hfc, Fx_KpX hfx⟩
    · rw [preC, sp_isEntry hpC' hKC1 rfl, bd_some, if_pos hb2, fEq (by omega), sp_tail hpC' rfl, bd_some, sp_setTail hpC' rfl, bd_some]
    · rw [preX, mx_isAt hpX' rfl hKX1 rfl, bd_some, if_pos hb2, fEq (by omega), mx_tell hpX' rfl rfl, bd_some, ix_t (by omega), mx_tell hpX' rfl rfl, bd_some, ix_t (by omega), nat2 rfl, hv96]
    · rw [stP_k (by omega)]; exact hRC1.2.2.2.1
    · rw [stP_k (by omega)]; exact hRC1.2.2.2.2.1
    · rw [stP_k (by omega)]; exact hRC1.2.2.2.2.2
    · rw [up_k (by omega)]; exact hRX1.2.2.2.1
    · rw [up_k (by omega)]; exact hRX1.2.2.2.2.1
    · rw [up_k (by omega)]; exact hRX1.2.2.2.2.2
  · have hisC : f_X4_isEntry (W m) (a.length : Int) k C1 = some (C1, 0) := by
      cases b with
      | nil =>
        rw [List.append_nil] at hpC'
        exact sp_isEntry_end hpC' rfl
      | cons e b' =>
        rw [sp_isEntry hpC' hKC1 rfl, if_neg (hb e rfl).2]
    have hisX : f_X8_isAt ((W m : Nat) : Int) (a.length : Int) X1 = some (X1, 0) := by
      cases b with
      | nil =>
        rw [List.append_nil] at hpX'
        exact mx_isAt_end hpX' rfl rfl
      | cons e b' =>
        rw [mx_isAt hpX' rfl hKX1 rfl, if_neg (hb e rfl).2]
    have hnle := nS_le P 0 32
    by_cases hfree : L < nS P 0 32
    · -- it is new
      refine ⟨-9, by omega, by omega, Fin_tr hkc hkx ?_⟩
      have hkk : KyC (stK C1 1 w) 1 w := stK_KC hKC.2.2
      have hfk : Fk C1 (stK C1 1 w) := Fk_stK (by omega)
      have hRC2 : RC (stK C1 1 w) P root L c1 c2 c3 := RC_Fc hRC1 (Fk_Fc hfk) (Fk_TC hRC1.1 hfk) (by rw [hfk _ _ (by omega)]; exact hRC1.2.2.2.1) (by rw [hfk _ _ (by omega)]; exact hRC1.2.2.2.2.1) (by rw [hfk _ _ (by omega)]; exact hRC1.2.2.2.2.2)
      obtain ⟨X2, o1, o2, o3⟩ := mx_out0 hpX' (p := ((W m : Nat) : Int)) rfl
      have hKX2 : KX X2 w := ⟨by rw [o3 _ _ (by omega) (by omega) (by omega) (by omega)]; exact hKX1.1, fun j hj => by rw [o3 _ _ (by omega) (by omega) (by omega) (by omega)]; exact hKX1.2.1 j hj, hKX1.2.2⟩
      have hlen := PgX_len hpX'
      obtain ⟨X3, n1, n2, n3⟩ := mx_in (c := 1) (w := w) (t := z) o2 hKX2.2.1 hKX.2.2 hw1 (by omega) (by omega) (q := (a.length : Int)) (n := (w.length : Int)) rfl rfl hz
      have hF := Fro_tr o3 n3
      have hRX3 : RX X3 P root L c1 c2 c3 := RX_Fx hRX1 (Fro_Fx hF) (Fro_TX hRX1.1 hF) (by rw [hF _ _ (by omega) (by omega) (by omega) (by omega)]; exact hRX1.2.2.2.1) (by rw [hF _ _ (by omega) (by omega) (by omega) (by omega)]; exact hRX1.2.2.2.2.1) (by rw [hF _ _ (by omega) (by omega) (by omega) (by omega)]; exact hRX1.2.2.2.2.2)
      have fin := put_new (v3 := (a.length : Int)) (z := z) hm hg0 hd hpth hcp hes ha (fun e he => (hb e he).1) hfree hKC.2.2 hw1 hz hRC2 (WayC_Fc hWC (Fk_Fc hfk)) hkk hRX3 (WayX_Fx hWX (Fro_Fx hF)) n2 rfl
      obtain ⟨C', X', P', root', L', d1, d2, d3, q1, q2, q3, q4, q5, q6, q7⟩ := fin
      refine ⟨C', X', P', root', L', d1, d2, d3, ?_, ?_, q3, q4, q5, KpC_tr (Fc_KpC (Fk_Fc hfk)) q6, KpX_tr (Fx_KpX (Fro_Fx hF)) q7⟩
      · rw [preC, hisC, bd_some, tEq (by omega), sp_pos hcore.1 hRC1.1 (by omega), bd_some, hRC1.2.2.1, tLt (by omega), sp_kcopy (by omega) hKC1, bd_some]
        unfold f_X0_insertUpward
        rw [hRC2.2.2.1, show ((L : Int) - 1) = (m : Int) by omega]
        have q1' := q1
        unfold kCc at q1'
        rw [q1', bd_some]
      · rw [preX, hisX, bd_some, tEq (by omega), mx_free hcore.1 hRX1.1, bd_some, hRX1.2.2.1, tLt (by omega), o1, bd_some, hKX2.1, n1, bd_some, show ((L : Int) - 1) = (m : Int) by omega]
        exact q2
    · -- full
      refine ⟨-3, by omega, by omega, Fin_tr hkc hkx ⟨C1, X1, P, root, L, c1, c2, c3, ?_, ?_, hRC1, hRX1, ⟨V, lvl, hg0⟩, KpC_refl, KpX_refl⟩⟩
      · rw [preC, hisC, bd_some, tEq (by omega), sp_pos hcore.1 hRC1.1 (by omega), bd_some, hRC1.2.2.1, fLt (by omega)]
      · rw [preX, hisX, bd_some, tEq (by omega), mx_free hcore.1 hRX1.1, bd_some, hRX1.2.2.1, fLt (by omega)]
end PQ
end
section
/-! THE TREE: joining, sharing, the root goes. -/
def Good0 (P : Nat → Pg) (root L : Nat) (V : Nat → List Ent) (lvl : Nat → Nat) : Prop := Core P L V lvl ∧ V 0 = [([], (root : Int))] ∧ (∀ n, n + 1 < L → V (n + 1) = exp P (V n)) ∧ 1 ≤ L ∧ L ≤ 32 ∧ root < 32
section C2
variable {P P' : Nat → Pg} {L n t i j q root Ab : Nat} {V V' : Nat → List Ent} {lvl lvl' : Nat → Nat} {A B A1 B1 R S a b x y es le re ws : List Ent} {e f u v : Ent} {s s1 s2 s3 sA w : List Int} {r l l1 l2 z la ll lr sv : Int} {p pi pj pA : Pg}
/-- three pages: two neighbours and the one above them -/
theorem three (h : Core P L V lvl) (ht : t + 1 < L) (hv : V (t + 1) = A ++ (s1, (i : Int)) :: (s2, (j : Int)) :: B) (hA : (sA, (Ab : Int)) ∈ V t) : i < 32 ∧ j < 32 ∧ Ab < 32 ∧ i ≠ j ∧ i ≠ Ab ∧ j ≠ Ab ∧ lvl i = t + 1 ∧ lvl j = t + 1 ∧ lvl Ab = t ∧ (P Ab).1 = 2 ∧ (P i).1 = (if t + 2 = L then 1 else 2) ∧ (P j).1 = (if t + 2 = L then 1 else 2) := by
  have hi := Core_sort h (n := t + 1) (s := s1) (i := i) ht (by rw [hv]; simp)
  have hj := Core_sort h (n := t + 1) (s := s2) (i := j) ht (by rw [hv]; simp)
  have hb := Core_sort h (n := t) (s := sA) (i := Ab) (by omega) hA
  rw [if_neg (by omega)] at hb
  have hnd := h.2.2.1 (t + 1) ht
  rw [hv] at hnd
  have := nd_mid hnd (s2, (j : Int)) (by simp)
  have hij : i ≠ j := by
    intro heq; subst heq; exact this rfl
  refine ⟨hi.1, hj.1, hb.1, hij, ?_, ?_, hi.2.1, hj.2.1, hb.2.1, hb.2.2, hi.2.2, hj.2.2⟩
  · intro heq; subst heq; omega
  · intro heq; subst heq; omega
theorem core_join (h : Core P L V lvl) (ht : t + 1 < L) (hv : V (t + 1) = A ++ (s1, (i : Int)) :: (s2, (j : Int)) :: B) (hA : (sA, (Ab : Int)) ∈ V t) (hpi : POk pi) (hpi1 : pi.1 = (P i).1) (hpA : POk pA) (hpA1 : pA.1 = 2) (h6 : LkTo (uP (uP (uP P i pi) j (0, 0, [])) Ab pA) (uV V (t + 1) (A ++ (s1, (i : Int)) :: B) (L - 1)) 0) (h7 : (lfs (uP (uP (uP P i pi) j (0, 0, [])) Ab pA) (uV V (t + 1) (A ++ (s1, (i : Int)) :: B) (L - 1))).Pairwise lt2) : Core (uP (uP (uP P i pi) j (0, 0, [])) Ab pA) L (uV V (t + 1) (A ++ (s1, (i : Int)) :: B)) lvl := by
  obtain ⟨i32, j32, b32, hij, hib, hjb, li, lj, lb, sb, si, sj⟩ := three h ht hv hA
  have hfree : POk (0, 0, []) := ⟨(by intro e he; cases he), by show szs [] ≤ 61; rw [szs_nil]; omega, by show (0 : Int) ≤ 0 ∧ (0 : Int) ≤ 2; omega, by show (0 : Int) ≤ 0 ∧ (0 : Int) ≤ 255; omega⟩
  have hnd := h.2.2.1 (t + 1) ht
  have hv2 : V (t + 1) = (A ++ [(s1, (i : Int))]) ++ (s2, (j : Int)) :: B := by rw [hv]; simp
  have hnj : ∀ e ∈ A ++ (s1, (i : Int)) :: B, e.2 ≠ (j : Int) := by
    rw [hv2] at hnd
    have := nd_mid hnd
    intro e he
    exact this e (by simp at he ⊢; exact he)
  refine Core_mk (t := t + 1) h ht (TOk_u (TOk_u (TOk_u h.1 hpi) hfree) hpA) (fun n _ hn => uV_o hn) ?_ ?_ ?_ ?_ h6 h7
  · intro n hn hnt e he k hk hk32 hlk
    have k1 : k ≠ i := by intro heq; subst heq; omega
    have k2 : k ≠ j := by intro heq; subst heq; omega
    refine ⟨hlk, ?_⟩
    by_cases k3 : k = Ab
    · subst k3; rw [uP_s, hpA1, sb]
    · rw [uP_o k3, uP_o k2, uP_o k1]
  · intro e he
    rw [uV_s] at he
    have hnj2 := hnj e he
    have heV : e ∈ V (t + 1) := by
      rw [hv]; simp at he ⊢
      rcases he with he | he | he
      · exact Or.inl he
      · exact Or.inr (Or.inl he)
      · exact Or.inr (Or.inr (Or.inr he))
    obtain ⟨k, q1, q2, q3, q4⟩ := h.2.1 (t + 1) ht e heV
    have k3 : k ≠ Ab := by intro heq; subst heq; omega
    have k2 : k ≠ j := by intro heq; subst heq; exact hnj2 q1
    refine ⟨k, q1, q2, q3, ?_⟩
    rw [uP_o k3, uP_o k2]
    by_cases k1 : k = i
    · subst k1; rw [uP_s, hpi1]; exact q4
    · rw [uP_o k1]; exact q4
  · rw [uV_s]
    have := nd_sub (A := A ++ [(s1, (i : Int))]) (e := (s2, (j : Int))) (B := B) (by rw [hv2] at hnd; exact hnd)
    simpa using this
  · intro k hk hno
    have hno2 := hno (t + 1) ht
    rw [uV_s] at hno2
    have k3 : k ≠ Ab := by
      intro heq; subst heq
      have := hno t (by omega)
      rw [uV_o (by omega)] at this
      exact this _ hA rfl
    have k1 : k ≠ i := by
      intro heq; subst heq
      exact hno2 (s1, (k : Int)) (by simp) rfl
    rw [uP_o k3]
    by_cases k2 : k = j
    · subst k2; rw [uP_s]
    · rw [uP_o k2, uP_o k1]
      refine h.2.2.2.1 k hk ?_
      intro n hn e he
      by_cases hnt : n = t + 1
      · subst hnt
        rw [hv] at he
        simp at he
        rcases he with he | he | he | he
        · exact hno2 e (by simp; exact Or.inl he)
        · exact hno2 e (by simp; exact Or.inr (Or.inl he))
        · rw [he]
          intro hh
          exact k2 (by have hh : (j : Int) = (k : Int) := hh; omega)
        · exact hno2 e (by simp; exact Or.inr (Or.inr he))
      · have := hno n hn
        rw [uV_o hnt] at this
        exact this e he
theorem core_share (h : Core P L V lvl) (ht : t + 1 < L) (hv : V (t + 1) = A ++ (s1, (i : Int)) :: (s2, (j : Int)) :: B) (hA : (sA, (Ab : Int)) ∈ V t) (hpi : POk pi) (hpi1 : pi.1 = (P i).1) (hpj : POk pj) (hpj1 : pj.1 = (P j).1) (hpA : POk pA) (hpA1 : pA.1 = 2) (h6 : LkTo (uP (uP (uP P Ab pA) i pi) j pj) (uV V (t + 1) (A ++ (s1, (i : Int)) :: (s3, (j : Int)) :: B) (L - 1)) 0) (h7 : (lfs (uP (uP (uP P Ab pA) i pi) j pj) (uV V (t + 1) (A ++ (s1, (i : Int)) :: (s3, (j : Int)) :: B) (L - 1))).Pairwise lt2) : Core (uP (uP (uP P Ab pA) i pi) j pj) L (uV V (t + 1) (A ++ (s1, (i : Int)) :: (s3, (j : Int)) :: B)) lvl := by
  obtain ⟨i32, j32, b32, hij, hib, hjb, li, lj, lb, sb, si, sj⟩ := three h ht hv hA
  have hnd := h.2.2.1 (t + 1) ht
  have hmap : (A ++ (s1, (i : Int)) :: (s3, (j : Int)) :: B).map Prod.snd = (V (t + 1)).map Prod.snd := by rw [hv]; simp
  refine Core_mk (t := t + 1) h ht (TOk_u (TOk_u (TOk_u h.1 hpA) hpi) hpj) (fun n _ hn => uV_o hn) ?_ ?_ ?_ ?_ h6 h7
  · intro n hn hnt e he k hk hk32 hlk
    have k1 : k ≠ i := by intro heq; subst heq; omega
    have k2 : k ≠ j := by intro heq; subst heq; omega
    refine ⟨hlk, ?_⟩
    rw [uP_o k2, uP_o k1]
    by_cases k3 : k = Ab
    · subst k3; rw [uP_s, hpA1, sb]
    · rw [uP_o k3]
  · intro e he
    rw [uV_s] at he
    have : e.2 ∈ (V (t + 1)).map Prod.snd := by rw [← hmap]; exact List.mem_map.mpr ⟨e, he, rfl⟩
    obtain ⟨e', he', hee⟩ := List.mem_map.mp this
    obtain ⟨k, q1, q2, q3, q4⟩ := h.2.1 (t + 1) ht e' he'
    have k3 : k ≠ Ab := by intro heq; subst heq; omega
    refine ⟨k, by rw [← hee]; exact q1, q2, q3, ?_⟩
    by_cases k2 : k = j
    · subst k2; rw [uP_s, hpj1]; exact q4
    · rw [uP_o k2]
      by_cases k1 : k = i
      · subst k1; rw [uP_s, hpi1]; exact q4
      · rw [uP_o k1, uP_o k3]; exact q4
  · rw [uV_s, hmap]; exact hnd
  · intro k hk hno
    have hno2 := hno (t + 1) ht
    rw [uV_s] at hno2
    have k3 : k ≠ Ab := by
      intro heq; subst heq
      have := hno t (by omega)
      rw [uV_o (by omega)] at this
      exact this _ hA rfl
    have k1 : k ≠ i := by
      intro heq; subst heq
      exact hno2 (s1, (k : Int)) (by simp) rfl
    have k2 : k ≠ j := by
      intro heq; subst heq
      exact hno2 (s3, (k : Int)) (by simp) rfl
    rw [uP_o k2, uP_o k1, uP_o k3]
    refine h.2.2.2.1 k hk ?_
    intro n hn e he
    by_cases hnt : n = t + 1
    · subst hnt
      have : e.2 ∈ (A ++ (s1, (i : Int)) :: (s3, (j : Int)) :: B).map Prod.snd := by rw [hmap]; exact List.mem_map.mpr ⟨e, he, rfl⟩
      obtain ⟨e', he', hee⟩ := List.mem_map.mp this
      rw [← hee]
      exact hno2 e' he'
    · have := hno n hn
      rw [uV_o hnt] at this
      exact this e he
/-- the root goes, its only child is the root -/
theorem core_lower (h : Core P L V lvl) (hL : 1 < L) (h0 : V 0 = [([], (root : Int))]) : Core (uP P root (0, 0, [])) (L - 1) (fun n => V (n + 1)) (fun k => lvl k - 1) := by
  have hr := Core_sort h (n := 0) (i := root) (s := []) (by omega) (by rw [h0]; simp)
  have hne : ∀ n, n + 1 < L → ∀ e ∈ V (n + 1), e.2.toNat ≠ root := by
    intro n hn e he
    obtain ⟨k, q1, q2, q3, q4⟩ := h.2.1 (n + 1) hn e he
    intro heq
    have : k = root := by omega
    subst this
    omega
  have hfree : POk (0, 0, []) := ⟨(by intro e he; cases he), by show szs [] ≤ 61; rw [szs_nil]; omega, by show (0 : Int) ≤ 0 ∧ (0 : Int) ≤ 2; omega, by show (0 : Int) ≤ 0 ∧ (0 : Int) ≤ 255; omega⟩
  have hl1 : L - 1 - 1 + 1 = L - 1 := by omega
  refine ⟨TOk_u h.1 hfree, ?_, ?_, ?_, ?_, ?_⟩
  · intro n hn e he
    obtain ⟨k, q1, q2, q3, q4⟩ := h.2.1 (n + 1) (by omega) e he
    have k1 : k ≠ root := by have := hne n (by omega) e he; omega
    refine ⟨k, q1, q2, by show lvl k - 1 = n; omega, ?_⟩
    rw [uP_o k1, q4]
    by_cases hh : n + 1 + 1 = L
    · rw [if_pos hh, if_pos (by omega)]
    · rw [if_neg hh, if_neg (by omega)]
  · intro n hn
    exact h.2.2.1 (n + 1) (by omega)
  · intro k hk hno
    by_cases k1 : k = root
    · subst k1; rw [uP_s]
    · rw [uP_o k1]
      refine h.2.2.2.1 k hk ?_
      intro n hn e he
      cases n with
      | zero =>
        rw [h0] at he
        have := List.mem_singleton.mp he
        rw [this]
        intro hh
        exact k1 (by have hh : (root : Int) = (k : Int) := hh; omega)
      | succ n => exact hno n (by omega) e he
  · show LkTo _ (V (L - 1 - 1 + 1)) 0
    rw [hl1, LkTo_c (P := P) (fun e he => uP_o (hne (L - 2) (by omega) e (by rw [show L - 2 + 1 = L - 1 by omega]; exact he)))]
    exact h.2.2.2.2.1
  · show (lfs _ (V (L - 1 - 1 + 1))).Pairwise lt2
    rw [hl1, lfs_c (P := P) (fun e he => uP_o (hne (L - 2) (by omega) e (by rw [show L - 2 + 1 = L - 1 by omega]; exact he)))]
    exact h.2.2.2.2.2
/-- rows of pages that three changed pages leave as they were -/
theorem exp_3 (h : Core P L V lvl) {k1 k2 k3 : Nat} (hn : n < L) (h1 : lvl k1 ≠ n) (h2 : lvl k2 ≠ n) (h3 : lvl k3 ≠ n) {p1 p2 p3 : Pg} : ∀ e ∈ V n, uP (uP (uP P k1 p1) k2 p2) k3 p3 e.2.toNat = P e.2.toNat := by
  intro e he
  obtain ⟨k, q1, q2, q3, q4⟩ := h.2.1 n hn e he
  have e1 : e.2.toNat = k := by omega
  rw [e1, uP_o (by intro heq; subst heq; exact h3 q3), uP_o (by intro heq; subst heq; exact h2 q3), uP_o (by intro heq; subst heq; exact h1 q3)]
/-- .. of the level above: around the page there -/
theorem exp_up (h : Core P L V lvl) (hn : n < L) (hv : V n = A1 ++ (sA, (Ab : Int)) :: B1) {k1 k2 k3 : Nat} {p1 p2 p3 : Pg} (h1 : lvl k1 ≠ n ∨ k1 = Ab) (h2 : lvl k2 ≠ n ∨ k2 = Ab) (h3 : lvl k3 ≠ n ∨ k3 = Ab) : ∀ e ∈ A1 ++ B1, uP (uP (uP P k1 p1) k2 p2) k3 p3 e.2.toNat = P e.2.toNat := by
  intro e he
  have hnd := h.2.2.1 n hn
  rw [hv] at hnd
  have hne : e.2 ≠ (Ab : Int) := nd_mid hnd e he
  have heV : e ∈ V n := by rw [hv]; simp at he ⊢; rcases he with he | he; exact Or.inl he; exact Or.inr (Or.inr he)
  obtain ⟨k, q1, q2, q3, q4⟩ := h.2.1 n hn e heV
  have e1 : e.2.toNat = k := by omega
  have kk : ∀ c, (lvl c ≠ n ∨ c = Ab) → k ≠ c := by
    intro c hc heq
    subst heq
    rcases hc with hc | hc
    · exact hc q3
    · subst hc; exact hne q1
  rw [e1, uP_o (kk k3 h3), uP_o (kk k2 h2), uP_o (kk k1 h1)]
/-- .. of the neighbours' own level: around them -/
theorem exp_sd (h : Core P L V lvl) (hn : n < L) (hv : V n = A ++ (s1, (i : Int)) :: (s2, (j : Int)) :: B) {k1 k2 k3 : Nat} {p1 p2 p3 : Pg} (h1 : lvl k1 ≠ n ∨ k1 = i ∨ k1 = j) (h2 : lvl k2 ≠ n ∨ k2 = i ∨ k2 = j) (h3 : lvl k3 ≠ n ∨ k3 = i ∨ k3 = j) : ∀ e ∈ A ++ B, uP (uP (uP P k1 p1) k2 p2) k3 p3 e.2.toNat = P e.2.toNat := by
  intro e he
  have hnd := h.2.2.1 n hn
  rw [hv] at hnd
  have hnei : e.2 ≠ (i : Int) := nd_mid hnd e (by simp at he ⊢; rcases he with he | he; exact Or.inl he; exact Or.inr (Or.inr he))
  have hnej : e.2 ≠ (j : Int) := nd_mid (A := A ++ [(s1, (i : Int))]) (e := (s2, (j : Int))) (B := B) (by simpa using hnd) e (by simp at he ⊢; rcases he with he | he; exact Or.inl he; exact Or.inr (Or.inr he))
  have heV : e ∈ V n := by rw [hv]; simp at he ⊢; rcases he with he | he; exact Or.inl he; exact Or.inr (Or.inr (Or.inr he))
  obtain ⟨k, q1, q2, q3, q4⟩ := h.2.1 n hn e heV
  have e1 : e.2.toNat = k := by omega
  have kk : ∀ c, (lvl c ≠ n ∨ c = i ∨ c = j) → k ≠ c := by
    intro c hc heq
    subst heq
    rcases hc with hc | hc | hc
    · exact hc q3
    · subst hc; exact hnei q1
    · subst hc; exact hnej q1
  rw [e1, uP_o (kk k3 h3), uP_o (kk k2 h2), uP_o (kk k1 h1)]
end C2
end
section
/-! THE TREE: joining and sharing keep it good. -/
def Two (P : Nat → Pg) (V : Nat → List Ent) (t : Nat) (A1 B1 : List Ent) (sA : List Int) (Ab : Nat) (la : Int) (a0 : List Ent) (e : Ent) (b0 pre : List Ent) (s1 : List Int) (i j : Nat) : Prop := V t = A1 ++ (sA, (Ab : Int)) :: B1 ∧ P Ab = (2, la, a0 ++ e :: b0) ∧ (sA, la) :: a0 = pre ++ [(s1, (i : Int))] ∧ e.2 = (j : Int)
section G2
variable {P P' : Nat → Pg} {L n t i j q root Ab : Nat} {V V' : Nat → List Ent} {lvl lvl' : Nat → Nat} {A B A1 B1 R S a b x y es le re ws a0 b0 pre : List Ent} {e f u v : Ent} {s s1 s2 s3 sA w sp : List Int} {r l l1 l2 z la ll lr sv : Int} {p pi pj pA : Pg}
theorem pw_del {m : Ent} (h : (A ++ m :: B).Pairwise lt2) : (A ++ B).Pairwise lt2 := by
  rw [List.pairwise_append] at h ⊢
  exact ⟨h.1, (List.pairwise_cons.mp h.2.1).2, fun a ha b hb => h.2.2 a ha b (List.mem_cons_of_mem _ hb)⟩
theorem two_V (hg : Good0 P root L V lvl) (ht : t + 1 < L) (h : Two P V t A1 B1 sA Ab la a0 e b0 pre s1 i j) : V (t + 1) = (exp P A1 ++ pre) ++ (s1, (i : Int)) :: (e.1, (j : Int)) :: (b0 ++ exp P B1) := by
  obtain ⟨h1, h2, h3, h4⟩ := h
  rw [hg.2.2.1 t ht, h1, exp_app, exp_cons]
  show exp P A1 ++ (sA, (P Ab).2.1) :: ((P Ab).2.2 ++ exp P B1) = _
  rw [h2]
  show exp P A1 ++ (sA, la) :: ((a0 ++ e :: b0) ++ exp P B1) = _
  have : (sA, la) :: ((a0 ++ e :: b0) ++ exp P B1) = ((sA, la) :: a0) ++ e :: (b0 ++ exp P B1) := by simp
  rw [this, h3, ← h4]
  simp
theorem two_3 (hg : Good0 P root L V lvl) (ht : t + 1 < L) (h : Two P V t A1 B1 sA Ab la a0 e b0 pre s1 i j) : i < 32 ∧ j < 32 ∧ Ab < 32 ∧ i ≠ j ∧ i ≠ Ab ∧ j ≠ Ab ∧ lvl i = t + 1 ∧ lvl j = t + 1 ∧ lvl Ab = t ∧ (P Ab).1 = 2 ∧ (P i).1 = (if t + 2 = L then 1 else 2) ∧ (P j).1 = (if t + 2 = L then 1 else 2) := three (sA := sA) hg.1 ht (two_V hg ht h) (by rw [h.1]; simp)
theorem two_link (hg : Good0 P root L V lvl) (ht : t + 2 = L) (h : Two P V t A1 B1 sA Ab la a0 e b0 pre s1 i j) : (P i).2.1 = (j : Int) + 1 ∧ (P j).2.1 = nxx (b0 ++ exp P B1) 0 ∧ LkTo P (exp P A1 ++ pre) ((i : Int) + 1) ∧ LkTo P (b0 ++ exp P B1) 0 := by
  have hv := two_V hg (by omega) h
  have h6 := hg.1.2.2.2.2.1
  rw [show L - 1 = t + 1 by omega, hv, LkTo_app, LkTo_cons, LkTo_cons] at h6
  exact ⟨h6.2.1, h6.2.2.1, h6.1, h6.2.2.2⟩
theorem two_pw (hg : Good0 P root L V lvl) (ht : t + 2 = L) (h : Two P V t A1 B1 sA Ab la a0 e b0 pre s1 i j) : ((lfs P (exp P A1 ++ pre) ++ [(s1, 0)]) ++ ((P i).2.2 ++ (P j).2.2).map k1 ++ lfs P (b0 ++ exp P B1)).Pairwise lt2 := by
  have hv := two_V hg (by omega) h
  have h7 := hg.1.2.2.2.2.2
  have hv2 : V (t + 1) = ((exp P A1 ++ pre) ++ [(s1, (i : Int))]) ++ (e.1, (j : Int)) :: (b0 ++ exp P B1) := by rw [hv]; simp
  rw [show L - 1 = t + 1 by omega, hv2, lfs_mid, lfs_app, lfs_cons] at h7
  have h8 := pw_del h7
  have : (lfs P (exp P A1 ++ pre) ++ [(s1, 0)]) ++ ((P i).2.2 ++ (P j).2.2).map k1 ++ lfs P (b0 ++ exp P B1) = lfs P (exp P A1 ++ pre) ++ (s1, 0) :: ((P i).2.2.map k1 ++ lfs P []) ++ ((P j).2.2.map k1 ++ lfs P (b0 ++ exp P B1)) := by
    simp [lfs]
  rw [this]
  exact h8
theorem Ws_ok (hw : Ws sv e lr le re ws) (hle : EsOk le) (hre : EsOk re) (he : EOk e) (hlr : 0 ≤ lr ∧ lr ≤ 255) : EsOk ws := by
  rcases hw with ⟨_, h⟩ | ⟨_, h⟩
  · rw [h]; exact EsOk_app.mpr ⟨hle, hre⟩
  · rw [h]; exact EsOk_app.mpr ⟨hle, EsOk_cons.mpr ⟨⟨he.1, he.2.1, he.2.2.1, hlr⟩, hre⟩⟩
theorem good_join (hg : Good0 P root L V lvl) (ht : t + 1 < L) (h : Two P V t A1 B1 sA Ab la a0 e b0 pre s1 i j) (hpi : P i = (sv, ll, le)) (hpj : P j = (sv, lr, re)) (hw : Ws sv e lr le re ws) (h61 : szs ws ≤ 61) : Good0 (uP (uP (uP P i (sv, if sv = 1 then lr else ll, ws)) j (0, 0, [])) Ab (2, la, a0 ++ b0)) root L (uV V (t + 1) ((exp P A1 ++ pre) ++ (s1, (i : Int)) :: (b0 ++ exp P B1))) lvl := by
  have hv := two_V hg ht h
  obtain ⟨i32, j32, b32, hij, hib, hjb, li, lj, lb, sb, si, sj⟩ := two_3 hg ht h
  have hcore := hg.1
  have oi := hcore.1 i i32
  have oj := hcore.1 j j32
  have ob := hcore.1 Ab b32
  rw [hpi] at oi
  rw [hpj] at oj
  rw [h.2.1] at ob
  have he : EOk e := EsOk_mid ob.1
  have hws := Ws_ok hw oi.1 oj.1 he oj.2.2.2
  have hA : (sA, (Ab : Int)) ∈ V t := by rw [h.1]; simp
  have o1 : POk (sv, if sv = 1 then lr else ll, ws) := by
    refine ⟨hws, h61, oi.2.2.1, ?_⟩
    show 0 ≤ (if sv = 1 then lr else ll) ∧ (if sv = 1 then lr else ll) ≤ 255
    split
    · exact oj.2.2.2
    · exact oi.2.2.2
  have oA : POk (2, la, a0 ++ b0) := by
    have h1 := EsOk_app.mp ob.1
    refine ⟨EsOk_app.mpr ⟨h1.1, (EsOk_cons.mp h1.2).2⟩, ?_, ob.2.2.1, ob.2.2.2⟩
    have := ob.2.1
    show szs (a0 ++ b0) ≤ 61
    have h2 : szs (a0 ++ e :: b0) ≤ 61 := this
    rw [szs_app, szs_cons] at h2
    rw [szs_app]; omega
  have sd : ∀ x ∈ (exp P A1 ++ pre) ++ (b0 ++ exp P B1), uP (uP (uP P i (sv, if sv = 1 then lr else ll, ws)) j (0, 0, [])) Ab (2, la, a0 ++ b0) x.2.toNat = P x.2.toNat := exp_sd hcore ht hv (Or.inr (Or.inl rfl)) (Or.inr (Or.inr rfl)) (Or.inl (by omega))
  have sdA : ∀ x ∈ exp P A1 ++ pre, uP (uP (uP P i (sv, if sv = 1 then lr else ll, ws)) j (0, 0, [])) Ab (2, la, a0 ++ b0) x.2.toNat = P x.2.toNat := fun x hx => sd x (List.mem_append_left _ hx)
  have sdB : ∀ x ∈ b0 ++ exp P B1, uP (uP (uP P i (sv, if sv = 1 then lr else ll, ws)) j (0, 0, [])) Ab (2, la, a0 ++ b0) x.2.toNat = P x.2.toNat := fun x hx => sd x (List.mem_append_right _ hx)
  have ei : uP (uP (uP P i (sv, if sv = 1 then lr else ll, ws)) j (0, 0, [])) Ab (2, la, a0 ++ b0) i = (sv, if sv = 1 then lr else ll, ws) := by rw [uP_o hib, uP_o hij, uP_s]
  have hc' : Core (uP (uP (uP P i (sv, if sv = 1 then lr else ll, ws)) j (0, 0, [])) Ab (2, la, a0 ++ b0)) L (uV V (t + 1) ((exp P A1 ++ pre) ++ (s1, (i : Int)) :: (b0 ++ exp P B1))) lvl := by
    refine core_join hcore ht hv hA o1 (by rw [hpi]) oA rfl ?_ ?_
    · by_cases hl : t + 2 = L
      · rw [show L - 1 = t + 1 by omega, uV_s, LkTo_app, LkTo_cons, LkTo_c sdA, LkTo_c sdB]
        obtain ⟨k1, k2, k3, k4⟩ := two_link hg hl h
        refine ⟨k3, ?_, k4⟩
        show (uP (uP (uP P i (sv, if sv = 1 then lr else ll, ws)) j (0, 0, [])) Ab (2, la, a0 ++ b0) i).2.1 = _
        rw [if_pos hl, hpi] at si
        have si : sv = 1 := si
        rw [ei]
        show (if sv = 1 then lr else ll) = _
        rw [if_pos si, ← k2, hpj]
      · rw [uV_o (by omega), LkTo_c (exp_3 hcore (by omega) (by omega) (by omega) (by omega))]
        exact hcore.2.2.2.2.1
    · by_cases hl : t + 2 = L
      · rw [show L - 1 = t + 1 by omega, uV_s, lfs_mid, ei, lfs_c sdA, lfs_c sdB]
        have h8 := two_pw hg hl h
        rw [if_pos hl, hpi] at si
        have si : sv = 1 := si
        rcases hw with ⟨_, hw⟩ | ⟨hw, _⟩
        · rw [hpi, hpj] at h8
          have : lfs P (exp P A1 ++ pre) ++ (s1, 0) :: (ws.map k1 ++ lfs P (b0 ++ exp P B1)) = (lfs P (exp P A1 ++ pre) ++ [(s1, 0)]) ++ (le ++ re).map k1 ++ lfs P (b0 ++ exp P B1) := by rw [hw]; simp
          show (lfs P (exp P A1 ++ pre) ++ (s1, 0) :: (ws.map k1 ++ lfs P (b0 ++ exp P B1))).Pairwise lt2
          rw [this]
          exact h8
        · omega
      · rw [uV_o (by omega), lfs_c (exp_3 hcore (by omega) (by omega) (by omega) (by omega))]
        exact hcore.2.2.2.2.2
  refine ⟨hc', by rw [uV_o (by omega)]; exact hg.2.1, ?_, hg.2.2.2⟩
  intro n hn
  by_cases hnt : n = t
  · subst hnt
    rw [uV_s, uV_o (by omega), h.1, exp_app, exp_cons]
    have eu := exp_up (p1 := (sv, if sv = 1 then lr else ll, ws)) (p2 := (0, 0, [])) (p3 := (2, la, a0 ++ b0)) hcore (by omega) h.1 (k1 := i) (k2 := j) (k3 := Ab) (Or.inl (by omega)) (Or.inl (by omega)) (Or.inr rfl)
    rw [exp_c (R := A1) (fun x hx => eu x (List.mem_append_left _ hx)), exp_c (R := B1) (fun x hx => eu x (List.mem_append_right _ hx))]
    show _ = _ ++ (sA, (uP (uP (uP P i (sv, if sv = 1 then lr else ll, ws)) j (0, 0, [])) Ab (2, la, a0 ++ b0) Ab).2.1) :: ((uP (uP (uP P i (sv, if sv = 1 then lr else ll, ws)) j (0, 0, [])) Ab (2, la, a0 ++ b0) Ab).2.2 ++ _)
    rw [uP_s]
    have : (sA, la) :: ((a0 ++ b0) ++ exp P B1) = ((sA, la) :: a0) ++ (b0 ++ exp P B1) := by simp
    show _ = _ ++ (sA, la) :: ((a0 ++ b0) ++ exp P B1)
    rw [this, h.2.2.1]
    simp
  · by_cases hnt2 : n = t + 1
    · subst hnt2
      rw [uV_s, uV_o (by omega), hg.2.2.1 _ hn, hv, exp_app (A := exp P A1 ++ pre), exp_cons, exp_cons, exp_app (A := exp P A1 ++ pre), exp_cons, exp_c sdA, exp_c sdB]
      show _ ++ (s1, (P i).2.1) :: ((P i).2.2 ++ (e.1, (P j).2.1) :: ((P j).2.2 ++ _)) = _ ++ (s1, (uP (uP (uP P i (sv, if sv = 1 then lr else ll, ws)) j (0, 0, [])) Ab (2, la, a0 ++ b0) i).2.1) :: ((uP (uP (uP P i (sv, if sv = 1 then lr else ll, ws)) j (0, 0, [])) Ab (2, la, a0 ++ b0) i).2.2 ++ _)
      rw [ei, hpi, hpj]
      rw [if_neg (by omega), hpi] at si
      have si : sv = 2 := si
      rcases hw with ⟨hw, _⟩ | ⟨_, hw⟩
      · omega
      · show _ ++ (s1, ll) :: (le ++ (e.1, lr) :: (re ++ _)) = _ ++ (s1, if sv = 1 then lr else ll) :: (ws ++ _)
        rw [if_neg (by omega), hw]
        simp
    · rw [uV_o (by omega), uV_o hnt2, hg.2.2.1 n hn]
      exact (exp_c (exp_3 hcore (by omega) (by omega) (by omega) (by omega))).symm
/-- shared anew: inner ones -/
theorem good_shI (hg : Good0 P root L V lvl) (ht : t + 2 < L) (h : Two P V t A1 B1 sA Ab la a0 e b0 pre s1 i j) (hpi : P i = (2, ll, le)) (hpj : P j = (2, lr, re)) (hws : le ++ (e.1, lr) :: re = x ++ v :: y) (hx : szs x ≤ 61) (hy : szs y ≤ 61) (hfit : szs (a0 ++ (v.1, e.2) :: b0) ≤ 61) : Good0 (uP (uP (uP P Ab (2, la, a0 ++ (v.1, e.2) :: b0)) i (2, ll, x)) j (2, v.2, y)) root L (uV V (t + 1) ((exp P A1 ++ pre) ++ (s1, (i : Int)) :: (v.1, (j : Int)) :: (b0 ++ exp P B1))) lvl := by
  have hv := two_V hg (by omega) h
  obtain ⟨i32, j32, b32, hij, hib, hjb, li, lj, lb, sb, si, sj⟩ := two_3 hg (by omega) h
  have hcore := hg.1
  have oi := hcore.1 i i32
  have oj := hcore.1 j j32
  have ob := hcore.1 Ab b32
  rw [hpi] at oi
  rw [hpj] at oj
  rw [h.2.1] at ob
  have he : EOk e := EsOk_mid ob.1
  have hwok := Ws_ok (sv := 2) (ws := le ++ (e.1, lr) :: re) (Or.inr ⟨rfl, rfl⟩) oi.1 oj.1 he oj.2.2.2
  rw [hws] at hwok
  have ow1 := EsOk_app.mp hwok
  have ow2 := EsOk_cons.mp ow1.2
  have hA : (sA, (Ab : Int)) ∈ V t := by rw [h.1]; simp
  have o1 : POk (2, ll, x) := ⟨ow1.1, hx, oi.2.2.1, oi.2.2.2⟩
  have o2 : POk (2, v.2, y) := ⟨ow2.2, hy, oj.2.2.1, ow2.1.2.2.2⟩
  have oA : POk (2, la, a0 ++ (v.1, e.2) :: b0) := by
    have h1 := EsOk_app.mp ob.1
    exact ⟨EsOk_app.mpr ⟨h1.1, EsOk_cons.mpr ⟨⟨ow2.1.1, ow2.1.2.1, ow2.1.2.2.1, he.2.2.2⟩, (EsOk_cons.mp h1.2).2⟩⟩, hfit, ob.2.2.1, ob.2.2.2⟩
  have sd : ∀ x' ∈ (exp P A1 ++ pre) ++ (b0 ++ exp P B1), uP (uP (uP P Ab (2, la, a0 ++ (v.1, e.2) :: b0)) i (2, ll, x)) j (2, v.2, y) x'.2.toNat = P x'.2.toNat := exp_sd hcore (by omega) hv (Or.inl (by omega)) (Or.inr (Or.inl rfl)) (Or.inr (Or.inr rfl))
  have sdA := fun x' hx' => sd x' (List.mem_append_left _ hx')
  have sdB := fun x' hx' => sd x' (List.mem_append_right _ hx')
  have ei : uP (uP (uP P Ab (2, la, a0 ++ (v.1, e.2) :: b0)) i (2, ll, x)) j (2, v.2, y) i = (2, ll, x) := by rw [uP_o hij, uP_s]
  have eb : uP (uP (uP P Ab (2, la, a0 ++ (v.1, e.2) :: b0)) i (2, ll, x)) j (2, v.2, y) Ab = (2, la, a0 ++ (v.1, e.2) :: b0) := by rw [uP_o hjb.symm, uP_o hib.symm, uP_s]
  have hc' : Core (uP (uP (uP P Ab (2, la, a0 ++ (v.1, e.2) :: b0)) i (2, ll, x)) j (2, v.2, y)) L (uV V (t + 1) ((exp P A1 ++ pre) ++ (s1, (i : Int)) :: (v.1, (j : Int)) :: (b0 ++ exp P B1))) lvl := by
    refine core_share hcore (by omega) hv hA o1 (by rw [hpi]) o2 (by rw [hpj]) oA rfl ?_ ?_
    · rw [uV_o (by omega), LkTo_c (exp_3 hcore (by omega) (by omega) (by omega) (by omega))]
      exact hcore.2.2.2.2.1
    · rw [uV_o (by omega), lfs_c (exp_3 hcore (by omega) (by omega) (by omega) (by omega))]
      exact hcore.2.2.2.2.2
  refine ⟨hc', by rw [uV_o (by omega)]; exact hg.2.1, ?_, hg.2.2.2⟩
  intro n hn
  by_cases hnt : n = t
  · subst hnt
    rw [uV_s, uV_o (by omega), h.1, exp_app, exp_cons]
    have eu := exp_up (p1 := (2, la, a0 ++ (v.1, e.2) :: b0)) (p2 := (2, ll, x)) (p3 := (2, v.2, y)) hcore (by omega) h.1 (k1 := Ab) (k2 := i) (k3 := j) (Or.inr rfl) (Or.inl (by omega)) (Or.inl (by omega))
    rw [exp_c (R := A1) (fun x hx => eu x (List.mem_append_left _ hx)), exp_c (R := B1) (fun x hx => eu x (List.mem_append_right _ hx))]
    show _ = _ ++ (sA, (uP (uP (uP P Ab (2, la, a0 ++ (v.1, e.2) :: b0)) i (2, ll, x)) j (2, v.2, y) Ab).2.1) :: ((uP (uP (uP P Ab (2, la, a0 ++ (v.1, e.2) :: b0)) i (2, ll, x)) j (2, v.2, y) Ab).2.2 ++ _)
    rw [eb]
    have : (sA, la) :: ((a0 ++ (v.1, e.2) :: b0) ++ exp P B1) = ((sA, la) :: a0) ++ (v.1, e.2) :: (b0 ++ exp P B1) := by simp
    show _ = _ ++ (sA, la) :: ((a0 ++ (v.1, e.2) :: b0) ++ exp P B1)
    rw [this, h.2.2.1, h.2.2.2]
    simp
  · by_cases hnt2 : n = t + 1
    · subst hnt2
      rw [uV_s, uV_o (by omega), hg.2.2.1 _ hn, hv, exp_app (A := exp P A1 ++ pre), exp_cons, exp_cons, exp_app (A := exp P A1 ++ pre), exp_cons, exp_cons, exp_c sdA, exp_c sdB]
      show _ ++ (s1, (P i).2.1) :: ((P i).2.2 ++ (e.1, (P j).2.1) :: ((P j).2.2 ++ _)) = _ ++ (s1, (uP (uP (uP P Ab (2, la, a0 ++ (v.1, e.2) :: b0)) i (2, ll, x)) j (2, v.2, y) i).2.1) :: ((uP (uP (uP P Ab (2, la, a0 ++ (v.1, e.2) :: b0)) i (2, ll, x)) j (2, v.2, y) i).2.2 ++ (v.1, (uP (uP (uP P Ab (2, la, a0 ++ (v.1, e.2) :: b0)) i (2, ll, x)) j (2, v.2, y) j).2.1) :: ((uP (uP (uP P Ab (2, la, a0 ++ (v.1, e.2) :: b0)) i (2, ll, x)) j (2, v.2, y) j).2.2 ++ _))
      rw [ei, uP_s, hpi, hpj]
      show _ ++ (s1, ll) :: (le ++ (e.1, lr) :: (re ++ _)) = _ ++ (s1, ll) :: (x ++ (v.1, v.2) :: (y ++ _))
      have q1 : le ++ (e.1, lr) :: (re ++ exp P (b0 ++ exp P B1)) = (le ++ (e.1, lr) :: re) ++ exp P (b0 ++ exp P B1) := by simp
      rw [q1, hws]
      simp
    · rw [uV_o (by omega), uV_o hnt2, hg.2.2.1 n hn]
      exact (exp_c (exp_3 hcore (by omega) (by omega) (by omega) (by omega))).symm
/-- shared anew: leaves -/
theorem good_shL (hg : Good0 P root L V lvl) (ht : t + 2 = L) (h : Two P V t A1 B1 sA Ab la a0 e b0 pre s1 i j) (hpi : P i = (1, ll, le)) (hpj : P j = (1, lr, re)) (hws : le ++ re = (x ++ [u]) ++ v :: y) (hx : szs (x ++ [u]) ≤ 61) (hy : szs (v :: y) ≤ 61) (hfit : szs (a0 ++ (sep u.1 v.1, e.2) :: b0) ≤ 61) : Good0 (uP (uP (uP P Ab (2, la, a0 ++ (sep u.1 v.1, e.2) :: b0)) i (1, ll, x ++ [u])) j (1, lr, v :: y)) root L (uV V (t + 1) ((exp P A1 ++ pre) ++ (s1, (i : Int)) :: (sep u.1 v.1, (j : Int)) :: (b0 ++ exp P B1))) lvl := by
  have hv := two_V hg (by omega) h
  obtain ⟨i32, j32, b32, hij, hib, hjb, li, lj, lb, sb, si, sj⟩ := two_3 hg (by omega) h
  have hcore := hg.1
  have oi := hcore.1 i i32
  have oj := hcore.1 j j32
  have ob := hcore.1 Ab b32
  rw [hpi] at oi
  rw [hpj] at oj
  rw [h.2.1] at ob
  have he : EOk e := EsOk_mid ob.1
  have hwok : EsOk (le ++ re) := EsOk_app.mpr ⟨oi.1, oj.1⟩
  rw [hws] at hwok
  have ow1 := EsOk_app.mp hwok
  have ow2 := EsOk_cons.mp ow1.2
  have hA : (sA, (Ab : Int)) ∈ V t := by rw [h.1]; simp
  have hpw := two_pw hg ht h
  rw [hpi, hpj] at hpw
  have hpw : ((lfs P (exp P A1 ++ pre) ++ [(s1, 0)]) ++ (le ++ re).map k1 ++ lfs P (b0 ++ exp P B1)).Pairwise lt2 := hpw
  rw [hws] at hpw
  obtain ⟨hc, hpw2⟩ := pw_part hpw
  have hsl := sep_LOk (u := u.1) (EOk_L ow2.1)
  have o1 : POk (1, ll, x ++ [u]) := ⟨ow1.1, hx, oi.2.2.1, oi.2.2.2⟩
  have o2 : POk (1, lr, v :: y) := ⟨ow1.2, hy, oj.2.2.1, oj.2.2.2⟩
  have oA : POk (2, la, a0 ++ (sep u.1 v.1, e.2) :: b0) := by
    have h1 := EsOk_app.mp ob.1
    exact ⟨EsOk_app.mpr ⟨h1.1, EsOk_cons.mpr ⟨⟨sep_pos hc, hsl.1, hsl.2, he.2.2.2⟩, (EsOk_cons.mp h1.2).2⟩⟩, hfit, ob.2.2.1, ob.2.2.2⟩
  have sd : ∀ x' ∈ (exp P A1 ++ pre) ++ (b0 ++ exp P B1), uP (uP (uP P Ab (2, la, a0 ++ (sep u.1 v.1, e.2) :: b0)) i (1, ll, x ++ [u])) j (1, lr, v :: y) x'.2.toNat = P x'.2.toNat := exp_sd hcore (by omega) hv (Or.inl (by omega)) (Or.inr (Or.inl rfl)) (Or.inr (Or.inr rfl))
  have sdA := fun x' hx' => sd x' (List.mem_append_left _ hx')
  have sdB := fun x' hx' => sd x' (List.mem_append_right _ hx')
  have ei : uP (uP (uP P Ab (2, la, a0 ++ (sep u.1 v.1, e.2) :: b0)) i (1, ll, x ++ [u])) j (1, lr, v :: y) i = (1, ll, x ++ [u]) := by rw [uP_o hij, uP_s]
  have eb : uP (uP (uP P Ab (2, la, a0 ++ (sep u.1 v.1, e.2) :: b0)) i (1, ll, x ++ [u])) j (1, lr, v :: y) Ab = (2, la, a0 ++ (sep u.1 v.1, e.2) :: b0) := by rw [uP_o hjb.symm, uP_o hib.symm, uP_s]
  have hc' : Core (uP (uP (uP P Ab (2, la, a0 ++ (sep u.1 v.1, e.2) :: b0)) i (1, ll, x ++ [u])) j (1, lr, v :: y)) L (uV V (t + 1) ((exp P A1 ++ pre) ++ (s1, (i : Int)) :: (sep u.1 v.1, (j : Int)) :: (b0 ++ exp P B1))) lvl := by
    refine core_share hcore (by omega) hv hA o1 (by rw [hpi]) o2 (by rw [hpj]) oA rfl ?_ ?_
    · rw [show L - 1 = t + 1 by omega, uV_s, LkTo_app, LkTo_cons, LkTo_cons, LkTo_c sdA, LkTo_c sdB]
      obtain ⟨k1, k2, k3, k4⟩ := two_link hg ht h
      refine ⟨k3, ?_, ?_, k4⟩
      · show (uP (uP (uP P Ab (2, la, a0 ++ (sep u.1 v.1, e.2) :: b0)) i (1, ll, x ++ [u])) j (1, lr, v :: y) i).2.1 = _
        rw [ei]
        rw [hpi] at k1
        exact k1
      · show (uP (uP (uP P Ab (2, la, a0 ++ (sep u.1 v.1, e.2) :: b0)) i (1, ll, x ++ [u])) j (1, lr, v :: y) j).2.1 = _
        rw [uP_s]
        rw [hpj] at k2
        exact k2
    · have e1 : (exp P A1 ++ pre) ++ (s1, (i : Int)) :: (sep u.1 v.1, (j : Int)) :: (b0 ++ exp P B1) = ((exp P A1 ++ pre) ++ [(s1, (i : Int))]) ++ (sep u.1 v.1, (j : Int)) :: (b0 ++ exp P B1) := by simp
      rw [show L - 1 = t + 1 by omega, uV_s, e1, lfs_mid, uP_s, lfs_app, lfs_c sdA, lfs_c sdB, lfs_cons]
      show (lfs P (exp P A1 ++ pre) ++ (s1, 0) :: ((uP (uP (uP P Ab (2, la, a0 ++ (sep u.1 v.1, e.2) :: b0)) i (1, ll, x ++ [u])) j (1, lr, v :: y) i).2.2.map k1 ++ lfs _ []) ++ _).Pairwise lt2
      rw [ei]
      have e2 : lfs P (exp P A1 ++ pre) ++ (s1, 0) :: ((x ++ [u]).map k1 ++ lfs (uP (uP (uP P Ab (2, la, a0 ++ (sep u.1 v.1, e.2) :: b0)) i (1, ll, x ++ [u])) j (1, lr, v :: y)) []) ++ (sep u.1 v.1, 0) :: ((v :: y).map k1 ++ lfs P (b0 ++ exp P B1)) = (lfs P (exp P A1 ++ pre) ++ [(s1, 0)]) ++ ((x ++ [u]).map k1 ++ (sep u.1 v.1, 0) :: ((v :: y).map k1 ++ lfs P (b0 ++ exp P B1))) := by simp [lfs]
      show (lfs P (exp P A1 ++ pre) ++ (s1, 0) :: ((x ++ [u]).map k1 ++ lfs (uP (uP (uP P Ab (2, la, a0 ++ (sep u.1 v.1, e.2) :: b0)) i (1, ll, x ++ [u])) j (1, lr, v :: y)) []) ++ (sep u.1 v.1, 0) :: ((v :: y).map k1 ++ lfs P (b0 ++ exp P B1))).Pairwise lt2
      rw [e2]
      exact hpw2
  refine ⟨hc', by rw [uV_o (by omega)]; exact hg.2.1, ?_, hg.2.2.2⟩
  intro n hn
  by_cases hnt : n = t
  · subst hnt
    rw [uV_s, uV_o (by omega), h.1, exp_app, exp_cons]
    have eu := exp_up (p1 := (2, la, a0 ++ (sep u.1 v.1, e.2) :: b0)) (p2 := (1, ll, x ++ [u])) (p3 := (1, lr, v :: y)) hcore (by omega) h.1 (k1 := Ab) (k2 := i) (k3 := j) (Or.inr rfl) (Or.inl (by omega)) (Or.inl (by omega))
    rw [exp_c (R := A1) (fun x hx => eu x (List.mem_append_left _ hx)), exp_c (R := B1) (fun x hx => eu x (List.mem_append_right _ hx))]
    show _ = _ ++ (sA, (uP (uP (uP P Ab (2, la, a0 ++ (sep u.1 v.1, e.2) :: b0)) i (1, ll, x ++ [u])) j (1, lr, v :: y) Ab).2.1) :: ((uP (uP (uP P Ab (2, la, a0 ++ (sep u.1 v.1, e.2) :: b0)) i (1, ll, x ++ [u])) j (1, lr, v :: y) Ab).2.2 ++ _)
    rw [eb]
    have : (sA, la) :: ((a0 ++ (sep u.1 v.1, e.2) :: b0) ++ exp P B1) = ((sA, la) :: a0) ++ (sep u.1 v.1, e.2) :: (b0 ++ exp P B1) := by simp
    show _ = _ ++ (sA, la) :: ((a0 ++ (sep u.1 v.1, e.2) :: b0) ++ exp P B1)
    rw [this, h.2.2.1, h.2.2.2]
    simp
  · rw [uV_o (by omega), uV_o (by omega), hg.2.2.1 n hn]
    exact (exp_c (exp_3 hcore (by omega) (by omega) (by omega) (by omega))).symm
/-- the root goes -/
theorem good_lower (hg : Good0 P root L V lvl) (hL : 1 < L) (hp : P root = (2, l, [])) : ∃ r' : Nat, l = (r' : Int) ∧ r' ≠ root ∧ Good0 (uP P root (0, 0, [])) r' (L - 1) (fun n => V (n + 1)) (fun k => lvl k - 1) := by
  have hcore := hg.1
  have h1 := hg.2.2.1 0 (by omega)
  rw [hg.2.1, exp_cons, exp_nil] at h1
  have h1 : V 1 = [([], (P root).2.1)] ++ ((P root).2.2 ++ []) := h1
  rw [hp] at h1
  have h1 : V 1 = [([], l)] := h1
  obtain ⟨k, q1, q2, q3, q4⟩ := hcore.2.1 1 (by omega) ([], l) (by rw [h1]; simp)
  have hr := Core_sort hcore (n := 0) (i := root) (s := []) (by omega) (by rw [hg.2.1]; simp)
  refine ⟨k, q1, by intro heq; subst heq; omega, core_lower hcore hL hg.2.1, ?_, ?_, by omega, by have := hg.2.2.2.2.1; omega, q2⟩
  · show V 1 = _
    rw [h1]
    have : l = (k : Int) := q1
    rw [this]
  · intro n hn
    show V (n + 1 + 1) = _
    rw [hg.2.2.1 (n + 1) (by omega)]
    exact (exp_lv hcore (by omega) (by omega)).symm
end G2
end
section
/-! TAKE: class and model side by side. -/
def tkC (z : Int) : Int → Mem → Option (Mem × Int) := (fun (v5_e67 : Int) (C_e67 : Mem) => (cEq (v5_e67) 0 (bd (f_X0_lowerRoot C_e67) (fun C110 _ => (some (C110, z)))) (some (C_e67, z))))
def tkX (z : Int) : Int → Mem → Option (Mem × Int) := (fun (v1_e81 : Int) (C_e81 : Mem) => (bd (f_X8_at (C_e81 95 1) (0) C_e81) (fun C120 r120 => (cEq (r120) (2) (bd (f_X8_at (C120 95 1) (1) C120) (fun C133 r133 => (cEq (r133) 0 (bd (f_X8_at (C133 95 1) (2) C133) (fun C150 r150 => (bd (f_X8_clears (C133 95 1) (up C150 95 1 (r150))) (fun C159 _ => (some ((up C159 95 2 ((C159 95 2) - 1)), z)))))) (some (C133, z))))) (some (C120, z))))))
def Tk (C X : Mem) (P : Nat → Pg) (V : Nat → List Ent) (lvl : Nat → Nat) (root L t : Nat) (W T : Nat → Nat) (As Bs : Nat → List Ent) (ss : Nat → List Int) (c1 c2 c3 : Int) : Prop := Good0 P root L V lvl ∧ t < L ∧ Pth P V W T As Bs ss t ∧ W 0 = root ∧ (∀ n, n < L → W n < 32) ∧ (1 < L → (P root).2.2 ≠ [] ∨ (t = 0 ∧ (2 < L → (P (P root).2.1.toNat).2.2 ≠ []))) ∧ RC C P root L c1 c2 c3 ∧ WayC C L W T ∧ RX X P root L c1 c2 c3 ∧ WayX X L W T
section TK
variable {C C' X X' : Mem} {P P' : Nat → Pg} {L n t i j q root Ab : Nat} {V V' : Nat → List Ent} {lvl lvl' : Nat → Nat} {A B A1 B1 R S a b x y es le re ws a0 b0 pre : List Ent} {e f u v : Ent} {s s1 s2 s3 sA w sp : List Int} {r l l1 l2 z la ll lr sv c1 c2 c3 : Int} {p pi pj pA : Pg} {W T : Nat → Nat} {As Bs : Nat → List Ent} {ss : Nat → List Int}
theorem mx_keep {v1 : Int} (ho : TOk P) (hT : TX X P) (hR : X 95 1 = (root : Int)) (hr : root < 32) (hp : (P root).1 = 2 → (P root).2.2 ≠ []) : tkX z v1 X = some (X, z) := by
  have hpA := TX_pg ho hT hr
  have hs := (ho root hr).2.2.1
  unfold tkX
  rw [hR, mx_0 hpA rfl, bd_some]
  by_cases h2 : (P root).1 = 2
  · have hn := hp h2
    have hl := PgX_len hpA
    have : (P root).2.2.length ≠ 0 := fun h => hn (List.length_eq_zero_iff.mp h)
    rw [tEq (by omega), hR, mx_1 hpA rfl, bd_some, fEq (by omega)]
  · rw [fEq (by omega)]
theorem mx_lower {v1 : Int} (ho : TOk P) (hT : TX X P) (hR : X 95 1 = (root : Int)) (hr : root < 32) (hp : P root = (2, l, [])) : ∃ X', tkX z v1 X = some (X', z) ∧ TX X' (uP P root (0, 0, [])) ∧ X' 95 1 = l ∧ X' 95 2 = X 95 2 - 1 ∧ (∀ a b, a ≠ 96 → ¬ (a = 95 ∧ (b = 1 ∨ b = 2)) → X' a b = X a b) := by
  have hpA := TX_pg ho hT hr
  rw [hp] at hpA
  have hpA : PgX X root 2 l [] := hpA
  refine ⟨up (stX (up X 95 1 l) root (enc 0 0 [])) 95 2 (X 95 2 - 1), ?_, ?_, ?_, ?_, ?_⟩
  · unfold tkX
    rw [hR, mx_0 hpA rfl, bd_some, tEq (by omega), hR, mx_1 hpA rfl, bd_some, tEq (by simp), hR, mx_2 hpA rfl, bd_some, mx_clear hr rfl, bd_some, stX_k (by omega), up_j (by omega)]
  · exact TX_fr (TX_st (TX_fr hT (fun y => up_k (by omega))) ⟨rfl, rfl, rfl⟩) (fun y => up_k (by omega))
  · rw [up_j (by omega), stX_k (by omega), up_same]
  · rw [up_same]
  · intro a b h1 h2
    rw [up_ap, if_neg (by omega), stX_k h1, up_ap, if_neg (by omega)]
theorem Good_of (h : Good0 P root L V lvl) (h2 : 1 < L → (P root).2.2 ≠ []) : Good P root L V lvl := ⟨h.1, h.2.1, h.2.2.1, h.2.2.2.1, h.2.2.2.2.1, h.2.2.2.2.2, h2⟩
/-- the end, not at the root -/
theorem tk_endN {v : Nat} (hg : Good0 P root L V lvl) (hv : 0 < v) (hv2 : v < 32) (hn : (P root).2.2 ≠ []) (hRC : RC C P root L c1 c2 c3) (hRX : RX X P root L c1 c2 c3) : Fin C X (tkC z (v : Int) C) (tkX z (v : Int) X) z z := by
  refine ⟨C, X, P, root, L, c1, c2, c3, ?_, ?_, hRC, hRX, ⟨V, lvl, Good_of hg (fun _ => hn)⟩, KpC_refl, KpX_refl⟩
  · unfold tkC
    rw [fEq (by omega)]
  · exact mx_keep hg.1.1 hRX.1 hRX.2.1 hg.2.2.2.2.2 (fun _ => hn)
theorem tk_end0 (hP : Tk C X P V lvl root L 0 W T As Bs ss c1 c2 c3) : Fin C X (tkC z 0 C) (tkX z 0 X) z z := by
  obtain ⟨hg, ht, hpth, hW0, hW32, hroot, hRC, hWC, hRX, hWX⟩ := hP
  have hr := hg.2.2.2.2.2
  by_cases hlow : 1 < L ∧ (P root).2.2 = []
  · have hso := Core_sort hg.1 (n := 0) (i := root) (s := []) ht (by rw [hg.2.1]; simp)
    rw [if_neg (by omega)] at hso
    have hp : P root = (2, (P root).2.1, []) := by rw [← hlow.2, ← hso.2.2]
    obtain ⟨r', k1, k2, k3⟩ := good_lower hg hlow.1 hp
    obtain ⟨C', f1, f2, f3, f4, f5⟩ := sp_lower hg.1.1 hRC.1 hRC.2.1 hr hp
    obtain ⟨X', g1, g2, g3, g4, g5⟩ := mx_lower (z := z) (v1 := 0) hg.1.1 hRX.1 hRX.2.1 hr hp
    have hgood : GoodS (uP P root (0, 0, [])) r' (L - 1) := by
      refine ⟨_, _, Good_of k3 ?_⟩
      intro hL2
      rw [uP_o k2]
      rcases hroot hlow.1 with h1 | ⟨_, h1⟩
      · exact absurd hlow.2 h1
      · have := h1 (by omega)
        rw [k1] at this
        simpa using this
    refine ⟨C', X', _, r', L - 1, c1, c2, c3, ?_, g1, ⟨f2, by rw [f3, k1], ?_, ?_, ?_, ?_⟩, ⟨g2, by rw [g3, k1], ?_, ?_, ?_, ?_⟩, hgood, ?_, ?_⟩
    · unfold tkC
      rw [tEq (by omega), f1, bd_some]
    · rw [f4, hRC.2.2.1]; omega
    · rw [f5 _ _ (by omega) (by omega)]; exact hRC.2.2.2.1
    · rw [f5 _ _ (by omega) (by omega)]; exact hRC.2.2.2.2.1
    · rw [f5 _ _ (by omega) (by omega)]; exact hRC.2.2.2.2.2
    · rw [g4, hRX.2.2.1]; omega
    · rw [g5 _ _ (by omega) (by omega)]; exact hRX.2.2.2.1
    · rw [g5 _ _ (by omega) (by omega)]; exact hRX.2.2.2.2.1
    · rw [g5 _ _ (by omega) (by omega)]; exact hRX.2.2.2.2.2
    · exact fun x y h1 h2 h3 => f5 x y h1 (by omega)
    · exact fun a b hab => g5 a b (by omega) (by omega)
  · have hn : 1 < L → (P root).2.2 ≠ [] := fun h1 h2 => hlow ⟨h1, h2⟩
    have hp : (P root).1 = 2 → (P root).2.2 ≠ [] := by
      intro h2
      have hso := Core_sort hg.1 (n := 0) (i := root) (s := []) ht (by rw [hg.2.1]; simp)
      by_cases h1 : 0 + 1 = L
      · rw [if_pos h1] at hso; omega
      · exact hn (by omega)
    refine ⟨C, X, P, root, L, c1, c2, c3, ?_, mx_keep hg.1.1 hRX.1 hRX.2.1 hr hp, hRC, hRX, ⟨V, lvl, Good_of hg hn⟩, KpC_refl, KpX_refl⟩
    unfold tkC
    rw [tEq (by omega), sp_lower0 hg.1.1 hRC.1 hRC.2.1 hr hp, bd_some]
/-- the neighbour that a page is mended with -/
theorem tk_two (hP : Tk C X P V lvl root L (t + 1) W T As Bs ss c1 c2 c3) : ((P (W t)).2.2 = [] ∧ T t = 0) ∨ ∃ a0 e b0 pre s1 i j, Two P V t (As t) (Bs t) (ss t) (W t) (P (W t)).2.1 a0 e b0 pre s1 i j ∧ Btw (T t) (a0 ++ e :: b0).length a0.length ∧ T t ≤ (a0 ++ e :: b0).length ∧ (W (t + 1) = i ∨ W (t + 1) = j) := by
  obtain ⟨hg, ht, hpth, hW0, hW32, hroot, hRC, hWC, hRX, hWX⟩ := hP
  obtain ⟨a, b, pre, d1, d2, d3, d4, d5⟩ := hpth.2 t (by omega)
  have hvt := hpth.1 t (by omega)
  have hso := Core_sort hg.1 (n := t) (by omega) (show (ss t, ((W t : Nat) : Int)) ∈ V t by rw [hvt]; simp)
  rw [if_neg (by omega)] at hso
  have hV1 : V (t + 1) = exp P (As t) ++ (ss t, (P (W t)).2.1) :: ((a ++ b) ++ exp P (Bs t)) := by
    rw [hg.2.2.1 t ht, hvt, exp_app, exp_cons]
    show _ ++ (ss t, (P (W t)).2.1) :: ((P (W t)).2.2 ++ _) = _
    rw [d1]
  have hnat : ∀ e ∈ V (t + 1), ∃ k : Nat, e.2 = (k : Int) := by
    intro e he
    obtain ⟨k, q1, _⟩ := hg.1.2.1 (t + 1) ht e he
    exact ⟨k, q1⟩
  cases b with
  | cons e b0 =>
    obtain ⟨j, hj⟩ := hnat e (by rw [hV1]; simp)
    refine Or.inr ⟨a, e, b0, pre, ss (t + 1), W (t + 1), j, ⟨hvt, ?_, d3, hj⟩, Or.inl ⟨by simp; omega, d2⟩, by simp; omega, Or.inl rfl⟩
    rw [← d1, ← hso.2.2]
  | nil =>
    by_cases ha : a = []
    · subst ha
      exact Or.inl ⟨d1, by rw [← d2]; rfl⟩
    · obtain ⟨a', e, hae⟩ := snoc ha
      subst hae
      have h3 : ((ss t, (P (W t)).2.1) :: a') ++ [e] = pre ++ [(ss (t + 1), ((W (t + 1) : Nat) : Int))] := d3
      have h4 := List.append_inj' h3 rfl
      have he : e = (ss (t + 1), ((W (t + 1) : Nat) : Int)) := by simpa using h4.2
      have hl := lastD_eq (a := a') (x := (ss t, (P (W t)).2.1))
      obtain ⟨i, hi⟩ := hnat (((ss t, (P (W t)).2.1) :: a').getLastD ([], 0)) (by
        have hm : ((ss t, (P (W t)).2.1) :: a').getLastD ([], 0) ∈ (ss t, (P (W t)).2.1) :: a' := by
          have hz : ((ss t, (P (W t)).2.1) :: a').getLastD ([], 0) ∈ ((ss t, (P (W t)).2.1) :: a').dropLast ++ [((ss t, (P (W t)).2.1) :: a').getLastD ([], 0)] := List.mem_append_right _ (List.mem_singleton.mpr rfl)
          rw [← hl] at hz
          exact hz
        have e9 : V (t + 1) = exp P (As t) ++ (((ss t, (P (W t)).2.1) :: a') ++ ([e] ++ exp P (Bs t))) := by rw [hV1]; simp
        rw [e9]
        exact List.mem_append_right _ (List.mem_append_left _ hm))
      have hlx : ((ss t, (P (W t)).2.1) :: a').getLastD ([], 0) = ((((ss t, (P (W t)).2.1) :: a').getLastD ([], 0)).1, (i : Int)) := by rw [← hi]
      refine Or.inr ⟨a', e, [], ((ss t, (P (W t)).2.1) :: a').dropLast, (((ss t, (P (W t)).2.1) :: a').getLastD ([], 0)).1, i, W (t + 1), ⟨hvt, ?_, ?_, by rw [he]⟩, Or.inr ⟨?_, ?_⟩, ?_, Or.inr rfl⟩
      · have : (P (W t)).2.2 = a' ++ e :: [] := by rw [d1]; simp
        rw [← this, ← hso.2.2]
      · rw [← hlx]; exact hl
      · rw [← d2]; simp
      · rw [← d2]; simp
      · rw [← d2]; simp
theorem chd_two (h : Two P V t A1 B1 sA Ab la a0 e b0 pre s1 i j) : chd (P Ab) a0.length = (i : Int) := by
  rw [h.2.1, chd_last (s := sA), h.2.2.1]
  simp
/-- two pages with all that stands between them -/
theorem ws_sz (hw : Ws sv e lr le re ws) (he : EOk e) (h1 : szs le ≤ 61) (h2 : szs re ≤ 61) (h3 : szs le ≤ 28 ∨ szs re ≤ 28) : szs ws ≤ 99 := by
  have h8 := he.2.1
  rcases hw with ⟨_, h⟩ | ⟨_, h⟩
  · rw [h, szs_app]; omega
  · rw [h, szs_app, szs_cons]
    show szs le + (e.1.length + 2 + szs re) ≤ 99
    omega
theorem tk_loop : ∀ (t : Nat) (n1 n2 : Nat) (C X : Mem) (P : Nat → Pg) (V : Nat → List Ent) (c2 c3 : Int), t < n1 → t < n2 → Tk C X P V lvl root L t W T As Bs ss c1 c2 c3 → Fin C X (f_X0_takeKey_67 z (tkC z) n1 (t : Int) C) (f_X8_takeKey_81 z (tkX z) n2 (t : Int) X) z z
  | _, 0, _ => by intros; omega
  | _, _, 0 => by intros; omega
  | 0, n1 + 1, n2 + 1 => by
    intro C X P V c2 c3 _ _ hP
    unfold f_X0_takeKey_67 f_X8_takeKey_81
    rw [fLt (by omega), fLt (by omega)]
    exact tk_end0 hP
  | t + 1, n1 + 1, n2 + 1 => by
    intro C X P V c2 c3 hn1 hn2 hP
    have hP0 := hP
    obtain ⟨hg, ht, hpth, hW0, hW32, hroot, hRC, hWC, hRX, hWX⟩ := hP
    have hL32 := hg.2.2.2.2.1
    have hr32 := hg.2.2.2.2.2
    have hvt1 := hpth.1 (t + 1) (Nat.le_refl _)
    have hso1 := Core_sort hg.1 (n := t + 1) ht (show (ss (t + 1), ((W (t + 1) : Nat) : Int)) ∈ V (t + 1) by rw [hvt1]; simp)
    have hsn : (P (W (t + 1))).1 ≠ 0 := by rw [hso1.2.2]; split <;> omega
    have hnr : (P root).2.2 ≠ [] := by
      rcases hroot (by omega) with h | ⟨h, _⟩
      · exact h
      · omega
    have hpo := sp_pageOn hWC hL32 ht hso1.1 (z := ((t + 1 : Nat) : Int)) rfl
    have huC := sp_used (TC_pg hg.1.1 hRC.1 hso1.1) hsn
    have huX := mx_used (p := ((W (t + 1) : Nat) : Int)) (TX_pg hg.1.1 hRX.1 hso1.1) rfl hsn
    have hsz := (hg.1.1 _ hso1.1).2.1
    have hwx := hWX.1 (t + 1) ht
    unfold f_X0_takeKey_67 f_X8_takeKey_81
    rw [tLt (by omega), tLt (by omega), hpo, bd_some, huC, bd_some, ix_t (by omega), nat2 rfl, hwx, huX, bd_some]
    by_cases h32 : 3 + szs (P (W (t + 1))).2.2 < 32
    · rw [tLt (by omega), tLt (by omega)]
      rcases tk_two hP0 with ⟨h0, hT0⟩ | ⟨a0, e, b0, pre, s1, i, j, h2, hb, hTl, hij⟩
      · -- nothing beside it
        have hso := Core_sort hg.1 (n := t) (by omega) (show (ss t, ((W t : Nat) : Int)) ∈ V t by rw [hpth.1 t (by omega)]; simp)
        rw [if_neg (by omega)] at hso
        have hpA : P (W t) = (2, (P (W t)).2.1, []) := by rw [← h0, ← hso.2.2]
        rw [sp_mend0 hg.1.1 hRC.1 hWC hL32 ht rfl hso.1 hpA hT0 (by omega), bd_some, tEq (by omega), mx_mend0 hg.1.1 hRX.1 hWX hL32 ht rfl hso.1 hpA (by omega), bd_some, tEq (by omega)]
        exact tk_endN hg (by omega) (by omega) hnr hRC hRX
      · obtain ⟨i32, j32, b32, hne, hib, hjb, li, lj, lb, sb, si, sj⟩ := two_3 hg ht h2
        have hch := chd_two h2
        have oi := hg.1.1 i i32
        have oj := hg.1.1 j j32
        have ob := hg.1.1 (W t) b32
        have heo : EOk e := by rw [h2.2.1] at ob; exact EsOk_mid ob.1
        have h28 : szs (P i).2.2 ≤ 28 ∨ szs (P j).2.2 ≤ 28 := by
          rcases hij with h | h
          · rw [h] at h32; exact Or.inl (by omega)
          · rw [h] at h32; exact Or.inr (by omega)
        have hlvW : ∀ n, n ≤ t → lvl (W n) = n := fun n hn => (Core_sort hg.1 (n := n) (by omega) (show (ss n, ((W n : Nat) : Int)) ∈ V n by rw [hpth.1 n (by omega)]; simp)).2.1
        -- either kind of page: what both have
        have hcase : ∃ sv ws, (sv = 1 ∨ sv = 2) ∧ (sv = 1 ↔ t + 2 = L) ∧ P i = (sv, (P i).2.1, (P i).2.2) ∧ P j = (sv, (P j).2.1, (P j).2.2) ∧ Ws sv e (P j).2.1 (P i).2.2 (P j).2.2 ws := by
          by_cases hl : t + 2 = L
          · rw [if_pos hl] at si sj
            exact ⟨1, _, Or.inl rfl, by simp [hl], by rw [← si], by rw [← sj], Or.inl ⟨rfl, rfl⟩⟩
          · rw [if_neg hl] at si sj
            exact ⟨2, _, Or.inr rfl, by simp [hl], by rw [← si], by rw [← sj], Or.inr ⟨rfl, rfl⟩⟩
        obtain ⟨sv, ws, hsv, hsvl, hpi, hpj, hw⟩ := hcase
        have hwok := Ws_ok hw oi.1 oj.1 heo oj.2.2.2
        have hwsz := ws_sz hw heo oi.2.1 oj.2.1 h28
        by_cases h61 : szs ws ≤ 61
        · -- joined
          obtain ⟨C1, f1, f2, f3, f4, f5, f6⟩ := sp_mendJ hg.1.1 hRC.1 hWC hL32 ht rfl b32 h2.2.1 hb hch i32 h2.2.2.2 j32 hpi hpj hsv hw h61 hib hjb hne (z := ((t + 1 : Nat) : Int)) (by omega)
          obtain ⟨X1, g1, g2, g3, g4, g5, g6⟩ := mx_mendJ hg.1.1 hRX.1 hWX hL32 ht rfl b32 h2.2.1 hb hTl hch i32 h2.2.2.2 j32 hpi hpj hsv hw h61 hib hjb hne (r := ((t + 1 : Nat) : Int)) (by omega)
          have hg' := good_join hg ht h2 hpi hpj hw h61
          have hu3 : ∀ n, n < t → ∀ x ∈ V n, uP (uP (uP P i (sv, if sv = 1 then (P j).2.1 else (P i).2.1, ws)) j (0, 0, [])) (W t) (2, (P (W t)).2.1, a0 ++ b0) x.2.toNat = P x.2.toNat := fun n hn => exp_3 hg.1 (by omega) (by omega) (by omega) (by omega)
          have hWt : ∀ n, n < t → uP (uP (uP P i (sv, if sv = 1 then (P j).2.1 else (P i).2.1, ws)) j (0, 0, [])) (W t) (2, (P (W t)).2.1, a0 ++ b0) (W n) = P (W n) := by
            intro n hn
            have := hu3 n hn (ss n, ((W n : Nat) : Int)) (by rw [hpth.1 n (by omega)]; simp)
            simpa using this
          have ht2 : Tk C1 X1 (uP (uP (uP P i (sv, if sv = 1 then (P j).2.1 else (P i).2.1, ws)) j (0, 0, [])) (W t) (2, (P (W t)).2.1, a0 ++ b0)) (uV V (t + 1) ((exp P (As t) ++ pre) ++ (s1, (i : Int)) :: (b0 ++ exp P (Bs t)))) lvl root L t W T As Bs ss c1 (c2 + 1) c3 := by
            refine ⟨hg', by omega, ⟨?_, ?_⟩, hW0, hW32, ?_, RC_Fc hRC f3 f2 ?_ ?_ ?_, WayC_Fc hWC f3, RX_Fx hRX g3 g2 ?_ ?_ ?_, WayX_Fx hWX g3⟩
            · intro n hn
              rw [uV_o (by omega)]
              exact hpth.1 n (by omega)
            · intro n hn
              obtain ⟨a2, b2, pre2, q1, q2, q3, q4, q5⟩ := hpth.2 n (by omega)
              refine ⟨a2, b2, pre2, by rw [hWt n hn]; exact q1, q2, by rw [hWt n hn]; exact q3, ?_, ?_⟩
              · rw [exp_c (fun x hx => hu3 n hn x (by rw [hpth.1 n (by omega)]; simp; exact Or.inl hx))]; exact q4
              · rw [exp_c (fun x hx => hu3 n hn x (by rw [hpth.1 n (by omega)]; simp; exact Or.inr (Or.inr hx)))]; exact q5
            · intro _
              cases t with
              | zero =>
                rw [hW0] at hib hjb h2 ⊢
                rw [uP_s]
                by_cases hemp : a0 ++ b0 = []
                · refine Or.inr ⟨rfl, ?_⟩
                  intro h2L
                  have ha0 : a0 = [] := (List.append_eq_nil_iff.mp hemp).1
                  have h3 := h2.2.2.1
                  rw [ha0] at h3
                  obtain ⟨q1, q2, q3⟩ := single h3
                  have hli : (P root).2.1 = (i : Int) := (congrArg Prod.snd q2).symm
                  show (uP (uP (uP P i (sv, if sv = 1 then (P j).2.1 else (P i).2.1, ws)) j (0, 0, [])) root (2, (P root).2.1, a0 ++ b0) (P root).2.1.toNat).2.2 ≠ []
                  rw [hli, show ((i : Nat) : Int).toNat = i by omega, uP_o hib, uP_o hne, uP_s]
                  rcases hw with ⟨hw1, _⟩ | ⟨_, hw⟩
                  · exact absurd (hsvl.mp hw1) (by omega)
                  · show ws ≠ []
                    rw [hw]; simp
                · exact Or.inl hemp
              | succ t =>
                have := hWt 0 (by omega)
                rw [hW0] at this
                rw [this]
                exact Or.inl hnr
            · rw [f4]; exact hRC.2.2.2.1
            · rw [f5, hRC.2.2.2.2.1]
            · rw [f6]; exact hRC.2.2.2.2.2
            · rw [g4]; exact hRX.2.2.2.1
            · rw [g5, hRX.2.2.2.2.1]
            · rw [g6]; exact hRX.2.2.2.2.2
          rw [f1, bd_some, fEq (by omega), g1, bd_some, fEq (by omega), show ((t + 1 : Nat) : Int) + -1 = (t : Int) by omega]
          exact Fin_tr (Fc_KpC f3) (Fx_KpX g3) (tk_loop t n1 n2 C1 X1 _ _ (c2 + 1) c3 (by omega) (by omega) ht2)
        · -- shared, or left
          obtain ⟨x', u, v, y, e1, e2, e3, e4, e5⟩ := hf_split hwok (by omega)
          have e6 : szs ws = szs (x' ++ [u]) + (v.1.length + 2 + szs y) := by rw [e1, szs_app, szs_cons]
          rcases hw with ⟨hw1, hw⟩ | ⟨hw1, hw⟩
          · -- leaves
            subst hw1
            have htl := hsvl.mp rfl
            have hpw := two_pw hg htl h2
            rw [hw] at e1 e2 e6 h61 hwsz e3 e4
            rw [e1] at hpw
            obtain ⟨hc, _⟩ := pw_part hpw
            have hll := (two_link hg htl h2).1
            obtain ⟨C1, f1, f2, f3, f4, f5⟩ := sp_mendL hg.1.1 hRC.1 hWC hL32 ht rfl b32 h2.2.1 hb hch i32 h2.2.2.2 j32 hpi hpj (by omega) hib hjb hne e1 e2 hc (by omega) (by rw [szs_cons]; omega) (z := ((t + 1 : Nat) : Int)) (by omega)
            obtain ⟨X1, g1, g2, g3, g4, g5⟩ := mx_mendL hg.1.1 hRX.1 hWX hL32 ht rfl b32 h2.2.1 hb hTl hch i32 h2.2.2.2 j32 hpi hpj (by omega) hib hjb hne e1 e2 hc (by omega) (by rw [szs_cons]; omega) hll (r := ((t + 1 : Nat) : Int)) (by omega)
            rw [f1, bd_some, tEq (by omega), g1, bd_some, tEq (by omega)]
            refine Fin_tr (Fc_KpC f2) (Fx_KpX g2) ?_
            rcases f5 with ⟨k1, k2, k3⟩ | ⟨k1, k2, k3⟩
            · rcases g5 with ⟨m1, m2, m3⟩ | ⟨m1, _, _⟩
              · exact tk_endN hg (by omega) (by omega) hnr (RC_Fc hRC f2 k2 (d1 := c1) (d2 := c2) (d3 := c3) (by rw [f3]; exact hRC.2.2.2.1) (by rw [f4]; exact hRC.2.2.2.2.1) (by rw [k3]; exact hRC.2.2.2.2.2)) (RX_Fx hRX g2 m2 (d1 := c1) (d2 := c2) (d3 := c3) (by rw [g3]; exact hRX.2.2.2.1) (by rw [g4]; exact hRX.2.2.2.2.1) (by rw [m3]; exact hRX.2.2.2.2.2))
              · omega
            · rcases g5 with ⟨m1, _, _⟩ | ⟨m1, m2, m3⟩
              · omega
              · have hg' := good_shL hg htl h2 hpi hpj e1 (by omega) (by rw [szs_cons]; omega) k1
                refine tk_endN hg' (by omega) (by omega) ?_ (RC_Fc hRC f2 k2 (d1 := c1) (d2 := c2) (d3 := c3 + 1) (by rw [f3]; exact hRC.2.2.2.1) (by rw [f4]; exact hRC.2.2.2.2.1) (by rw [k3, hRC.2.2.2.2.2])) (RX_Fx hRX g2 m2 (d1 := c1) (d2 := c2) (d3 := c3 + 1) (by rw [g3]; exact hRX.2.2.2.1) (by rw [g4]; exact hRX.2.2.2.2.1) (by rw [m3, hRX.2.2.2.2.2]))
                have hlr : lvl root = 0 := (Core_sort hg.1 (n := 0) (i := root) (s := []) (by omega) (by rw [hg.2.1]; simp)).2.1
                rw [uP_o (by intro hh; subst hh; omega), uP_o (by intro hh; subst hh; omega)]
                by_cases hrt : root = W t
                · rw [hrt, uP_s]; simp
                · rw [uP_o hrt]; exact hnr
          · -- inner ones
            subst hw1
            have htl : t + 2 < L := by
              have : ¬ t + 2 = L := fun hh => by have := hsvl.mpr hh; omega
              omega
            obtain ⟨C1, f1, f2, f3, f4, f5⟩ := sp_mendI hg.1.1 hRC.1 hWC hL32 ht rfl b32 h2.2.1 hb hch i32 h2.2.2.2 j32 hpi hpj hw (by omega) hib hjb hne e1 e2 (by omega) (by omega) (z := ((t + 1 : Nat) : Int)) (by omega)
            obtain ⟨X1, g1, g2, g3, g4, g5⟩ := mx_mendI hg.1.1 hRX.1 hWX hL32 ht rfl b32 h2.2.1 hb hTl hch i32 h2.2.2.2 j32 hpi hpj hw (by omega) hib hjb hne e1 e2 (by omega) (by omega) (r := ((t + 1 : Nat) : Int)) (by omega)
            rw [f1, bd_some, tEq (by omega), g1, bd_some, tEq (by omega)]
            refine Fin_tr (Fc_KpC f2) (Fx_KpX g2) ?_
            rcases f5 with ⟨k1, k2, k3⟩ | ⟨k1, k2, k3⟩
            · rcases g5 with ⟨m1, m2, m3⟩ | ⟨m1, _, _⟩
              · exact tk_endN hg (by omega) (by omega) hnr (RC_Fc hRC f2 k2 (d1 := c1) (d2 := c2) (d3 := c3) (by rw [f3]; exact hRC.2.2.2.1) (by rw [f4]; exact hRC.2.2.2.2.1) (by rw [k3]; exact hRC.2.2.2.2.2)) (RX_Fx hRX g2 m2 (d1 := c1) (d2 := c2) (d3 := c3) (by rw [g3]; exact hRX.2.2.2.1) (by rw [g4]; exact hRX.2.2.2.2.1) (by rw [m3]; exact hRX.2.2.2.2.2))
              · omega
            · rcases g5 with ⟨m1, _, _⟩ | ⟨m1, m2, m3⟩
              · omega
              · have hg' := good_shI hg htl h2 hpi hpj (by rw [← hw]; exact e1) (by omega) (by omega) k1
                refine tk_endN hg' (by omega) (by omega) ?_ (RC_Fc hRC f2 k2 (d1 := c1) (d2 := c2) (d3 := c3 + 1) (by rw [f3]; exact hRC.2.2.2.1) (by rw [f4]; exact hRC.2.2.2.2.1) (by rw [k3, hRC.2.2.2.2.2])) (RX_Fx hRX g2 m2 (d1 := c1) (d2 := c2) (d3 := c3 + 1) (by rw [g3]; exact hRX.2.2.2.1) (by rw [g4]; exact hRX.2.2.2.2.1) (by rw [m3, hRX.2.2.2.2.2]))
                have hlr : lvl root = 0 := (Core_sort hg.1 (n := 0) (i := root) (s := []) (by omega) (by rw [hg.2.1]; simp)).2.1
                rw [uP_o (by intro hh; subst hh; omega), uP_o (by intro hh; subst hh; omega)]
                by_cases hrt : root = W t
                · rw [hrt, uP_s]; simp
                · rw [uP_o hrt]; exact hnr
    · rw [fLt (by omega), fLt (by omega)]
      exact tk_endN hg (by omega) (by omega) hnr hRC hRX
end TK
end
section
/-! TAKE a key. -/
section TQ
variable {C C' X X' : Mem} {P P' : Nat → Pg} {L n t i j q root k : Nat} {V V' : Nat → List Ent} {lvl lvl' : Nat → Nat} {A B R S a b x y es : List Ent} {e f u v : Ent} {s s2 w : List Int} {r l l1 l2 z c1 c2 c3 : Int} {p : Pg} {W T : Nat → Nat} {As Bs : Nat → List Ent} {ss : Nat → List Int}
theorem take_key (hgs : GoodS P root L) (hRC : RC C P root L c1 c2 c3) (hRX : RX X P root L c1 c2 c3) (hKC : KyC C k w) (hk5 : k < 5) (hKX : KX X w) : ∃ y, -9 ≤ y ∧ y ≤ 255 ∧ Fin C X (f_X0_takeKey k C) (f_X8_takeKey X) y y := by
  obtain ⟨V, lvl, hg⟩ := hgs
  obtain ⟨C1, X1, W, T, As, Bs, ss, m, hm, hd, hpth, hcp, hi32, hi1, g1, hRC1, hWC, hKC1, hkc, x1, hRX1, hWX, hKX1, hkx⟩ := both_down hg hRC hRX hKC hk5 hKX
  have hg0 := hg
  have hfu := FU_eq
  obtain ⟨hcore, h0, heq, hL1, hL32, hr, hroot⟩ := hg
  have hvt := hpth.1 m (Nat.le_refl _)
  obtain ⟨a, b, hes, hal, ha, hb⟩ := leaf_at w (P (W m)).2.2
  have hpC := TC_pg hcore.1 hRC1.1 hi32
  have hpX := TX_pg hcore.1 hRX1.1 hi32
  have hlink := (hcore.1 _ hi32).2.2.2
  have hsz : szs (P (W m)).2.2 ≤ 61 := (hcore.1 _ hi32).2.1
  have hpi : P (W m) = (1, (P (W m)).2.1, a ++ b) := by rw [← hes, ← hi1]
  have hpC' : PgC C1 (W m) 1 (P (W m)).2.1 (a ++ b) := by rw [hpi] at hpC; exact hpC
  have hpX' : PgX X1 (W m) 1 (P (W m)).2.1 (a ++ b) := by rw [hpi] at hpX; exact hpX
  have hpo := sp_pageOn hWC hL32 (t := m) (by omega) hi32 (z := (L : Int) - 1) (by omega)
  have hbl := sp_below (t := 0) (Or.inl rfl) hpC' hKC1
  have hpl := mx_place (p := ((W m : Nat) : Int)) hpX' rfl hKX1
  rw [hes] at hal
  rw [← hal] at hbl hpl
  have hway : X1 102 ((L : Int) - 1).toNat = ((W m : Nat) : Int) := by rw [show ((L : Int) - 1).toNat = m by omega]; exact hWX.1 m (by omega)
  rcases hb with ⟨e, b', hb1, hb2⟩ | hb
  · rw [hb1] at hpC' hpX' hes
    have heo := (hcore.1 _ hi32).1
    rw [hes] at heo hsz
    have he := EsOk_mid heo
    have hzz := hsz
    rw [szs_app, szs_cons] at hzz
    have hlenX := PgX_len hpX'
    have h1 := EsOk_app.mp heo
    have h2 := EsOk_cons.mp h1.2
    have heo2 : EsOk (a ++ b') := EsOk_app.mpr ⟨h1.1, h2.2⟩
    have hsz2 : szs (a ++ b') ≤ 61 := by rw [szs_app]; omega
    refine ⟨e.2, by have := he.2.2.2; omega, he.2.2.2.2, Fin_tr hkc hkx ?_⟩
    have hpok : POk (1, (P (W m)).2.1, a ++ b') := ⟨heo2, hsz2, by show (0 : Int) ≤ 1 ∧ (1 : Int) ≤ 2; omega, hlink⟩
    have hpw : (lfs P (As m) ++ (ss m, 0) :: ((a ++ b').map k1 ++ lfs P (Bs m))).Pairwise lt2 := by
      have h3 := hcore.2.2.2.2.2
      rw [show L - 1 = m by omega, hvt, lfs_mid, hes] at h3
      have e3 : lfs P (As m) ++ (ss m, 0) :: ((a ++ e :: b').map k1 ++ lfs P (Bs m)) = (lfs P (As m) ++ (ss m, 0) :: a.map k1) ++ k1 e :: (b'.map k1 ++ lfs P (Bs m)) := by simp
      rw [e3] at h3
      have h4 := pw_del h3
      have e4 : lfs P (As m) ++ (ss m, 0) :: ((a ++ b').map k1 ++ lfs P (Bs m)) = (lfs P (As m) ++ (ss m, 0) :: a.map k1) ++ (b'.map k1 ++ lfs P (Bs m)) := by simp
      rw [e4]; exact h4
    have hgd := good_leaf hg0 hm hvt rfl hpok hpw
    -- the class
    have hfc : Fc C1 (stP C1 (W m) (enc 1 (P (W m)).2.1 (a ++ b'))) := Fc_st Fc_refl
    have hRC2 : RC (stP C1 (W m) (enc 1 (P (W m)).2.1 (a ++ b'))) (uP P (W m) (1, (P (W m)).2.1, a ++ b')) root L c1 c2 c3 := RC_Fc hRC1 hfc (TC_st (p := (1, (P (W m)).2.1, a ++ b')) hRC1.1 hi32 ⟨rfl, rfl, rfl⟩) (by rw [stP_k (by omega)]; exact hRC1.2.2.2.1) (by rw [stP_k (by omega)]; exact hRC1.2.2.2.2.1) (by rw [stP_k (by omega)]; exact hRC1.2.2.2.2.2)
    have preC : f_X0_takeKey k C = f_X0_takeKey_67 e.2 (tkC e.2) FU (m : Int) (stP C1 (W m) (enc 1 (P (W m)).2.1 (a ++ b'))) := by
      unfold f_X0_takeKey
      rw [g1, bd_some, hRC1.2.2.1, hpo, bd_some, hbl, bd_some, sp_isEntry hpC' hKC1 rfl, bd_some, if_pos hb2, fEq (by omega), sp_tail hpC' rfl, bd_some, sp_remove hpC' rfl, bd_some, hRC2.2.2.1, show ((L : Int) - 1) = (m : Int) by omega]
      rfl
    -- the model
    obtain ⟨X2, o1, o2, o3⟩ := mx_out0 hpX' (p := ((W m : Nat) : Int)) rfl
    obtain ⟨X3, n1, n2, n3⟩ := mx_go o2 (by omega) (q := (a.length : Int)) rfl
    have hF := Fro_tr o3 n3
    have hpX3 := Fro_PgX hpX' hF
    have hv96 : X1 96 (64 * W m + (3 + szs a + 1 + e.1.length)) = e.2 := by
      rw [hpX'.1 _ (by omega), enc_tail rfl]
    have mk := mx_back (i := W m) (p := ((W m : Nat) : Int)) (s := 1) (l := (P (W m)).2.1) (X := X3) (x := []) (y := a ++ b') (z := []) (q4 := 0) (q5 := X3 95 6) hi32 rfl (by rw [List.append_nil]; exact n2.2.1) heo2 (by simp at hlenX ⊢; omega) hsz2 (by rfl) (by rw [n2.1]; simp)
    have hfx : Fx X1 (stX X3 (W m) (enc 1 (P (W m)).2.1 (a ++ b'))) := Fx_st (Fro_Fx hF)
    have hRX2 : RX (stX X3 (W m) (enc 1 (P (W m)).2.1 (a ++ b'))) (uP P (W m) (1, (P (W m)).2.1, a ++ b')) root L c1 c2 c3 := RX_Fx hRX1 hfx (TX_st (pg := (1, (P (W m)).2.1, a ++ b')) (Fro_TX hRX1.1 hF) ⟨rfl, rfl, rfl⟩) (by rw [stX_k (by omega), hF _ _ (by omega) (by omega) (by omega) (by omega)]; exact hRX1.2.2.2.1) (by rw [stX_k (by omega), hF _ _ (by omega) (by omega) (by omega) (by omega)]; exact hRX1.2.2.2.2.1) (by rw [stX_k (by omega), hF _ _ (by omega) (by omega) (by omega) (by omega)]; exact hRX1.2.2.2.2.2)
    have preX : f_X8_takeKey X = f_X8_takeKey_81 e.2 (tkX e.2) FU (m : Int) (stX X3 (W m) (enc 1 (P (W m)).2.1 (a ++ b'))) := by
      unfold f_X8_takeKey
      rw [x1, bd_some, hRX1.2.2.1, ix_t (by omega), hway, hpl, bd_some, mx_isAt hpX' rfl hKX1 rfl, bd_some, if_pos hb2, fEq (by omega), mx_tell hpX' rfl rfl, bd_some, ix_t (by omega), nat2 rfl, hv96, o1, bd_some, n1, bd_some, mx_2 hpX3 rfl, bd_some, mk, bd_some, show ((L : Int) - 1) = (m : Int) by omega]
      rfl
    have hu : ∀ n, n < m → ∀ x ∈ V n, uP P (W m) (1, (P (W m)).2.1, a ++ b') x.2.toNat = P x.2.toNat := by
      intro n hn x hx
      have hso := Core_sort hcore (n := m) (by omega) (show (ss m, ((W m : Nat) : Int)) ∈ V m by rw [hvt]; simp)
      obtain ⟨k', q1, q2, q3, q4⟩ := hcore.2.1 n (by omega) x hx
      refine uP_o ?_
      intro hh
      have : k' = W m := by omega
      rw [this] at q3
      omega
    have hWt : ∀ n, n < m → uP P (W m) (1, (P (W m)).2.1, a ++ b') (W n) = P (W n) := by
      intro n hn
      have := hu n hn (ss n, ((W n : Nat) : Int)) (by rw [hpth.1 n (by omega)]; simp)
      simpa using this
    have hTk : Tk (stP C1 (W m) (enc 1 (P (W m)).2.1 (a ++ b'))) (stX X3 (W m) (enc 1 (P (W m)).2.1 (a ++ b'))) (uP P (W m) (1, (P (W m)).2.1, a ++ b')) V lvl root L m W T As Bs ss c1 c2 c3 := by
      refine ⟨⟨hgd.1, hgd.2.1, hgd.2.2.1, hgd.2.2.2.1, hgd.2.2.2.2.1, hgd.2.2.2.2.2.1⟩, by omega, ⟨fun n hn => hpth.1 n hn, ?_⟩, hd.1, hd.2.1, fun h => Or.inl (hgd.2.2.2.2.2.2 h), hRC2, WayC_Fc hWC hfc, hRX2, WayX_Fx hWX hfx⟩
      intro n hn
      obtain ⟨a2, b2, pre2, q1, q2, q3, q4, q5⟩ := hpth.2 n hn
      refine ⟨a2, b2, pre2, by rw [hWt n hn]; exact q1, q2, by rw [hWt n hn]; exact q3, ?_, ?_⟩
      · rw [exp_c (fun x hx => hu n hn x (by rw [hpth.1 n (by omega)]; simp; exact Or.inl hx))]; exact q4
      · rw [exp_c (fun x hx => hu n hn x (by rw [hpth.1 n (by omega)]; simp; exact Or.inr (Or.inr hx)))]; exact q5
    rw [preC, preX]
    exact Fin_tr (Fc_KpC hfc) (Fx_KpX hfx) (tk_loop m FU FU _ _ _ _ c2 c3 (by omega) (by omega) hTk)
  · have hisC : f_X4_isEntry (W m) (a.length : Int) k C1 = some (C1, 0) := by
      cases b with
      | nil =>
        rw [List.append_nil] at hpC'
        exact sp_isEntry_end hpC' rfl
      | cons e b' =>
        rw [sp_isEntry hpC' hKC1 rfl, if_neg (hb e rfl).2]
    have hisX : f_X8_isAt ((W m : Nat) : Int) (a.length : Int) X1 = some (X1, 0) := by
      cases b with
      | nil =>
        rw [List.append_nil] at hpX'
        exact mx_isAt_end hpX' rfl rfl
      | cons e b' =>
        rw [mx_isAt hpX' rfl hKX1 rfl, if_neg (hb e rfl).2]
    refine ⟨-9, by omega, by omega, Fin_tr hkc hkx ⟨C1, X1, P, root, L, c1, c2, c3, ?_, ?_, hRC1, hRX1, ⟨V, lvl, hg0⟩, KpC_refl, KpX_refl⟩⟩
    · unfold f_X0_takeKey
      rw [g1, bd_some, hRC1.2.2.1, hpo, bd_some, hbl, bd_some, hisC, bd_some, tEq (by omega)]
    · unfold f_X8_takeKey
      rw [x1, bd_some, hRX1.2.2.1, ix_t (by omega), hway, hpl, bd_some, hisX, bd_some, tEq (by omega)]
end TQ
end
section
/-! LOAD: the rows, the class. -/
def ksp (f s : Int) (k : Nat) : List Int := spl 3 (f + s * (k : Int))
def en (f s : Int) (k : Nat) : Ent := (ksp f s k, (k : Int))
def sg (f s : Int) (a : Nat) : Nat → List Ent
  | 0 => []
  | m + 1 => sg f s a m ++ [en f s (a + m)]
/-- leaves as they are filled -/
def PF (f s : Int) (N c : Nat) : Nat → Pg := fun p => if p < N then (1, (p : Int) + 2, sg f s (12 * p) 12) else if p = N then (1, 0, sg f s (12 * N) c) else (0, 0, [])
section LO
variable {C C' X X' : Mem} {P P' : Nat → Pg} {f s : Int} {a b m n N c k p : Nat}
theorem sg_app (a m : Nat) : ∀ k, sg f s a (m + k) = sg f s a m ++ sg f s (a + m) k
  | 0 => by simp [sg]
  | k + 1 => by
    rw [show m + (k + 1) = (m + k) + 1 by omega]
    show sg f s a (m + k) ++ [en f s (a + (m + k))] = sg f s a m ++ (sg f s (a + m) k ++ [en f s (a + m + k)])
    rw [sg_app a m k, List.append_assoc, show a + (m + k) = a + m + k by omega]
theorem sg_cons : sg f s a (m + 1) = en f s a :: sg f s (a + 1) m := by
  rw [show m + 1 = 1 + m by omega, sg_app a 1 m]
  rfl
theorem sg_snoc : sg f s a (m + 1) = sg f s a m ++ [en f s (a + m)] := rfl
theorem sg_len : ∀ m, (sg f s a m).length = m
  | 0 => rfl
  | m + 1 => by rw [sg_snoc]; simp [sg_len m]
theorem ks_len : (ksp f s k).length = 3 := spl_len 3 _
theorem sg_szs : ∀ m, szs (sg f s a m) = 5 * m
  | 0 => rfl
  | m + 1 => by
    rw [sg_snoc, szs_app, sg_szs m, szs_cons, szs_nil]
    show 5 * m + ((ksp f s (a + m)).length + 2 + 0) = _
    rw [ks_len]
    omega
theorem ks_LOk : LOk (ksp f s k) := spl_LOk (by omega) _
theorem en_ok (h : k ≤ 255) : EOk (en f s k) := ⟨by show 1 ≤ (ksp f s k).length; rw [ks_len]; omega, ks_LOk.1, ks_LOk.2, by show (0 : Int) ≤ (k : Int) ∧ (k : Int) ≤ 255; omega⟩
theorem sg_ok : ∀ m, a + m ≤ 256 → EsOk (sg f s a m)
  | 0, _ => by intro e he; cases he
  | m + 1, h => by
    rw [sg_snoc]
    exact EsOk_app.mpr ⟨sg_ok m (by omega), EsOk_cons.mpr ⟨en_ok (by omega), by intro e he; cases he⟩⟩
theorem spl3_lt {x y : Int} (h0 : 0 ≤ x) (h1 : x < y) (h2 : y < 17576) : cmp (spl 3 x) (spl 3 y) < 0 := by
  have e1 : ∀ z : Int, spl 3 z = [97 + z / 26 / 26 % 26, 97 + z / 26 % 26, 97 + z % 26] := fun z => rfl
  rw [e1, e1]
  unfold cmp
  by_cases c1 : 97 + x / 26 / 26 % 26 = 97 + y / 26 / 26 % 26
  · rw [if_pos c1]
    unfold cmp
    by_cases c2 : 97 + x / 26 % 26 = 97 + y / 26 % 26
    · rw [if_pos c2]
      unfold cmp
      rw [if_neg (by omega), if_pos (by omega)]
      decide
    · rw [if_neg c2, if_pos (by omega)]
      decide
  · rw [if_neg c1, if_pos (by omega)]
    decide
/-- what a LOAD may be -/
def LdOk (f s : Int) (n : Nat) : Prop := 0 ≤ f ∧ 1 ≤ s ∧ s ≤ 99 ∧ 1 ≤ n ∧ n ≤ 60 ∧ f + s * ((n : Int) - 1) ≤ 17575
theorem ks_rng (h : LdOk f s n) (hk : k < n) : 0 ≤ f + s * (k : Int) ∧ f + s * (k : Int) ≤ 17575 := by
  obtain ⟨h1, h2, h3, h4, h5, h6⟩ := h
  have q1 : s * (k : Int) ≤ s * ((n : Int) - 1) := Int.mul_le_mul_of_nonneg_left (by omega) (by omega)
  have q2 : 0 ≤ s * (k : Int) := Int.mul_nonneg (by omega) (by omega)
  omega
theorem ks_lt (h : LdOk f s n) (hab : a < b) (hb : b < n) : cmp (ksp f s a) (ksp f s b) < 0 := by
  have ra := ks_rng h (k := a) (by omega)
  have rb := ks_rng h hb
  obtain ⟨h1, h2, _⟩ := h
  have q : s * (a : Int) < s * (b : Int) := Int.mul_lt_mul_of_pos_left (by omega) (by omega)
  exact spl3_lt ra.1 (by omega) (by omega)
/-- clearing all pages: the class -/
theorem lp_clr {K : Int → Mem → Option (Mem × Int)} {u1 u2 u3 : Int} : ∀ (m n : Nat) (z : Int) (M : Mem), m ≤ 32 → z = ((32 - m : Nat) : Int) → m < n → (∀ i, i < 32 - m → ∀ j, j < 64 → M (61 + i) j = 0) → ∃ M', f_X0_loadRow_3 u1 u2 u3 K n z M = K 32 M' ∧ (∀ i, i < 32 → ∀ j, j < 64 → M' (61 + i) j = 0) ∧ (∀ x y, x < 61 → M' x y = M x y)
  | _, 0 => by intros; omega
  | 0, n + 1 => by
    intro z M _ hz _ h
    refine ⟨M, ?_, h, fun _ _ _ => rfl⟩
    unfold f_X0_loadRow_3
    rw [fLt (by omega), hz]
    rfl
  | m + 1, n + 1 => by
    intro z M hm hz hn h
    obtain ⟨M', i1, i2, i3⟩ := lp_clr (K := K) (u1 := u1) (u2 := u2) (u3 := u3) m n (z + 1) (stP M (32 - (m + 1)) (enc 0 0 [])) (by omega) (by omega) (by omega) (by
      intro i hi j hj
      by_cases hi2 : i = 32 - (m + 1)
      · rw [hi2, stP_in (by rw [pl_32 (by omega)]; exact hj), enc_00]
      · rw [stP_k (by omega)]; exact h i (by omega) j hj)
    refine ⟨M', ?_, i2, fun x y hx => by rw [i3 x y hx, stP_k (by omega)]⟩
    unfold f_X0_loadRow_3
    rw [tLt (by omega), sp_pageOf hz (by omega), bd_some, sp_release, bd_some]
    exact i1
theorem TC_zero (h : ∀ i, i < 32 → ∀ j, j < 64 → C (61 + i) j = 0) : TC C (fun _ => (0, 0, [])) := fun i hi j hj => by rw [h i hi j hj]; exact (enc_00 j).symm
theorem lm_clr {K : Int → Mem → Option (Mem × Int)} {u1 u2 u3 : Int} : ∀ (m n : Nat) (z : Int) (M : Mem), m ≤ 32 → z = ((32 - m : Nat) : Int) → m < n → (∀ i, i < 32 - m → ∀ j, j < 64 → M 96 (64 * i + j) = 0) → ∃ M', f_X8_loads_3 u1 u2 u3 K n z M = K 32 M' ∧ (∀ i, i < 32 → ∀ j, j < 64 → M' 96 (64 * i + j) = 0) ∧ (∀ x y, x ≠ 96 → M' x y = M x y)
  | _, 0 => by intros; omega
  | 0, n + 1 => by
    intro z M _ hz _ h
    refine ⟨M, ?_, h, fun _ _ _ => rfl⟩
    unfold f_X8_loads_3
    rw [fLt (by omega), hz]
    rfl
  | m + 1, n + 1 => by
    intro z M hm hz hn h
    obtain ⟨M', i1, i2, i3⟩ := lm_clr (K := K) (u1 := u1) (u2 := u2) (u3 := u3) m n (z + 1) (stX M (32 - (m + 1)) (enc 0 0 [])) (by omega) (by omega) (by omega) (by
      intro i hi j hj
      by_cases hi2 : i = 32 - (m + 1)
      · rw [hi2, stX_in hj, enc_00]
      · rw [stX_o (by omega)]; exact h i (by omega) j hj)
    refine ⟨M', ?_, i2, fun x y hx => by rw [i3 x y hx, stX_k hx]⟩
    unfold f_X8_loads_3
    rw [tLt (by omega), mx_clear (by omega) hz, bd_some]
    exact i1
theorem TX_zero (h : ∀ i, i < 32 → ∀ j, j < 64 → X 96 (64 * i + j) = 0) : TX X (fun _ => (0, 0, [])) := fun i hi j hj => by rw [h i hi j hj]; exact (enc_00 j).symm
theorem PF_ok (hN : N ≤ 4) (hc : c ≤ 12) : TOk (PF f s N c) := by
  intro p hp
  unfold PF
  by_cases h1 : p < N
  · rw [if_pos h1]
    exact ⟨sg_ok _ (by omega), by show szs (sg f s (12 * p) 12) ≤ 61; rw [sg_szs]; omega, by show (0 : Int) ≤ 1 ∧ (1 : Int) ≤ 2; omega, by show (0 : Int) ≤ (p : Int) + 2 ∧ (p : Int) + 2 ≤ 255; omega⟩
  · rw [if_neg h1]
    by_cases h2 : p = N
    · rw [if_pos h2]
      exact ⟨sg_ok _ (by omega), by show szs (sg f s (12 * N) c) ≤ 61; rw [sg_szs]; omega, by show (0 : Int) ≤ 1 ∧ (1 : Int) ≤ 2; omega, by show (0 : Int) ≤ 0 ∧ (0 : Int) ≤ 255; omega⟩
    · rw [if_neg h2]
      exact ⟨(by intro e he; cases he), by show szs [] ≤ 61; rw [szs_nil]; omega, by show (0 : Int) ≤ 0 ∧ (0 : Int) ≤ 2; omega, by show (0 : Int) ≤ 0 ∧ (0 : Int) ≤ 255; omega⟩
theorem PF_N : PF f s N c N = (1, 0, sg f s (12 * N) c) := by unfold PF; rw [if_neg (by omega), if_pos rfl]
theorem PF_in : uP (PF f s N c) N (1, 0, sg f s (12 * N) (c + 1)) = PF f s N (c + 1) := by
  funext p
  by_cases h : p = N
  · subst h; rw [uP_s, PF_N]
  · rw [uP_o h]
    unfold PF
    by_cases h1 : p < N
    · rw [if_pos h1, if_pos h1]
    · rw [if_neg h1, if_neg h1, if_neg h, if_neg h]
theorem PF_next : uP (uP (PF f s N 12) N (1, (N : Int) + 2, sg f s (12 * N) 12)) (N + 1) (1, 0, sg f s (12 * (N + 1)) 1) = PF f s (N + 1) 1 := by
  funext p
  by_cases h : p = N + 1
  · subst h; rw [uP_s, PF_N]
  · rw [uP_o h]
    by_cases h2 : p = N
    · subst h2
      rw [uP_s]
      unfold PF
      rw [if_pos (by omega)]
    · rw [uP_o h2]
      unfold PF
      by_cases h1 : p < N
      · rw [if_pos h1, if_pos (by omega)]
      · rw [if_neg h1, if_neg h2, if_neg (by omega), if_neg h]
/-- leaves are filled: the class -/
theorem lp_fillL {K : Int → Int → Mem → Option (Mem × Int)} (h : LdOk f s n) : ∀ (m k N c : Nat) (v4 v5 : Int) (M : Mem), 12 * N + c + m = n → c ≤ 12 → v4 = (N : Int) → v5 = ((12 * N + c : Nat) : Int) → m < k → (1 ≤ N → 1 ≤ c) → TC M (PF f s N c) → ∃ (M' : Mem) (N' c' : Nat), f_X0_fillLeaves_19 f s (n : Int) K k v4 v5 M = K (N' : Int) (n : Int) M' ∧ 12 * N' + c' = n ∧ c' ≤ 12 ∧ (1 ≤ m → 1 ≤ c') ∧ (1 ≤ N' → 1 ≤ c') ∧ TC M' (PF f s N' c') ∧ (∀ x y, (x < 10 ∨ 20 ≤ x) → x < 61 → M' x y = M x y)
  | _, 0 => by intros; omega
  | 0, k + 1 => by
    intro N c v4 v5 M h1 h2 h3 h4 _ h6 h5
    have h60 := h.2.2.2.2.1
    refine ⟨M, N, c, ?_, by omega, h2, by omega, h6, h5, fun _ _ _ _ => rfl⟩
    unfold f_X0_fillLeaves_19
    rw [fLt (by omega), h3, show v5 = (n : Int) by omega]
  | m + 1, k + 1 => by
    intro N c v4 v5 M h1 h2 h3 h4 hk h6 hT
    have h60 := h.2.2.2.2.1
    have hN4 : N ≤ 4 := by omega
    have hr := ks_rng h (k := 12 * N + c) (by omega)
    have hsp := sp_spell (C := M) (k := 1) (n := 3) (q := f + s * v5) (z := 3) rfl (by omega) (by rw [h4]; exact hr.1) (by rw [h4]; have := hr.2; omega)
    have hks : spl 3 (f + s * v5) = ksp f s (12 * N + c) := by unfold ksp; rw [h4]
    rw [hks] at hsp
    have hfk : Fk M (stK M 1 (ksp f s (12 * N + c))) := Fk_stK (by omega)
    have hT1 := Fk_TC hT hfk
    have hkk : KyC (stK M 1 (ksp f s (12 * N + c))) 1 (ksp f s (12 * N + c)) := stK_KC ks_LOk
    have hok := PF_ok (f := f) (s := s) hN4 h2
    have hpN := TC_pg hok hT1 (show N < 32 by omega)
    rw [PF_N] at hpN
    have hpN : PgC (stK M 1 (ksp f s (12 * N + c))) N 1 0 (sg f s (12 * N) c) := hpN
    have hkl : stK M 1 (ksp f s (12 * N + c)) (10 + 2 * 1) 1 = 3 := by rw [stK_l, ks_len]; rfl
    unfold f_X0_fillLeaves_19
    rw [tLt (by omega), hsp, bd_some, sp_pageOf h3 (by omega), bd_some, sp_used hpN (by omega), bd_some, sg_szs, jn_eq, hkl]
    by_cases hc : c < 12
    · rw [fLt (by omega)]
      dsimp only
      have hpN' : PgC (stK M 1 (ksp f s (12 * N + c))) N 1 0 (sg f s (12 * N) c ++ []) := by rw [List.append_nil]; exact hpN
      have hp32 : pl N = 64 := pl_32 (by omega)
      have hins := sp_insert (t := v5) hpN' hkk (by omega) (z := ((sg f s (12 * N) c).length : Int)) rfl (by
        rw [hp32, szs_app, sg_szs, szs_cons, szs_nil]
        show 3 + (5 * c + ((ksp f s (12 * N + c)).length + 2 + 0)) ≤ 64
        rw [ks_len]; omega)
      have hsn : sg f s (12 * N) c ++ [(ksp f s (12 * N + c), v5)] = sg f s (12 * N) (c + 1) := by rw [sg_snoc, h4]; rfl
      rw [hsn] at hins
      have hT2 : TC (stP (stK M 1 (ksp f s (12 * N + c))) N (enc 1 0 (sg f s (12 * N) (c + 1)))) (PF f s N (c + 1)) := by
        rw [← PF_in]
        exact TC_st hT1 (by omega) ⟨rfl, rfl, rfl⟩
      obtain ⟨M', N', c', i1, i2, i3, i4, i5, i6, i7⟩ := lp_fillL (K := K) h m k N (c + 1) v4 (v5 + 1) _ (by omega) (by omega) h3 (by omega) (by omega) (by omega) hT2
      refine ⟨M', N', c', ?_, i2, i3, fun _ => ?_, i5, i6, ?_⟩
      · rw [sp_pageOf h3 (by omega), bd_some, sp_entries hpN, bd_some, hins, bd_some]
        exact i1
      · by_cases hN' : 1 ≤ N'
        · exact i5 hN'
        · omega
      · intro x y hx hy
        rw [i7 x y hx hy, stP_k (by omega), hfk x y hx]
    · have hc12 : c = 12 := by omega
      subst hc12
      rw [tLt (by omega), sp_pageOf h3 (by omega), bd_some, sp_setLink, bd_some, sp_pageOf (i := N + 1) (by omega) (by omega), bd_some, sp_begin, bd_some]
      dsimp only
      have hkk2 : KyC (stP (up (stK M 1 (ksp f s (12 * N + 12))) (61 + N) 2 (v4 + 2)) (N + 1) (enc 1 0 [])) 1 (ksp f s (12 * N + 12)) := KC_st ⟨by rw [up_k (by omega)]; exact hkk.1, fun j hj => by rw [up_k (by omega)]; exact hkk.2.1 j hj, hkk.2.2⟩ (by omega)
      have hp32 : pl (N + 1) = 64 := pl_32 (by omega)
      have hpn : PgC (stP (up (stK M 1 (ksp f s (12 * N + 12))) (61 + N) 2 (v4 + 2)) (N + 1) (enc 1 0 [])) (N + 1) 1 0 ([] ++ []) := PgC_st (by intro e he; cases he) (by simp [szs]; omega) (by omega) (by omega)
      have hins := sp_insert (t := v5) hpn hkk2 (by omega) (z := 0) (by rfl) (by
        rw [hp32, List.nil_append, szs_cons, szs_nil]
        show 3 + ((ksp f s (12 * N + 12)).length + 2 + 0) ≤ 64
        rw [ks_len]; omega)
      have hsn : [] ++ [(ksp f s (12 * N + 12), v5)] = sg f s (12 * (N + 1)) 1 := by rw [h4]; show _ = [en f s (12 * (N + 1) + 0)]; rw [show 12 * (N + 1) + 0 = 12 * N + 12 by omega]; rfl
      rw [hsn, stP_stP] at hins
      have hT2 : TC (stP (up (stK M 1 (ksp f s (12 * N + 12))) (61 + N) 2 (v4 + 2)) (N + 1) (enc 1 0 (sg f s (12 * (N + 1)) 1))) (PF f s (N + 1) 1) := by
        rw [← PF_next]
        refine TC_st (P := uP (PF f s N 12) N (1, (N : Int) + 2, sg f s (12 * N) 12)) ?_ (by omega) ⟨rfl, rfl, rfl⟩
        intro i hi j hj
        by_cases hiN : i = N
        · subst hiN
          rw [uP_s]
          by_cases hj2 : j = 2
          · subst hj2; rw [up_same, h3]; rfl
          · rw [up_j hj2, hpN.1 j (by rw [pl_32 hi]; exact hj)]
            show enc 1 0 _ j = enc 1 ((i : Int) + 2) _ j
            unfold enc
            by_cases j0 : j = 0
            · rw [if_pos j0, if_pos j0]
            · rw [if_neg j0, if_neg j0]
              by_cases j1 : j = 1
              · rw [if_pos j1, if_pos j1]
              · rw [if_neg j1, if_neg j1, if_neg hj2, if_neg hj2]
        · rw [uP_o hiN, up_k (by omega)]
          exact hT1 i hi j hj
      obtain ⟨M', N', c', i1, i2, i3, i4, i5, i6, i7⟩ := lp_fillL (K := K) h m k (N + 1) 1 (v4 + 1) (v5 + 1) _ (by omega) (by omega) (by omega) (by omega) (by omega) (by omega) hT2
      refine ⟨M', N', c', ?_, i2, i3, fun _ => ?_, i5, i6, ?_⟩
      · rw [sp_pageOf (i := N + 1) (by omega) (by omega), bd_some, sp_entries hpn, bd_some]
        show bd (f_X4_insert (N + 1) 0 1 v5 _) _ = _
        rw [hins, bd_some]
        exact i1
      · by_cases hN' : 1 ≤ N'
        · exact i5 hN'
        · omega
      · intro x y hx hy
        rw [i7 x y hx hy, stP_k (by omega), up_k (by omega), hfk x y hx]
end LO
end
section
/-! LOAD: the model; sharing the last two. -/
/-- row and key -/
def Frk (X X' : Mem) : Prop := ∀ a b, a ≠ 97 → a ≠ 98 → a ≠ 99 → a ≠ 101 → ¬ (a = 95 ∧ (b = 6 ∨ b = 12)) → X' a b = X a b
/-- leaves between bounds -/
def PB (f s : Int) (N : Nat) (B : Nat → Nat) : Nat → Pg := fun p => if p ≤ N then (1, if p < N then (p : Int) + 2 else 0, sg f s (B p) (B (p + 1) - B p)) else (0, 0, [])
def BOk (N n : Nat) (B : Nat → Nat) : Prop := B 0 = 0 ∧ (∀ p, p ≤ N → B p < B (p + 1) ∧ B (p + 1) ≤ B p + 12) ∧ B (N + 1) = n
section L2
variable {C C' X X' : Mem} {P P' : Nat → Pg} {f s : Int} {a b m n N c k p : Nat} {B : Nat → Nat} {es x y : List Ent} {u v : Ent}
theorem Frk_refl : Frk X X := fun _ _ _ _ _ _ _ => rfl
theorem Frk_tr {X2 : Mem} (h1 : Frk X X') (h2 : Frk X' X2) : Frk X X2 := fun a b q1 q2 q3 q4 q5 => by rw [h2 a b q1 q2 q3 q4 q5, h1 a b q1 q2 q3 q4 q5]
theorem Fro_Frk (h : Fro X X') : Frk X X' := fun a b q1 q2 q3 q4 q5 => h a b q1 q2 q3 (by omega)
theorem lm_fill53 {K : Int → Mem → Option (Mem × Int)} {u4 u5 : Int} (h : LdOk f s n) (hu5 : u5 = (p : Int)) (hp : 12 * p ≤ n) : ∀ (m k c : Nat) (v6 : Int) (Y : Mem), c + m = min 12 (n - 12 * p) → v6 = ((12 * p + c : Nat) : Int) → m < k → RowX Y (sg f s (12 * p) c) → ∃ Y' v', f_X8_loads_53 f s (n : Int) u4 u5 K k v6 Y = K v' Y' ∧ RowX Y' (sg f s (12 * p) (min 12 (n - 12 * p))) ∧ Frk Y Y'
  | _, 0 => by intros; omega
  | 0, k + 1 => by
    intro c v6 Y h1 h2 _ h3
    have h60 := h.2.2.2.2.1
    refine ⟨Y, v6, ?_, by rw [← h1]; exact h3, Frk_refl⟩
    unfold f_X8_loads_53
    by_cases hn : 12 * p + c < n
    · rw [tLt (by omega), fLt (by omega)]
    · rw [fLt (by omega)]
  | m + 1, k + 1 => by
    intro c v6 Y h1 h2 hk h3
    have h60 := h.2.2.2.2.1
    have hr := ks_rng h (k := 12 * p + c) (by omega)
    obtain ⟨Y1, s1, s2, s3⟩ := mx_spells (X := Y) (n := 3) (r := f + s * v6) (r2 := 3) rfl (by omega) (by rw [h2]; exact hr.1) (by rw [h2]; have := hr.2; omega)
    have hks : spl 3 (f + s * v6) = ksp f s (12 * p + c) := by unfold ksp; rw [h2]
    rw [hks] at s2
    have hR1 : RowX Y1 (sg f s (12 * p) c) := ⟨by rw [s3 _ _ (by omega) (by omega)]; exact h3.1, Rows_fr _ 0 h3.2.2 h3.2.1 (fun k _ _ => ⟨s3 _ _ (by omega) (by omega), s3 _ _ (by omega) (by omega), fun j _ => s3 _ _ (by omega) (by omega)⟩), h3.2.2⟩
    have hl := sg_len (f := f) (s := s) (a := 12 * p) c
    obtain ⟨Y2, m1, m2, m3⟩ := mx_in (a := sg f s (12 * p) c) (b := []) (c := 1) (w := ksp f s (12 * p + c)) (t := v6) (by rw [List.append_nil]; exact hR1) s2.2.1 ks_LOk (by rw [ks_len]; omega) (by omega) (by rw [List.append_nil, hl]; omega) (q := Y1 95 6) (n := 3) hR1.1 (by rw [ks_len]; rfl) (by omega)
    have hsn : sg f s (12 * p) c ++ [(ksp f s (12 * p + c), v6)] = sg f s (12 * p) (c + 1) := by rw [sg_snoc, h2]; rfl
    rw [hsn] at m2
    obtain ⟨Y', v', i1, i2, i3⟩ := lm_fill53 (K := K) (u4 := u4) h hu5 hp m k (c + 1) (v6 + 1) Y2 (by omega) (by omega) (by omega) m2
    refine ⟨Y', v', ?_, i2, Frk_tr (Frk_tr (fun a b q1 q2 q3 q4 q5 => s3 a b q4 (by omega)) (Fro_Frk m3)) i3⟩
    unfold f_X8_loads_53
    rw [tLt (by omega), tLt (by omega), s1, bd_some, m1, bd_some]
    exact i1
theorem lm_fill34 {K : Int → Mem → Option (Mem × Int)} (h : LdOk f s n) (hN : 12 * N + c = n) (hc : 1 ≤ c ∧ c ≤ 12) : ∀ (m k p : Nat) (v5 : Int) (Y : Mem), p + m = N + 1 → v5 = (p : Int) → m < k → TX Y (fun i => if i < p then PF f s N c i else (0, 0, [])) → ∃ Y' v', f_X8_loads_34 f s (n : Int) ((N : Int) + 1) K k v5 Y = K v' Y' ∧ TX Y' (PF f s N c) ∧ (∀ a b, a ≠ 96 → a ≠ 97 → a ≠ 98 → a ≠ 99 → a ≠ 101 → ¬ (a = 95 ∧ (b = 6 ∨ b = 12)) → Y' a b = Y a b)
  | _, 0 => by intros; omega
  | 0, k + 1 => by
    intro p v5 Y h1 h2 _ hT
    have h60 := h.2.2.2.2.1
    refine ⟨Y, v5, ?_, ?_, fun _ _ _ _ _ _ _ _ => rfl⟩
    · unfold f_X8_loads_34
      rw [fLt (by omega)]
    · intro i hi j hj
      rw [hT i hi j hj]
      dsimp only
      by_cases hip : i < p
      · rw [if_pos hip]
      · rw [if_neg hip]
        unfold PF
        rw [if_neg (by omega), if_neg (by omega)]
  | m + 1, k + 1 => by
    intro p v5 Y h1 h2 hk hT
    have hfu := FU_eq
    have h60 := h.2.2.2.2.1
    obtain ⟨Y1, v', i1, i2, i3⟩ := lm_fill53 (K := (fun (v6_e53 : Int) (C_e53 : Mem) => (jn ((fun (s3_125 : Int) => (bd (f_X8_goBack (v5) (1) (s3_125) (0) (C_e53 95 6) C_e53) (fun C130 _ => (f_X8_loads_34 f s (n : Int) ((N : Int) + 1) K k (v5 + 1) C130)))) : Int → Option (Mem × Int)) (fun j125 => (cLt (v5) (((N : Int) + 1) - 1) (j125 (v5 + 2)) (j125 (0))))))) (u4 := (N : Int) + 1) (u5 := v5) (p := p) h h2 (by omega) (min 12 (n - 12 * p)) FU 0 (12 * v5) (up Y 95 6 0) (by omega) (by omega) (by omega) RowX_nil
    have hl := sg_len (f := f) (s := s) (a := 12 * p) (min 12 (n - 12 * p))
    have hPFp : PF f s N c p = (1, if p < N then (p : Int) + 2 else 0, sg f s (12 * p) (min 12 (n - 12 * p))) := by
      unfold PF
      by_cases hpN : p < N
      · rw [if_pos hpN, if_pos hpN, show min 12 (n - 12 * p) = 12 by omega]
      · have : p = N := by omega
        subst this
        rw [if_neg (by omega), if_pos rfl, if_neg (by omega), show min 12 (n - 12 * p) = c by omega]
    have mk : ∀ l : Int, f_X8_goBack v5 1 l 0 (Y1 95 6) Y1 = some (stX Y1 p (enc 1 l (sg f s (12 * p) (min 12 (n - 12 * p)))), 0) := fun l => mx_back (x := []) (z := []) (by omega) h2 (by rw [List.append_nil]; exact i2.2.1) i2.2.2 (by simp [hl]; omega) (by rw [sg_szs]; omega) (by rfl) (by rw [i2.1]; simp)
    have hT1 : ∀ l : Int, l = (if p < N then (p : Int) + 2 else 0) → TX (stX Y1 p (enc 1 l (sg f s (12 * p) (min 12 (n - 12 * p))))) (fun i => if i < p + 1 then PF f s N c i else (0, 0, [])) := by
      intro l hl2 i hi j hj
      by_cases hip : i = p
      · subst hip
        rw [stX_in hj]
        dsimp only
        rw [if_pos (by omega), hPFp, hl2]
        rfl
      · rw [stX_o (by omega), i3 _ _ (by omega) (by omega) (by omega) (by omega) (by omega), up_k (by omega), hT i hi j hj]
        dsimp only
        by_cases h3 : i < p
        · rw [if_pos h3, if_pos (by omega)]
        · rw [if_neg h3, if_neg (by omega)]
    unfold f_X8_loads_34
    rw [tLt (by omega), i1, jn_eq]
    by_cases hpN : p < N
    · rw [tLt (by omega)]
      dsimp only
      obtain ⟨Y', v'', g1, g2, g3⟩ := lm_fill34 (K := K) h hN hc m k (p + 1) (v5 + 1) _ (by omega) (by omega) (by omega) (hT1 (v5 + 2) (by rw [if_pos hpN]; omega))
      refine ⟨Y', v'', ?_, g2, ?_⟩
      · rw [mk, bd_some]; exact g1
      · intro a b q1 q2 q3 q4 q5 q6
        rw [g3 a b q1 q2 q3 q4 q5 q6, stX_k q1, i3 a b q2 q3 q4 q5 q6, up_ap, if_neg (by omega)]
    · rw [fLt (by omega)]
      dsimp only
      obtain ⟨Y', v'', g1, g2, g3⟩ := lm_fill34 (K := K) h hN hc m k (p + 1) (v5 + 1) _ (by omega) (by omega) (by omega) (hT1 0 (by rw [if_neg hpN]))
      refine ⟨Y', v'', ?_, g2, ?_⟩
      · rw [mk, bd_some]; exact g1
      · intro a b q1 q2 q3 q4 q5 q6
        rw [g3 a b q1 q2 q3 q4 q5 q6, stX_k q1, i3 a b q2 q3 q4 q5 q6, up_ap, if_neg (by omega)]
theorem PB_c {b1 b2 k : Nat} (h1 : p ≤ N) (hb1 : B p = b1) (hb2 : B (p + 1) = b2) (hk : b2 - b1 = k) : PB f s N B p = (1, if p < N then (p : Int) + 2 else 0, sg f s b1 k) := by
  unfold PB
  rw [if_pos h1, hb1, hb2, hk]
theorem PB_o (h : N < p) : PB f s N B p = (0, 0, []) := by
  unfold PB
  rw [if_neg (by omega)]
theorem PF_PB (hN : 12 * N + c = n) : PF f s N c = PB f s N (fun p => if p ≤ N then 12 * p else n) := by
  funext p
  by_cases h1 : p < N
  · rw [PB_c (b1 := 12 * p) (b2 := 12 * (p + 1)) (k := 12) (by omega) (by rw [if_pos (by omega)]) (by rw [if_pos (by omega)]) (by omega), if_pos h1]
    unfold PF
    rw [if_pos h1]
  · by_cases h2 : p = N
    · subst h2
      rw [PB_c (b1 := 12 * p) (b2 := n) (k := c) (by omega) (by rw [if_pos (by omega)]) (by rw [if_neg (by omega)]) (by omega), if_neg h1, PF_N]
    · rw [PB_o (by omega)]
      unfold PF
      rw [if_neg h1, if_neg h2]
theorem B0_ok (hN : 12 * N + c = n) (hc : 1 ≤ c ∧ c ≤ 12) : BOk N n (fun p => if p ≤ N then 12 * p else n) := by
  refine ⟨by simp, ?_, if_neg (by omega)⟩
  intro p hp
  dsimp only
  rw [if_pos hp]
  by_cases h : p + 1 ≤ N
  · rw [if_pos h]; omega
  · rw [if_neg h]; omega
theorem PB_ok (hB : BOk N n B) (hn : n ≤ 60) (hN : N ≤ 4) : TOk (PB f s N B) := by
  have hle : ∀ p, p ≤ N + 1 → B p ≤ n := by
    intro p hp
    have key : ∀ d, p + d = N + 1 → B p ≤ B (p + d) := by
      intro d
      induction d generalizing p with
      | zero => intro _; exact Nat.le_refl _
      | succ d ih =>
        intro h
        have h1 := ih (p + 1) (by omega) (by omega)
        have h2 := (hB.2.1 p (by omega)).1
        rw [show p + (d + 1) = p + 1 + d by omega]
        omega
    have := key (N + 1 - p) (by omega)
    rw [show p + (N + 1 - p) = N + 1 by omega, hB.2.2] at this
    exact this
  intro p hp
  unfold PB
  by_cases h1 : p ≤ N
  · rw [if_pos h1]
    have h2 := hB.2.1 p h1
    have h3 := hle (p + 1) (by omega)
    refine ⟨sg_ok _ (by omega), by show szs (sg f s (B p) (B (p + 1) - B p)) ≤ 61; rw [sg_szs]; omega, by show (0 : Int) ≤ 1 ∧ (1 : Int) ≤ 2; omega, ?_⟩
    show (0 : Int) ≤ (if p < N then (p : Int) + 2 else 0) ∧ (if p < N then (p : Int) + 2 else 0) ≤ 255
    split <;> omega
  · rw [if_neg h1]
    exact ⟨(by intro e he; cases he), by show szs [] ≤ 61; rw [szs_nil]; omega, by show (0 : Int) ≤ 0 ∧ (0 : Int) ≤ 2; omega, by show (0 : Int) ≤ 0 ∧ (0 : Int) ≤ 255; omega⟩
/-- the last two leaves share -/
theorem ld_share (h : LdOk f s n) (hN : 12 * N + c = n) (hc : 1 ≤ c ∧ c ≤ 12) (hN1 : 1 ≤ N) (hTC : TC C (PF f s N c)) (hTX : TX X (PF f s N c)) {K : Mem → Option (Mem × Int)} : ∃ C' X' B, BOk N n B ∧ f_X0_shareWithLast (N : Int) C = some (C', 0) ∧ TC C' (PB f s N B) ∧ (∀ x y, (x < 10 ∨ 20 ≤ x) → x < 61 → C' x y = C x y) ∧ (bd (f_X8_usedOf (((N : Int) + 1) - 1) X) (fun C150 r150 => (cLt (r150) (32) (bd (f_X8_comeOut (((N : Int) + 1) - 2) (up C150 95 6 (0))) (fun C168 _ => (bd (f_X8_comeOut (((N : Int) + 1) - 1) C168) (fun C176 _ => (bd (f_X8_share (((N : Int) + 1) - 2) (((N : Int) + 1) - 1) (1) (0) (0) C176) (fun C191 _ => (K C191))))))) (K C150)))) = K X' ∧ TX X' (PB f s N B) ∧ Fx X X' ∧ X' 95 3 = X 95 3 ∧ X' 95 4 = X 95 4 ∧ X' 95 5 = X 95 5 := by
  have h60 := h.2.2.2.2.1
  have hok := PF_ok (f := f) (s := s) (N := N) (c := c) (by omega) hc.2
  have pN := TC_pg hok hTC (show N < 32 by omega)
  rw [PF_N] at pN
  have pN : PgC C N 1 0 (sg f s (12 * N) c) := pN
  have xN := TX_pg hok hTX (show N < 32 by omega)
  rw [PF_N] at xN
  have xN : PgX X N 1 0 (sg f s (12 * N) c) := xN
  have eM : PF f s N c (N - 1) = (1, (N : Int) + 1, sg f s (12 * (N - 1)) 12) := by
    unfold PF
    rw [if_pos (by omega), show ((N - 1 : Nat) : Int) + 2 = (N : Int) + 1 by omega]
  have pM := TC_pg hok hTC (show N - 1 < 32 by omega)
  rw [eM] at pM
  have pM : PgC C (N - 1) 1 ((N : Int) + 1) (sg f s (12 * (N - 1)) 12) := pM
  have xM := TX_pg hok hTX (show N - 1 < 32 by omega)
  rw [eM] at xM
  have xM : PgX X (N - 1) 1 ((N : Int) + 1) (sg f s (12 * (N - 1)) 12) := xM
  by_cases hsm : c ≤ 5
  · -- shared
    have hes : sg f s (12 * (N - 1)) 12 ++ sg f s (12 * N) c = sg f s (12 * (N - 1)) (12 + c) := by
      rw [sg_app, show 12 * (N - 1) + 12 = 12 * N by omega]
    have hok2 : EsOk (sg f s (12 * (N - 1)) (12 + c)) := sg_ok _ (by omega)
    have hsz2 : szs (sg f s (12 * (N - 1)) (12 + c)) = 5 * (12 + c) := sg_szs _
    obtain ⟨x', u, v, y, e1, e2, e3, e4, e5⟩ := hf_split hok2 (by omega)
    have e6 : szs (sg f s (12 * (N - 1)) (12 + c)) = szs (x' ++ [u]) + szs (v :: y) := by rw [e1, szs_app]
    -- the parts are rows too
    have hlen : 12 + c = (x' ++ [u]).length + (v :: y).length := by
      have := congrArg List.length e1
      rw [sg_len, List.length_append] at this
      exact this
    have hsplit := e1
    rw [hlen, sg_app] at hsplit
    obtain ⟨hx, hy⟩ := List.append_inj hsplit (by rw [sg_len])
    have hh1 : 1 ≤ (x' ++ [u]).length := by simp
    have hh2 : 1 ≤ (v :: y).length := by simp
    have s1 : szs (x' ++ [u]) = 5 * (x' ++ [u]).length := by conv => lhs; rw [← hx, sg_szs]
    have s2 : szs (v :: y) = 5 * (v :: y).length := by conv => lhs; rw [← hy, sg_szs]
    have hc0 : cmp u.1 v.1 < 0 := by
      -- neighbours of a rising row
      have hu : (x' ++ [u]) = sg f s (12 * (N - 1)) x'.length ++ [en f s (12 * (N - 1) + x'.length)] := by
        rw [← hx, show (x' ++ [u]).length = x'.length + 1 by simp]; rfl
      have hu2 := (List.append_inj' hu rfl).2
      have hv : v :: y = en f s (12 * (N - 1) + (x' ++ [u]).length) :: sg f s (12 * (N - 1) + (x' ++ [u]).length + 1) y.length := by
        rw [← sg_cons, ← hy]; rfl
      have hu3 : u = en f s (12 * (N - 1) + x'.length) := by simpa using hu2
      have hv3 : v = en f s (12 * (N - 1) + (x' ++ [u]).length) := (List.cons.inj hv).1
      rw [hu3, hv3]
      show cmp (ksp f s _) (ksp f s _) < 0
      simp at hlen
      exact ks_lt h (by simp) (by simp; omega)
    -- the class
    have w1 : PgC (stP C 33 (enc 1 ((N : Int) + 1) (sg f s (12 * (N - 1)) 12))) 33 1 ((N : Int) + 1) (sg f s (12 * (N - 1)) 12) := PgC_st pM.2.1 (by rw [sg_szs, pl_33]; omega) (by omega) (by omega)
    have w2 : PgC (stP C 33 (enc 1 ((N : Int) + 1) (sg f s (12 * (N - 1)) 12))) N 1 0 ([] ++ sg f s (12 * N) c ++ []) := PgC_k (by omega) (by simpa using pN)
    have w2' : PgC (stP C 33 (enc 1 ((N : Int) + 1) (sg f s (12 * (N - 1)) 12))) N 1 0 (sg f s (12 * N) c) := PgC_k (by omega) pN
    have w3 : PgC (stP C 33 (enc 1 ((N : Int) + 1) (sg f s (12 * (N - 1)) (12 + c)))) 33 1 ((N : Int) + 1) (sg f s (12 * (N - 1)) (12 + c)) := PgC_st hok2 (by rw [hsz2, pl_33]; omega) (by omega) (by omega)
    have w4 : PgC (stP C 33 (enc 1 ((N : Int) + 1) (sg f s (12 * (N - 1)) (12 + c)))) 33 1 ((N : Int) + 1) ((x' ++ [u]) ++ v :: y) := by rw [e1] at w3; rw [e1]; exact w3
    have hd := sp_dealL (l1 := (N : Int) + 1) (l2 := 0) w4 (i := N - 1) (j := N) (by omega) (by omega) (by omega) (by rw [stP_k (by omega)]; exact pM.1 2 (by rw [pl_32 (by omega)]; omega)) (by rw [stP_k (by omega)]; exact pN.1 2 (by rw [pl_32 (by omega)]; omega)) (by omega) (by omega) (by omega) (by omega) (z := ((hf (sg f s (12 * (N - 1)) (12 + c)) : Nat) : Int)) (by rw [e2])
    -- the model
    obtain ⟨X1, o1, o2, o3⟩ := mx_out0 xM (p := ((N : Int) + 1) - 2) (by omega)
    obtain ⟨X2, q1, q2, q3⟩ := mx_out (Fro_PgX xN o3) (p := ((N : Int) + 1) - 1) (by omega) o2 (by rw [sg_len, sg_len]; omega)
    rw [hes] at q2
    obtain ⟨X3, t1, t2, t3, t4, t5, t6, t7⟩ := mx_shareL (f := 0) (r5 := 0) (r1 := ((N : Int) + 1) - 2) (r2 := ((N : Int) + 1) - 1) (Fro_TX hTX (Fro_tr o3 q3)) q2 e1 e2 hc0 (by rw [sg_len]; omega) (by omega) (i := N - 1) (j := N) (by omega) (by omega) (by omega) (by omega) (by omega) (by omega)
    have hF := Fro_tr o3 q3
    have hPB : uP (uP (PF f s N c) (N - 1) (1, (N : Int) + 1, x' ++ [u])) N (1, 0, v :: y) = PB f s N (fun p => if p < N then 12 * p else if p = N then 12 * (N - 1) + (x' ++ [u]).length else n) := by
      funext p
      by_cases k1 : p = N
      · subst k1
        rw [uP_s, PB_c (b1 := 12 * (p - 1) + (x' ++ [u]).length) (b2 := n) (k := (v :: y).length) (Nat.le_refl _) (by rw [if_neg (by omega), if_pos rfl]) (by rw [if_neg (by omega), if_neg (by omega)]) (by omega), if_neg (by omega), hy]
      · rw [uP_o k1]
        by_cases k2 : p = N - 1
        · rw [k2, uP_s, PB_c (b1 := 12 * (N - 1)) (b2 := 12 * (N - 1) + (x' ++ [u]).length) (k := (x' ++ [u]).length) (by omega) (by rw [if_pos (by omega)]) (by rw [if_neg (by omega), if_pos (by omega)]) (by omega), if_pos (by omega), hx, show ((N - 1 : Nat) : Int) + 2 = (N : Int) + 1 by omega]
        · rw [uP_o k2]
          by_cases k3 : p < N
          · rw [PB_c (b1 := 12 * p) (b2 := 12 * (p + 1)) (k := 12) (by omega) (by rw [if_pos k3]) (by rw [if_pos (by omega)]) (by omega), if_pos k3]
            unfold PF
            rw [if_pos k3]
          · rw [PB_o (by omega)]
            unfold PF
            rw [if_neg k3, if_neg k1]
    refine ⟨stP (stP (stP C 33 (enc 1 ((N : Int) + 1) (sg f s (12 * (N - 1)) (12 + c)))) (N - 1) (enc 1 ((N : Int) + 1) (x' ++ [u]))) N (enc 1 0 (v :: y)), X3, fun p => if p < N then 12 * p else if p = N then 12 * (N - 1) + (x' ++ [u]).length else n, ⟨?_, ?_, ?_⟩, ?_, ?_, ?_, ?_, ?_, ?_, ?_, ?_, ?_⟩
    · dsimp only
      rw [if_pos (by omega)]
    · intro p hp
      dsimp only
      by_cases k1 : p = N
      · subst k1
        rw [if_neg (by omega), if_pos rfl, if_neg (by omega), if_neg (by omega)]
        omega
      · rw [if_pos (by omega)]
        by_cases k2 : p + 1 = N
        · rw [if_neg (by omega), if_pos k2]
          omega
        · rw [if_pos (by omega)]
          omega
    · dsimp only
      rw [if_neg (by omega), if_neg (by omega)]
    · unfold f_X0_shareWithLast
      rw [sp_pageOf (i := N - 1) (by omega) (by omega), bd_some, sp_pageOf rfl (by omega), bd_some, sp_used pN (by omega), bd_some, sg_szs, tLt (by omega), sp_copy (by omega) pM, bd_some, sp_entries w2', bd_some, sp_append (x := []) (by omega) w1 w2 (by rfl) (by simp) (by rw [hes, hsz2, pl_33]; omega), bd_some, stP_stP, hes, sp_half w3, bd_some, hd, bd_some]
    · rw [← hPB]
      exact TC_st (TC_st (TC_w hTC (by omega)) (by omega) ⟨rfl, rfl, rfl⟩) (by omega) ⟨rfl, rfl, rfl⟩
    · intro a b ha hb
      rw [stP_k (by omega), stP_k (by omega), stP_k (by omega)]
    · rw [mx_used xN (by omega) (by omega), bd_some, sg_szs, tLt (by omega), o1, bd_some, q1, bd_some, t1, bd_some]
    · rw [← hPB]; exact t2
    · exact Fx_tr (Fro_Fx hF) t4
    · rw [t5, hF _ _ (by omega) (by omega) (by omega) (by omega)]
    · rw [t6, hF _ _ (by omega) (by omega) (by omega) (by omega)]
    · rw [t7, hF _ _ (by omega) (by omega) (by omega) (by omega)]
  · refine ⟨C, X, _, B0_ok hN hc, ?_, by rw [← PF_PB hN]; exact hTC, fun _ _ _ _ => rfl, ?_, by rw [← PF_PB hN]; exact hTX, Fx_refl, rfl, rfl, rfl⟩
    · unfold f_X0_shareWithLast
      rw [sp_pageOf (i := N - 1) (by omega) (by omega), bd_some, sp_pageOf rfl (by omega), bd_some, sp_used pN (by omega), bd_some, sg_szs, fLt (by omega)]
    · rw [mx_used xN (by omega) (by omega), bd_some, sg_szs, fLt (by omega)]
end L2
end
section
/-! LOAD: the root over the leaves; whole. -/
def sq (f s : Int) (B : Nat → Nat) : Nat → List Ent
  | 0 => []
  | m + 1 => sq f s B m ++ [(sep (ksp f s (B (m + 1) - 1)) (ksp f s (B (m + 1))), ((m + 1 : Nat) : Int))]
def PR (f s : Int) (N : Nat) (B : Nat → Nat) (m : Nat) : Nat → Pg := uP (PB f s N B) (N + 1) (2, 0, sq f s B m)
section L3
variable {C C' X X' : Mem} {P P' : Nat → Pg} {f s c1 c2 c3 : Int} {a b m n N c k p root L : Nat} {B : Nat → Nat} {es x y : List Ent} {u v : Ent}
theorem uP_uP {i : Nat} {q r : Pg} : uP (uP P i q) i r = uP P i r := by
  funext j
  by_cases h : j = i
  · subst h; rw [uP_s, uP_s]
  · rw [uP_o h, uP_o h, uP_o h]
theorem B_mono (hB : BOk N n B) : ∀ d p, p + d ≤ N + 1 → B p + d ≤ B (p + d)
  | 0, p => by intro _; exact Nat.le_refl _
  | d + 1, p => by
    intro h
    have h1 := B_mono hB d p (by omega)
    have h2 := (hB.2.1 (p + d) (by omega)).1
    rw [show p + (d + 1) = p + d + 1 by omega]
    omega
theorem B_le (hB : BOk N n B) (hp : p ≤ N + 1) : B p ≤ n ∧ p ≤ B p := by
  have h1 := B_mono hB (N + 1 - p) p (by omega)
  rw [show p + (N + 1 - p) = N + 1 by omega, hB.2.2] at h1
  have h2 := B_mono hB p 0 (by omega)
  rw [hB.1, Nat.zero_add] at h2
  omega
theorem B_cmp (h : LdOk f s n) (hB : BOk N n B) (hm : m < N) : cmp (ksp f s (B (m + 1) - 1)) (ksp f s (B (m + 1))) < 0 := by
  have h1 := B_le hB (p := m + 1) (by omega)
  have h2 := (hB.2.1 (m + 1) (by omega)).1
  have h3 := B_le hB (p := m + 1 + 1) (by omega)
  exact ks_lt h (by omega) (by omega)
theorem sq_len : ∀ m, (sq f s B m).length = m
  | 0 => rfl
  | m + 1 => by
    show (sq f s B m ++ [_]).length = _
    simp [sq_len m]
theorem sq_ok (h : LdOk f s n) (hB : BOk N n B) (hN : N ≤ 4) : ∀ m, m ≤ N → EsOk (sq f s B m) ∧ szs (sq f s B m) ≤ 10 * m
  | 0, _ => ⟨(by intro e he; cases he), by show szs [] ≤ _; rw [szs_nil]; omega⟩
  | m + 1, hm => by
    have ih := sq_ok h hB hN m (by omega)
    have hc := B_cmp h hB (m := m) (by omega)
    have hl := sep_LOk (u := ksp f s (B (m + 1) - 1)) (v := ksp f s (B (m + 1))) ks_LOk
    refine ⟨EsOk_app.mpr ⟨ih.1, EsOk_cons.mpr ⟨⟨sep_pos hc, hl.1, hl.2, by show (0 : Int) ≤ ((m + 1 : Nat) : Int) ∧ ((m + 1 : Nat) : Int) ≤ 255; omega⟩, by intro e he; cases he⟩⟩, ?_⟩
    show szs (sq f s B m ++ [(sep (ksp f s (B (m + 1) - 1)) (ksp f s (B (m + 1))), ((m + 1 : Nat) : Int))]) ≤ _
    rw [szs_app, szs_cons, szs_nil]
    have := hl.1
    show _ + ((sep (ksp f s (B (m + 1) - 1)) (ksp f s (B (m + 1)))).length + 2 + 0) ≤ _
    omega
theorem PR_ok (h : LdOk f s n) (hB : BOk N n B) (hN : N ≤ 4) (hm : m ≤ N) : TOk (PR f s N B m) := by
  have hs := sq_ok h hB hN m hm
  exact TOk_u (PB_ok hB h.2.2.2.2.1 hN) ⟨hs.1, by show szs (sq f s B m) ≤ 61; omega, by show (0 : Int) ≤ 2 ∧ (2 : Int) ≤ 2; omega, by show (0 : Int) ≤ 0 ∧ (0 : Int) ≤ 255; omega⟩
theorem PR_leaf (hp : p ≤ N) : PR f s N B m p = (1, if p < N then (p : Int) + 2 else 0, sg f s (B p) (B (p + 1) - B p)) := by
  unfold PR
  rw [uP_o (by omega)]
  unfold PB
  rw [if_pos hp]
theorem PR_root : PR f s N B m (N + 1) = (2, 0, sq f s B m) := by unfold PR; rw [uP_s]
theorem PR_next : uP (PR f s N B m) (N + 1) (2, 0, sq f s B (m + 1)) = PR f s N B (m + 1) := by unfold PR; rw [uP_uP]
theorem sg_last (h : a < b) : sg f s a (b - a) = sg f s a (b - a - 1) ++ [en f s (b - 1)] := by
  rw [show b - a = (b - a - 1) + 1 by omega, sg_snoc, show a + (b - a - 1) = b - 1 by omega]
  rfl
theorem sg_first (h : a < b) : sg f s a (b - a) = en f s a :: sg f s (a + 1) (b - a - 1) := by
  rw [show b - a = (b - a - 1) + 1 by omega, sg_cons]
  rfl
/-- separators come into the root: the class -/
theorem lp_cov {K : Int → Mem → Option (Mem × Int)} (h : LdOk f s n) (hB : BOk N n B) (hN : N ≤ 4) : ∀ (d k m : Nat) (v3 : Int) (M : Mem), m + d = N → v3 = (m : Int) + 1 → d < k → TC M (PR f s N B m) → ∃ M', f_X0_coverLeaves_45 (N : Int) (N + 1) K k v3 M = K ((N : Int) + 1) M' ∧ TC M' (PR f s N B N) ∧ (∀ x y, (x < 10 ∨ 20 ≤ x) → x < 61 → M' x y = M x y)
  | _, 0 => by intros; omega
  | 0, k + 1 => by
    intro m v3 M h1 h2 _ hT
    have : m = N := by omega
    subst this
    refine ⟨M, ?_, hT, fun _ _ _ _ => rfl⟩
    unfold f_X0_coverLeaves_45
    rw [tLt (by omega), h2]
  | d + 1, k + 1 => by
    intro m v3 M h1 h2 hk hT
    have hok := PR_ok h hB hN (m := m) (by omega)
    have b1 := (hB.2.1 m (by omega)).1
    have b2 := (hB.2.1 (m + 1) (by omega)).1
    have p0 := TC_pg hok hT (show m < 32 by omega)
    rw [PR_leaf (by omega)] at p0
    have p0 : PgC M m 1 (if m < N then (m : Int) + 2 else 0) (sg f s (B m) (B (m + 1) - B m)) := p0
    have p0e := sp_entries p0
    rw [sg_len] at p0e
    have p0' := p0
    rw [sg_last b1] at p0'
    have p1 := TC_pg hok hT (show m + 1 < 32 by omega)
    rw [PR_leaf (by omega)] at p1
    have p1 : PgC M (m + 1) 1 (if m + 1 < N then ((m + 1 : Nat) : Int) + 2 else 0) (sg f s (B (m + 1)) (B (m + 1 + 1) - B (m + 1))) := p1
    rw [sg_first b2] at p1
    have pr := TC_pg hok hT (show N + 1 < 32 by omega)
    rw [PR_root] at pr
    have pr : PgC M (N + 1) 2 0 (sq f s B m) := pr
    have f1 : Fk M (stK M 2 (en f s (B (m + 1) - 1)).1) := Fk_stK (by omega)
    have f2 : Fk (stK M 2 (en f s (B (m + 1) - 1)).1) (stK (stK M 2 (en f s (B (m + 1) - 1)).1) 1 (en f s (B (m + 1))).1) := Fk_stK (by omega)
    have k1 : KyC (stK (stK M 2 (en f s (B (m + 1) - 1)).1) 1 (en f s (B (m + 1))).1) 1 (ksp f s (B (m + 1))) := stK_KC ks_LOk
    have k2 : KyC (stK (stK M 2 (en f s (B (m + 1) - 1)).1) 1 (en f s (B (m + 1))).1) 2 (ksp f s (B (m + 1) - 1)) := ⟨by rw [stK_o (by omega) (by omega)]; exact stK_l, fun j hj => by rw [stK_o (by omega) (by omega)]; exact (stK_KC (C := M) (k := 2) ks_LOk).2.1 j hj, ks_LOk⟩
    have hc := B_cmp h hB (m := m) (by omega)
    have f3 : Fk M (up (stK (stK M 2 (en f s (B (m + 1) - 1)).1) 1 (en f s (B (m + 1))).1) (10 + 2 * 1) 1 ((sep (ksp f s (B (m + 1) - 1)) (ksp f s (B (m + 1)))).length : Int)) := Fk_up (by omega) (Fk_tr f1 f2)
    have k3 := KC_cut k1 hc
    have pr3 := Fk_PgC pr f3
    have pr3' : PgC (up (stK (stK M 2 (en f s (B (m + 1) - 1)).1) 1 (en f s (B (m + 1))).1) (10 + 2 * 1) 1 ((sep (ksp f s (B (m + 1) - 1)) (ksp f s (B (m + 1)))).length : Int)) (N + 1) 2 0 (sq f s B m ++ []) := by rw [List.append_nil]; exact pr3
    have hsq := sq_ok h hB hN (m + 1) (by omega)
    have hsqe : sq f s B m ++ (sep (ksp f s (B (m + 1) - 1)) (ksp f s (B (m + 1))), v3) :: [] = sq f s B (m + 1) := by rw [h2]; rfl
    have hins := sp_insert (t := v3) pr3' k3 (by omega) (z := ((sq f s B m).length : Int)) rfl (by rw [hsqe, pl_32 (by omega)]; omega)
    rw [hsqe] at hins
    have hT2 : TC (stP (up (stK (stK M 2 (en f s (B (m + 1) - 1)).1) 1 (en f s (B (m + 1))).1) (10 + 2 * 1) 1 ((sep (ksp f s (B (m + 1) - 1)) (ksp f s (B (m + 1)))).length : Int)) (N + 1) (enc 2 0 (sq f s B (m + 1)))) (PR f s N B (m + 1)) := by
      rw [← PR_next]
      exact TC_st (Fk_TC hT f3) (by omega) ⟨rfl, rfl, rfl⟩
    obtain ⟨M', i1, i2, i3⟩ := lp_cov (K := K) h hB hN d k (m + 1) (v3 + 1) _ (by omega) (by omega) (by omega) hT2
    refine ⟨M', ?_, i2, fun x y hx hy => by rw [i3 x y hx hy, stP_k (by omega), f3 x y hx]⟩
    unfold f_X0_coverLeaves_45
    rw [fLt (by omega), sp_pageOf (i := m) (by omega) (by omega), bd_some, p0e, bd_some, sp_readKey (by omega) p0' (by rw [sg_len]; omega), bd_some, sp_pageOf (i := m + 1) (by omega) (by omega), bd_some, sp_readKey (a := []) (by omega) (Fk_PgC p1 f1) (by rfl), bd_some, sp_cut k1 k2 hc, bd_some, sp_entries pr3, bd_some, hins, bd_some]
    exact i1
/-- .. the model -/
theorem lm_cov {K : Int → Mem → Option (Mem × Int)} (h : LdOk f s n) (hB : BOk N n B) (hN : N ≤ 4) : ∀ (d k m : Nat) (v2 : Int) (Y : Mem), m + d = N → v2 = (m : Int) + 1 → d < k → TX Y (PR f s N B m) → Y 95 1 = (N : Int) + 1 → ∃ Y', f_X8_loadsInner_24 ((N : Int) + 1) K k v2 Y = K ((N : Int) + 1) Y' ∧ TX Y' (PR f s N B N) ∧ Fx Y Y' ∧ Y' 95 3 = Y 95 3 ∧ Y' 95 4 = Y 95 4 ∧ Y' 95 5 = Y 95 5
  | _, 0 => by intros; omega
  | 0, k + 1 => by
    intro m v2 Y h1 h2 _ hT hR
    have : m = N := by omega
    subst this
    refine ⟨Y, ?_, hT, Fx_refl, rfl, rfl, rfl⟩
    unfold f_X8_loadsInner_24
    rw [fLt (by omega), h2]
  | d + 1, k + 1 => by
    intro m v2 Y h1 h2 hk hT hR
    have hok := PR_ok h hB hN (m := m) (by omega)
    have b1 := (hB.2.1 m (by omega))
    have b2 := (hB.2.1 (m + 1) (by omega))
    have p0 := TX_pg hok hT (show m < 32 by omega)
    rw [PR_leaf (by omega)] at p0
    have p0 : PgX Y m 1 (if m < N then (m : Int) + 2 else 0) (sg f s (B m) (B (m + 1) - B m)) := p0
    have p1 := TX_pg hok hT (show m + 1 < 32 by omega)
    rw [PR_leaf (by omega)] at p1
    have p1 : PgX Y (m + 1) 1 (if m + 1 < N then ((m + 1 : Nat) : Int) + 2 else 0) (sg f s (B (m + 1)) (B (m + 1 + 1) - B (m + 1))) := p1
    have pr := TX_pg hok hT (show N + 1 < 32 by omega)
    rw [PR_root] at pr
    have pr : PgX Y (N + 1) 2 0 (sq f s B m) := pr
    obtain ⟨Y1, o1, o2, o3⟩ := mx_out0 p0 (p := v2 - 1) (by omega)
    obtain ⟨Y2, q1, q2, q3⟩ := mx_out (Fro_PgX p1 o3) (p := v2) (by omega) o2 (by rw [sg_len, sg_len]; omega)
    have hF2 := Fro_tr o3 q3
    have hn1 : Y1 95 6 = ((B (m + 1) - B m : Nat) : Int) := by rw [o2.1, sg_len]
    have hrow : sg f s (B m) (B (m + 1) - B m) ++ sg f s (B (m + 1)) (B (m + 1 + 1) - B (m + 1)) = sg f s (B m) (B (m + 1) - B m - 1) ++ en f s (B (m + 1) - 1) :: en f s (B (m + 1)) :: sg f s (B (m + 1) + 1) (B (m + 1 + 1) - B (m + 1) - 1) := by
      rw [sg_last b1.1, sg_first b2.1]
      simp
    rw [hrow] at q2
    have hle := B_le hB (p := m + 1) (by omega)
    have h60 := h.2.2.2.2.1
    have eu : EOk (en f s (B (m + 1) - 1)) := en_ok (by omega)
    have ev : EOk (en f s (B (m + 1))) := en_ok (by omega)
    have hc := B_cmp h hB (m := m) (by omega)
    have hsh : f_X8_shortest (Y1 95 6) Y2 = some (Y2, ((cp (ksp f s (B (m + 1) - 1)) (ksp f s (B (m + 1))) + 1 : Nat) : Int)) := mx_short (r := Y1 95 6) q2.2.1 eu ev (by rw [sg_len]; omega) (by rw [hn1, sg_len]; omega)
    have q2' := q2.2.1
    have e9 : sg f s (B m) (B (m + 1) - B m - 1) ++ en f s (B (m + 1) - 1) :: en f s (B (m + 1)) :: sg f s (B (m + 1) + 1) (B (m + 1 + 1) - B (m + 1) - 1) = (sg f s (B m) (B (m + 1) - B m - 1) ++ [en f s (B (m + 1) - 1)]) ++ en f s (B (m + 1)) :: sg f s (B (m + 1) + 1) (B (m + 1 + 1) - B (m + 1) - 1) := by simp
    rw [e9] at q2'
    have rv := Rows_mid q2'
    rw [Nat.zero_add, show (sg f s (B m) (B (m + 1) - B m - 1) ++ [en f s (B (m + 1) - 1)]).length = B (m + 1) - B m by simp [sg_len]; omega] at rv
    have hcp := cp_lt _ _ hc
    obtain ⟨Y3, u1, u2, u3⟩ := mx_goesUp (r := Y1 95 6) (r2 := ((cp (ksp f s (B (m + 1) - 1)) (ksp f s (B (m + 1))) + 1 : Nat) : Int)) (c := cp (ksp f s (B (m + 1) - 1)) (ksp f s (B (m + 1))) + 1) (by omega) hn1 ev hcp rfl rv
    have u2 : UpX Y3 (sep (ksp f s (B (m + 1) - 1)) (ksp f s (B (m + 1)))) := u2
    have hF3 : Fx Y Y3 := Fx_tr (Fro_Fx hF2) (Fu_Fx u3)
    have hT3 : TX Y3 (PR f s N B m) := Fu_TX (Fro_TX hT hF2) u3
    have hR3 : Y3 95 1 = (N : Int) + 1 := by rw [hF3 _ _ (by omega) (by omega) (by omega) (by omega) (by omega) (by omega)]; exact hR
    have pr3 := TX_pg hok hT3 (show N + 1 < 32 by omega)
    rw [PR_root] at pr3
    have pr3 : PgX Y3 (N + 1) 2 0 (sq f s B m) := pr3
    obtain ⟨Y4, w1, w2, w3⟩ := mx_out0 pr3 (p := (N : Int) + 1) (by omega)
    have u4 := UpX_ro u2 w3
    have hlq := sq_len (f := f) (s := s) (B := B) m
    obtain ⟨Y5, v1, v2', v3⟩ := mx_in (a := sq f s B m) (b := []) (c := 0) (t := v2) (by rw [List.append_nil]; exact w2) u4.2.1 u4.2.2 (sep_pos hc) (by omega) (by rw [List.append_nil, hlq]; omega) (q := Y4 95 6) (n := Y4 95 10) w2.1 u4.1 (by omega)
    have hsqe : sq f s B m ++ (sep (ksp f s (B (m + 1) - 1)) (ksp f s (B (m + 1))), v2) :: [] = sq f s B (m + 1) := by rw [h2]; rfl
    rw [hsqe] at v2'
    have hF5 := Fro_tr w3 v3
    have hR5 : Y5 95 1 = (N : Int) + 1 := by rw [hF5 _ _ (by omega) (by omega) (by omega) (by omega)]; exact hR3
    have hsq := sq_ok h hB hN (m + 1) (by omega)
    have mk := mx_back (X := Y5) (i := N + 1) (p := Y5 95 1) (s := 2) (l := 0) (x := []) (y := sq f s B (m + 1)) (z := []) (q4 := 0) (q5 := Y5 95 6) (by omega) (by rw [hR5]; omega) (by rw [List.append_nil]; exact v2'.2.1) hsq.1 (by simp [sq_len]; omega) (by omega) (by rfl) (by rw [v2'.1]; simp)
    have hT6 : TX (stX Y5 (N + 1) (enc 2 0 (sq f s B (m + 1)))) (PR f s N B (m + 1)) := by
      rw [← PR_next]
      exact TX_st (Fro_TX hT3 hF5) ⟨rfl, rfl, rfl⟩
    have hF6 : Fx Y (stX Y5 (N + 1) (enc 2 0 (sq f s B (m + 1)))) := Fx_st (Fx_tr hF3 (Fro_Fx hF5))
    have cnt : ∀ t, t = 3 ∨ t = 4 ∨ t = 5 → (stX Y5 (N + 1) (enc 2 0 (sq f s B (m + 1)))) 95 t = Y 95 t := by
      intro t ht
      rw [stX_k (by omega), hF5 _ _ (by omega) (by omega) (by omega) (by omega), u3 _ _ (by omega) (by omega), hF2 _ _ (by omega) (by omega) (by omega) (by omega)]
    obtain ⟨Y', i1, i2, i3, i4, i5, i6⟩ := lm_cov (K := K) h hB hN d k (m + 1) (v2 + 1) _ (by omega) (by omega) (by omega) hT6 (by rw [stX_k (by omega)]; exact hR5)
    refine ⟨Y', ?_, i2, Fx_tr hF6 i3, by rw [i4, cnt 3 (by omega)], by rw [i5, cnt 4 (by omega)], by rw [i6, cnt 5 (by omega)]⟩
    unfold f_X8_loadsInner_24
    rw [tLt (by omega), o1, bd_some, q1, bd_some, hsh, bd_some]
    show bd (f_X8_goesUp (Y1 95 6) _ Y2) _ = _
    rw [u1, bd_some, up_j (by omega), hR3, w1, bd_some, v1, bd_some, mk, bd_some]
    exact i1
end L3
end
section
/-! LOAD: the tree is good; whole. -/
section L4
variable {C C' X X' : Mem} {P P' : Nat → Pg} {f s c1 c2 c3 : Int} {a b m n N c k p root L : Nat} {B : Nat → Nat} {es x y : List Ent} {u v e : Ent}
theorem sg_mem : ∀ m, e ∈ sg f s a m → ∃ k, a ≤ k ∧ k < a + m ∧ e = en f s k
  | 0 => by intro h; cases h
  | m + 1 => by
    intro h
    rw [sg_snoc] at h
    rcases List.mem_append.mp h with h | h
    · obtain ⟨k, k1, k2, k3⟩ := sg_mem m h
      exact ⟨k, k1, by omega, k3⟩
    · exact ⟨a + m, by omega, by omega, List.mem_singleton.mp h⟩
theorem sg_pw (h : LdOk f s n) : ∀ m, a + m ≤ n → ((sg f s a m).map k1).Pairwise lt2
  | 0, _ => by simp [sg]
  | m + 1, hm => by
    rw [sg_snoc, List.map_append, List.pairwise_append]
    refine ⟨sg_pw h m (by omega), by simp, ?_⟩
    intro x hx y hy
    obtain ⟨x', hx1, hx2⟩ := List.mem_map.mp hx
    obtain ⟨k, q1, q2, q3⟩ := sg_mem m hx1
    have hy2 : y = k1 (en f s (a + m)) := by simpa using hy
    rw [← hx2, hy2, q3]
    exact Or.inl (ks_lt h q2 (by omega))
/-- one leaf alone -/
theorem good_one (h : LdOk f s n) (hn : n ≤ 12) : GoodS (PF f s 0 n) 0 1 := by
  refine ⟨fun _ => [([], 0)], fun _ => 0, ⟨PF_ok (by omega) hn, ?_, ?_, ?_, ?_, ?_⟩, rfl, ?_, by omega, by omega, by omega, by omega⟩
  · intro t ht e he
    have : e = ([], 0) := by simpa using he
    subst this
    exact ⟨0, rfl, by omega, by show 0 = t; omega, by rw [PF_N, if_pos (by omega)]⟩
  · intro t _
    simp
  · intro i hi hno
    have : i ≠ 0 := by
      intro h0
      subst h0
      exact hno 0 (by omega) ([], 0) (by simp) rfl
    unfold PF
    rw [if_neg (by omega), if_neg this]
  · rw [LkTo_cons]
    refine ⟨?_, trivial⟩
    show (PF f s 0 n 0).2.1 = 0
    rw [PF_N]
  · show (([], 0) :: ((PF f s 0 n 0).2.2.map k1 ++ [])).Pairwise lt2
    rw [PF_N, List.append_nil, List.pairwise_cons]
    refine ⟨?_, sg_pw h n (by omega)⟩
    intro x hx
    obtain ⟨x', hx1, hx2⟩ := List.mem_map.mp hx
    obtain ⟨k, _, _, q3⟩ := sg_mem n hx1
    rw [← hx2, q3]
    refine Or.inl ?_
    show cmp [] (ksp f s k) < 0
    have hl := ks_len (f := f) (s := s) (k := k)
    generalize ksp f s k = z at hl
    cases z with
    | nil => simp at hl
    | cons a r => show (-1 : Int) < 0; decide
  · intro t ht
    omega
theorem vq_max : ∀ m, ∀ e ∈ (([], 0) :: sq f s B m : List Ent), ∃ p : Nat, e.2 = (p : Int) ∧ p ≤ m
  | 0 => by
    intro e he
    have : e = ([], 0) := by simpa [sq] using he
    exact ⟨0, by rw [this]; rfl, by omega⟩
  | m + 1 => by
    intro e he
    have he2 : e ∈ (([], 0) :: sq f s B m : List Ent) ++ [(sep (ksp f s (B (m + 1) - 1)) (ksp f s (B (m + 1))), ((m + 1 : Nat) : Int))] := he
    rcases List.mem_append.mp he2 with he | he
    · obtain ⟨p, q1, q2⟩ := vq_max m e he
      exact ⟨p, q1, by omega⟩
    · exact ⟨m + 1, by rw [List.mem_singleton.mp he], by omega⟩
theorem vq_has : ∀ m p, p ≤ m → ∃ e ∈ (([], 0) :: sq f s B m : List Ent), e.2 = (p : Int)
  | 0, p => by
    intro h
    have : p = 0 := by omega
    subst this
    exact ⟨([], 0), by simp, rfl⟩
  | m + 1, p => by
    intro h
    by_cases hp : p = m + 1
    · subst hp
      refine ⟨(sep (ksp f s (B (m + 1) - 1)) (ksp f s (B (m + 1))), ((m + 1 : Nat) : Int)), ?_, rfl⟩
      show _ ∈ ([], 0) :: (sq f s B m ++ [_])
      simp
    · obtain ⟨e, e1, e2⟩ := vq_has m p (by omega)
      refine ⟨e, ?_, e2⟩
      show e ∈ (([], 0) :: sq f s B m : List Ent) ++ [_]
      exact List.mem_append_left _ e1
theorem vq_nd : ∀ m, ((([], 0) :: sq f s B m : List Ent).map Prod.snd).Nodup
  | 0 => by simp [sq]
  | m + 1 => by
    have hh : ((([], 0) :: sq f s B m : List Ent) ++ [(sep (ksp f s (B (m + 1) - 1)) (ksp f s (B (m + 1))), ((m + 1 : Nat) : Int))]) = (([], 0) :: sq f s B (m + 1) : List Ent) := rfl
    rw [← hh]
    refine nd_ins (A := (([], 0) :: sq f s B m : List Ent)) (B := []) (by rw [List.append_nil]; exact vq_nd m) ?_
    intro x hx
    rw [List.append_nil] at hx
    obtain ⟨p, q1, q2⟩ := vq_max m x hx
    intro hh2
    have hh2 : x.2 = ((m + 1 : Nat) : Int) := hh2
    omega
theorem vq_lk : ∀ m, m ≤ N → LkTo (PR f s N B N) (([], 0) :: sq f s B m) (if m < N then (m : Int) + 2 else 0)
  | 0, _ => by
    show LkTo _ [([], 0)] _
    rw [LkTo_cons]
    refine ⟨?_, trivial⟩
    show (PR f s N B N 0).2.1 = if 0 < N then ((0 : Nat) : Int) + 2 else 0
    rw [PR_leaf (by omega)]
  | m + 1, hm => by
    have ih := vq_lk m (by omega)
    rw [if_pos (by omega)] at ih
    show LkTo _ ((([], 0) :: sq f s B m : List Ent) ++ [(sep (ksp f s (B (m + 1) - 1)) (ksp f s (B (m + 1))), ((m + 1 : Nat) : Int))]) _
    rw [LkTo_app]
    refine ⟨?_, ?_, trivial⟩
    · show LkTo _ _ (((m + 1 : Nat) : Int) + 1)
      rw [show ((m + 1 : Nat) : Int) + 1 = (m : Int) + 2 by omega]
      exact ih
    · show (PR f s N B N (((m + 1 : Nat) : Int)).toNat).2.1 = _
      rw [show (((m + 1 : Nat) : Int)).toNat = m + 1 by omega, PR_leaf hm]
      rfl
theorem vq_pw (h : LdOk f s n) (hB : BOk N n B) : ∀ m, m ≤ N → (lfs (PR f s N B N) (([], 0) :: sq f s B m)).Pairwise lt2 ∧ ∀ x ∈ lfs (PR f s N B N) (([], 0) :: sq f s B m), cmp x.1 (ksp f s (B (m + 1) - 1)) ≤ 0
  | 0, _ => by
    have hb := (hB.2.1 0 (by omega)).1
    have hle := B_le hB (p := 0 + 1) (by omega)
    have he : lfs (PR f s N B N) (([], 0) :: sq f s B 0) = ([], 0) :: (sg f s (B 0) (B (0 + 1) - B 0)).map k1 := by
      show ([], 0) :: ((PR f s N B N 0).2.2.map k1 ++ []) = _
      rw [PR_leaf (by omega), List.append_nil]
    rw [he]
    constructor
    · rw [List.pairwise_cons]
      refine ⟨?_, sg_pw h _ (by omega)⟩
      intro x hx
      obtain ⟨x', hx1, hx2⟩ := List.mem_map.mp hx
      obtain ⟨k, _, _, q3⟩ := sg_mem _ hx1
      rw [← hx2, q3]
      refine Or.inl ?_
      show cmp [] (ksp f s k) < 0
      have hl := ks_len (f := f) (s := s) (k := k)
      generalize ksp f s k = z at hl
      cases z with
      | nil => simp at hl
      | cons a r => show (-1 : Int) < 0; decide
    · intro x hx
      rcases List.mem_cons.mp hx with hx | hx
      · rw [hx]; exact cmp_nil_le _
      · obtain ⟨x', hx1, hx2⟩ := List.mem_map.mp hx
        obtain ⟨k, q1, q2, q3⟩ := sg_mem _ hx1
        rw [← hx2, q3]
        show cmp (ksp f s k) _ ≤ 0
        by_cases hk : k = B (0 + 1) - 1
        · rw [hk, cmp_refl]; omega
        · have := ks_lt h (a := k) (b := B (0 + 1) - 1) (by omega) (by omega)
          omega
  | m + 1, hm => by
    obtain ⟨i1, i2⟩ := vq_pw h hB m (by omega)
    have hb := (hB.2.1 (m + 1) (by omega)).1
    have hle := B_le hB (p := m + 1 + 1) (by omega)
    have hle2 := B_le hB (p := m + 1) (by omega)
    have hc := B_cmp h hB (m := m) (by omega)
    have hs1 := sep_gt _ _ hc
    have hs2 := sep_le (ksp f s (B (m + 1) - 1)) (ksp f s (B (m + 1)))
    have he : lfs (PR f s N B N) (([], 0) :: sq f s B (m + 1)) = lfs (PR f s N B N) (([], 0) :: sq f s B m) ++ (sep (ksp f s (B (m + 1) - 1)) (ksp f s (B (m + 1))), 0) :: (sg f s (B (m + 1)) (B (m + 1 + 1) - B (m + 1))).map k1 := by
      show lfs _ ((([], 0) :: sq f s B m : List Ent) ++ [(sep (ksp f s (B (m + 1) - 1)) (ksp f s (B (m + 1))), ((m + 1 : Nat) : Int))]) = _
      rw [lfs_app, lfs_cons]
      show _ ++ (_, 0) :: ((PR f s N B N (((m + 1 : Nat) : Int)).toNat).2.2.map k1 ++ []) = _
      rw [show (((m + 1 : Nat) : Int)).toNat = m + 1 by omega, PR_leaf hm, List.append_nil]
    have hkey : ∀ x ∈ (sg f s (B (m + 1)) (B (m + 1 + 1) - B (m + 1))).map k1, cmp (sep (ksp f s (B (m + 1) - 1)) (ksp f s (B (m + 1)))) x.1 ≤ 0 ∧ x.2 = 1 ∧ cmp x.1 (ksp f s (B (m + 1 + 1) - 1)) ≤ 0 := by
      intro x hx
      obtain ⟨x', hx1, hx2⟩ := List.mem_map.mp hx
      obtain ⟨k, q1, q2, q3⟩ := sg_mem _ hx1
      rw [← hx2, q3]
      refine ⟨?_, rfl, ?_⟩
      · show cmp _ (ksp f s k) ≤ 0
        by_cases hk : k = B (m + 1)
        · rw [hk]; exact hs2
        · have := ks_lt h (a := B (m + 1)) (b := k) (by omega) (by omega)
          have := cmp_le_lt hs2 this
          omega
      · show cmp (ksp f s k) _ ≤ 0
        by_cases hk : k = B (m + 1 + 1) - 1
        · rw [hk, cmp_refl]; omega
        · have := ks_lt h (a := k) (b := B (m + 1 + 1) - 1) (by omega) (by omega)
          omega
    rw [he]
    constructor
    · rw [List.pairwise_append]
      refine ⟨i1, ?_, ?_⟩
      · rw [List.pairwise_cons]
        refine ⟨?_, sg_pw h _ (by omega)⟩
        intro x hx
        obtain ⟨k1', k2', _⟩ := hkey x hx
        rcases Int.lt_or_eq_of_le k1' with hh | hh
        · exact Or.inl hh
        · exact Or.inr ⟨hh, by show (0 : Int) < x.2; omega⟩
      · intro x hx y hy
        have hx1 := i2 x hx
        have hxs := cmp_le_lt hx1 hs1
        rcases List.mem_cons.mp hy with hy | hy
        · rw [hy]; exact Or.inl hxs
        · exact Or.inl (cmp_lt_le hxs (hkey y hy).1)
    · intro x hx
      rcases List.mem_append.mp hx with hx | hx
      · have hx1 := i2 x hx
        have hxs := cmp_le_lt hx1 hs1
        have h3 := cmp_lt_le hxs hs2
        by_cases hk : B (m + 1) = B (m + 1 + 1) - 1
        · rw [← hk]; omega
        · have := ks_lt h (a := B (m + 1)) (b := B (m + 1 + 1) - 1) (by omega) (by omega)
          have := cmp_trans _ _ _ h3 this
          omega
      · rcases List.mem_cons.mp hx with hx | hx
        · rw [hx]
          show cmp (sep (ksp f s (B (m + 1) - 1)) (ksp f s (B (m + 1)))) _ ≤ 0
          by_cases hk : B (m + 1) = B (m + 1 + 1) - 1
          · rw [← hk]; exact hs2
          · have := ks_lt h (a := B (m + 1)) (b := B (m + 1 + 1) - 1) (by omega) (by omega)
            have := cmp_le_lt hs2 this
            omega
        · exact (hkey x hx).2.2
theorem good_two (h : LdOk f s n) (hB : BOk N n B) (hN : 1 ≤ N) (hN4 : N ≤ 4) : GoodS (PR f s N B N) (N + 1) 2 := by
  refine ⟨fun t => if t = 0 then [([], ((N + 1 : Nat) : Int))] else ([], 0) :: sq f s B N, fun i => if i = N + 1 then 0 else 1, ⟨PR_ok h hB hN4 (Nat.le_refl _), ?_, ?_, ?_, ?_, ?_⟩, rfl, ?_, by omega, by omega, by omega, ?_⟩
  · intro t ht e he
    by_cases h0 : t = 0
    · subst h0
      have : e = ([], ((N + 1 : Nat) : Int)) := by simpa using he
      subst this
      exact ⟨N + 1, rfl, by omega, if_pos rfl, by rw [PR_root, if_neg (by omega)]⟩
    · have he2 : e ∈ (([], 0) :: sq f s B N : List Ent) := by simpa [h0] using he
      obtain ⟨p, q1, q2⟩ := vq_max N e he2
      have ht1 : t = 1 := by omega
      subst ht1
      exact ⟨p, q1, by omega, if_neg (by omega), by rw [PR_leaf q2]; rfl⟩
  · intro t ht
    by_cases h0 : t = 0
    · subst h0; simp
    · dsimp only
      rw [if_neg h0]
      exact vq_nd N
  · intro i hi hno
    have h1 : i ≠ N + 1 := by
      intro hh
      subst hh
      exact hno 0 (by omega) ([], ((N + 1 : Nat) : Int)) (by simp) rfl
    have h2 : ¬ i ≤ N := by
      intro hh
      obtain ⟨e, e1, e2⟩ := vq_has (f := f) (s := s) (B := B) N i hh
      exact hno 1 (by omega) e (by simpa using e1) e2
    unfold PR
    rw [uP_o h1, PB_o (by omega)]
  · have := vq_lk (f := f) (s := s) (N := N) (B := B) N (Nat.le_refl _)
    rw [if_neg (by omega)] at this
    exact this
  · exact (vq_pw h hB N (Nat.le_refl _)).1
  · intro t ht
    have : t = 0 := by omega
    subst this
    show ([], 0) :: sq f s B N = exp _ [([], ((N + 1 : Nat) : Int))]
    rw [exp_cons, exp_nil]
    show _ = ([], (PR f s N B N (N + 1)).2.1) :: ((PR f s N B N (N + 1)).2.2 ++ [])
    rw [PR_root, List.append_nil]
  · intro _
    rw [PR_root]
    intro hh
    have hh : sq f s B N = [] := hh
    have := sq_len (f := f) (s := s) (B := B) N
    rw [hh] at this
    simp at this
    omega
theorem PB_lf : IsLF (PB f s N B) (N + 1) ∨ 31 ≤ N := by
  by_cases h : 31 ≤ N
  · exact Or.inr h
  · refine Or.inl ⟨by omega, by rw [PB_o (by omega)], ?_⟩
    intro i hi
    unfold PB
    rw [if_pos (by omega)]
    show (1 : Int) ≠ 0
    omega
/-- LOAD whole -/
theorem ld_all (h : LdOk f s n) (hRC : RC C P root L c1 c2 c3) (hRX : RX X P root L c1 c2 c3) : ∃ (C' X' : Mem) (P' : Nat → Pg) (root' L' : Nat), f_X0_loadRow f s (n : Int) C = some (C', 0) ∧ f_X8_loads f s (n : Int) X = some (X', (L' : Int)) ∧ 1 ≤ L' ∧ L' ≤ 2 ∧ RC C' P' root' L' c1 c2 c3 ∧ RX X' P' root' L' c1 c2 c3 ∧ GoodS P' root' L' ∧ KpC C C' ∧ KpX X X' := by
  have hfu := FU_eq
  have h60 := h.2.2.2.2.1
  have hn1 := h.2.2.2.1
  -- the class: cleared, filled
  obtain ⟨Ca, a1, a2, a3⟩ := lp_clr (u1 := f) (u2 := s) (u3 := (n : Int)) (K := (fun (v4_e3 : Int) (C_e3 : Mem) => (bd (f_X0_fillLeaves f s (n : Int) (up (up C_e3 1 4 (0)) 1 5 (1))) (fun C48 r48 => (cLt 0 (r48) (bd (f_X0_shareWithLast (r48) C48) (fun C61 _ => (bd (f_X0_coverLeaves (r48) C61) (fun C67 _ => (some (C67, 0)))))) (some (C48, 0))))))) 32 FU 0 C (by omega) (by omega) (by omega) (fun i hi => by omega)
  have hz : TC (up (up Ca 1 4 0) 1 5 1) (fun _ => (0, 0, [])) := TC_up (TC_up (TC_zero a2) (by omega)) (by omega)
  have hTb : TC (stP (up (up Ca 1 4 0) 1 5 1) 0 (enc 1 0 [])) (PF f s 0 0) := by
    have e1 : PF f s 0 0 = uP (fun _ => (0, 0, [])) 0 (1, 0, []) := by
      funext p
      by_cases hp : p = 0
      · subst hp; rw [uP_s, PF_N]; rfl
      · rw [uP_o hp]
        unfold PF
        rw [if_neg (by omega), if_neg hp]
    rw [e1]
    exact TC_st hz (by omega) ⟨rfl, rfl, rfl⟩
  obtain ⟨Cb, N, c, b1, b2, b3, b4, b5, b6, b7⟩ := lp_fillL (K := (fun (v4_e19 : Int) (v5_e19 : Int) (C_e19 : Mem) => (some (C_e19, v4_e19)))) h n FU 0 0 0 0 (stP (up (up Ca 1 4 0) 1 5 1) 0 (enc 1 0 [])) (by omega) (by omega) rfl rfl (by omega) (by omega) hTb
  have hc1 : 1 ≤ c := b4 hn1
  have hN4 : N ≤ 4 := by omega
  have hfill : f_X0_fillLeaves f s (n : Int) (up (up Ca 1 4 0) 1 5 1) = some (Cb, (N : Int)) := by
    unfold f_X0_fillLeaves
    rw [sp_pageOf (i := 0) (by rfl) (by omega), bd_some, sp_begin, bd_some, b1]
  have hCb : ∀ x y, (x < 10 ∨ 20 ≤ x) → x < 61 → x ≠ 1 → Cb x y = C x y := by
    intro x y h1 h2 h3
    rw [b7 x y h1 h2, stP_k (by omega), up_k h3, up_k h3, a3 x y h2]
  have hCb4 : Cb 1 4 = 0 := by rw [b7 _ _ (by omega) (by omega), stP_k (by omega), up_j (by omega), up_same]
  have hCb5 : Cb 1 5 = 1 := by rw [b7 _ _ (by omega) (by omega), stP_k (by omega), up_same]
  have preC : f_X0_loadRow f s (n : Int) C = (cLt 0 (N : Int) (bd (f_X0_shareWithLast (N : Int) Cb) (fun C61 _ => (bd (f_X0_coverLeaves (N : Int) C61) (fun C67 _ => (some (C67, 0)))))) (some (Cb, 0))) := by
    unfold f_X0_loadRow
    rw [a1, hfill, bd_some]
  -- the model
  have hdiv : ((n : Int) + 11) / 12 = (N : Int) + 1 := by omega
  obtain ⟨Xa, x1, x2, x3⟩ := lm_clr (u1 := f) (u2 := s) (u3 := (n : Int)) (K := (fun (v4_e3 : Int) (C_e3 : Mem) => (dv ((n : Int) + 11) (f_X8_loads_34 f s (n : Int) (((n : Int) + 11) / 12) (fun (v5_e34 : Int) (C_e34 : Mem) => (jn ((fun (C_194 : Mem) => (cLt (1) (((n : Int) + 11) / 12) (bd (f_X8_loadsInner (((n : Int) + 11) / 12) (up (up C_194 95 1 (0)) 95 2 (1))) (fun C213 _ => (some (C213, C213 95 2)))) (some ((up (up C_194 95 1 (0)) 95 2 (1)), (up (up C_194 95 1 (0)) 95 2 (1)) 95 2)))) : Mem → Option (Mem × Int)) (fun j194 => (cLt (1) (((n : Int) + 11) / 12) (bd (f_X8_usedOf ((((n : Int) + 11) / 12) - 1) C_e34) (fun C150 r150 => (cLt (r150) (32) (bd (f_X8_comeOut ((((n : Int) + 11) / 12) - 2) (up C150 95 6 (0))) (fun C168 _ => (bd (f_X8_comeOut ((((n : Int) + 11) / 12) - 1) C168) (fun C176 _ => (bd (f_X8_share ((((n : Int) + 11) / 12) - 2) ((((n : Int) + 11) / 12) - 1) (1) (0) (0) C176) (fun C191 _ => (j194 C191))))))) (j194 C150)))) (j194 C_e34))))) FU (0) C_e3)))) 32 FU 0 X (by omega) (by omega) (by omega) (fun i hi => by omega)
  rw [hdiv] at x1
  obtain ⟨Xb, v', y1, y2, y3⟩ := lm_fill34 (K := (fun (v5_e34 : Int) (C_e34 : Mem) => (jn ((fun (C_194 : Mem) => (cLt (1) ((N : Int) + 1) (bd (f_X8_loadsInner ((N : Int) + 1) (up (up C_194 95 1 (0)) 95 2 (1))) (fun C213 _ => (some (C213, C213 95 2)))) (some ((up (up C_194 95 1 (0)) 95 2 (1)), (up (up C_194 95 1 (0)) 95 2 (1)) 95 2)))) : Mem → Option (Mem × Int)) (fun j194 => (cLt (1) ((N : Int) + 1) (bd (f_X8_usedOf (((N : Int) + 1) - 1) C_e34) (fun C150 r150 => (cLt (r150) (32) (bd (f_X8_comeOut (((N : Int) + 1) - 2) (up C150 95 6 (0))) (fun C168 _ => (bd (f_X8_comeOut (((N : Int) + 1) - 1) C168) (fun C176 _ => (bd (f_X8_share (((N : Int) + 1) - 2) (((N : Int) + 1) - 1) (1) (0) (0) C176) (fun C191 _ => (j194 C191))))))) (j194 C150)))) (j194 C_e34)))))) h b2 ⟨hc1, b3⟩ (N + 1) FU 0 0 Xa (by omega) rfl (by omega) (by
    intro i hi j hj
    rw [x2 i hi j hj]
    dsimp only
    rw [if_neg (by omega)]
    exact (enc_00 j).symm)
  have hXb : ∀ a b, a ≠ 96 → a ≠ 97 → a ≠ 98 → a ≠ 99 → a ≠ 101 → ¬ (a = 95 ∧ (b = 6 ∨ b = 12)) → Xb a b = X a b := fun a b q1 q2 q3 q4 q5 q6 => by rw [y3 a b q1 q2 q3 q4 q5 q6, x3 a b q1]
  have preX : f_X8_loads f s (n : Int) X = (jn ((fun (C_194 : Mem) => (cLt (1) ((N : Int) + 1) (bd (f_X8_loadsInner ((N : Int) + 1) (up (up C_194 95 1 (0)) 95 2 (1))) (fun C213 _ => (some (C213, C213 95 2)))) (some ((up (up C_194 95 1 (0)) 95 2 (1)), (up (up C_194 95 1 (0)) 95 2 (1)) 95 2)))) : Mem → Option (Mem × Int)) (fun j194 => (cLt (1) ((N : Int) + 1) (bd (f_X8_usedOf (((N : Int) + 1) - 1) Xb) (fun C150 r150 => (cLt (r150) (32) (bd (f_X8_comeOut (((N : Int) + 1) - 2) (up C150 95 6 (0))) (fun C168 _ => (bd (f_X8_comeOut (((N : Int) + 1) - 1) C168) (fun C176 _ => (bd (f_X8_share (((N : Int) + 1) - 2) (((N : Int) + 1) - 1) (1) (0) (0) C176) (fun C191 _ => (j194 C191))))))) (j194 C150)))) (j194 Xb)))) := by
    unfold f_X8_loads
    rw [hdiv, x1, dv_t (by omega), y1]
  by_cases hN0 : N = 0
  · subst hN0
    have : c = n := by omega
    subst this
    refine ⟨Cb, up (up Xb 95 1 0) 95 2 1, PF f s 0 c, 0, 1, ?_, ?_, by omega, by omega, ⟨b6, hCb4, hCb5, ?_, ?_, ?_⟩, ⟨TX_fr y2 (fun y => by rw [up_k (by omega), up_k (by omega)]), ?_, ?_, ?_, ?_, ?_⟩, good_one h b3, ?_, ?_⟩
    · rw [preC, fLt (by omega)]
    · rw [preX, jn_eq, fLt (by omega)]
      dsimp only
      rw [fLt (by omega), up_same]
      rfl
    · rw [hCb _ _ (by omega) (by omega) (by omega)]; exact hRC.2.2.2.1
    · rw [hCb _ _ (by omega) (by omega) (by omega)]; exact hRC.2.2.2.2.1
    · rw [hCb _ _ (by omega) (by omega) (by omega)]; exact hRC.2.2.2.2.2
    · rw [up_j (by omega), up_same]; rfl
    · rw [up_same]; rfl
    · rw [up_j (by omega), up_j (by omega), hXb _ _ (by omega) (by omega) (by omega) (by omega) (by omega) (by omega)]; exact hRX.2.2.2.1
    · rw [up_j (by omega), up_j (by omega), hXb _ _ (by omega) (by omega) (by omega) (by omega) (by omega) (by omega)]; exact hRX.2.2.2.2.1
    · rw [up_j (by omega), up_j (by omega), hXb _ _ (by omega) (by omega) (by omega) (by omega) (by omega) (by omega)]; exact hRX.2.2.2.2.2
    · intro x y h1 h2 h3; exact hCb x y (by omega) (by omega) h1
    · intro a b hab
      rw [up_ap, if_neg (by omega), up_ap, if_neg (by omega)]
      exact hXb a b (by omega) (by omega) (by omega) (by omega) (by omega) (by omega)
  · obtain ⟨Cc, Xc, B, s0, s1, s2, s3, s4, s5, s6, s7, s8, s9⟩ := ld_share h b2 ⟨hc1, b3⟩ (by omega) b6 y2 (K := (fun (C_194 : Mem) => (cLt (1) ((N : Int) + 1) (bd (f_X8_loadsInner ((N : Int) + 1) (up (up C_194 95 1 (0)) 95 2 (1))) (fun C213 _ => (some (C213, C213 95 2)))) (some ((up (up C_194 95 1 (0)) 95 2 (1)), (up (up C_194 95 1 (0)) 95 2 (1)) 95 2)))))
    have hokB := PB_ok (f := f) (s := s) s0 h60 hN4
    have hlf : IsLF (PB f s N B) (N + 1) := by
      rcases PB_lf (f := f) (s := s) (N := N) (B := B) with hh | hh
      · exact hh
      · omega
    -- the class covers
    have hTd : TC (stP (up (up Cc 1 4 (((N + 1 : Nat) : Nat) : Int)) 1 5 2) (N + 1) (enc 2 0 [])) (PR f s N B 0) := TC_st (TC_up (TC_up s2 (by omega)) (by omega)) (by omega) ⟨rfl, rfl, rfl⟩
    obtain ⟨Cd, d1, d2, d3⟩ := lp_cov (K := (fun (v3_e45 : Int) (C_e45 : Mem) => (some (C_e45, 0)))) h s0 hN4 N FU 0 1 _ (by omega) (by omega) (by omega) hTd
    have hcov : f_X0_coverLeaves (N : Int) Cc = some (Cd, 0) := by
      unfold f_X0_coverLeaves
      rw [sp_lf hokB s2 hlf, bd_some, up_j (by omega), up_same, sp_pageOf rfl (by omega), bd_some, sp_begin, bd_some, d1]
    have hCd : ∀ x y, (x < 10 ∨ 20 ≤ x) → x < 61 → x ≠ 1 → Cd x y = C x y := by
      intro x y h1 h2 h3
      rw [d3 x y h1 h2, stP_k (by omega), up_k h3, up_k h3, s3 x y h1 h2, hCb x y h1 h2 h3]
    -- the model covers
    have hrow0 : Rows (up (up (up (up Xc 95 1 0) 95 2 1) 95 1 ((N : Int) + 1)) 95 2 2) 0 ([] ++ [] ++ []) := trivial
    have mk := mx_back (X := up (up (up (up Xc 95 1 0) 95 2 1) 95 1 ((N : Int) + 1)) 95 2 2) (i := N + 1) (p := (N : Int) + 1) (s := 2) (l := 0) (x := []) (y := []) (z := []) (q4 := 0) (q5 := 0) (by omega) (by omega) hrow0 (by intro e he; cases he) (by simp) (by simp [szs]) (by rfl) (by rfl)
    have hTe : TX (stX (up (up (up (up Xc 95 1 0) 95 2 1) 95 1 ((N : Int) + 1)) 95 2 2) (N + 1) (enc 2 0 [])) (PR f s N B 0) := TX_st (TX_fr s5 (fun y => by rw [up_k (by omega), up_k (by omega), up_k (by omega), up_k (by omega)])) ⟨rfl, rfl, rfl⟩
    obtain ⟨Xe, e1, e2, e3, e4, e5, e6⟩ := lm_cov (K := (fun (v2_e24 : Int) (C_e24 : Mem) => (some (C_e24, 0)))) h s0 hN4 N FU 0 1 _ (by omega) (by omega) (by omega) hTe (by rw [stX_k (by omega), up_j (by omega), up_same])
    have hinner : f_X8_loadsInner ((N : Int) + 1) (up (up Xc 95 1 0) 95 2 1) = some (Xe, 0) := by
      unfold f_X8_loadsInner
      rw [up_j (by omega), up_same, mk, bd_some, e1]
    have hXe2 : Xe 95 2 = 2 := by rw [e3 _ _ (by omega) (by omega) (by omega) (by omega) (by omega) (by omega), stX_k (by omega), up_same]
    have hXe1 : Xe 95 1 = (N : Int) + 1 := by rw [e3 _ _ (by omega) (by omega) (by omega) (by omega) (by omega) (by omega), stX_k (by omega), up_j (by omega), up_same]
    refine ⟨Cd, Xe, PR f s N B N, N + 1, 2, ?_, ?_, by omega, by omega, ⟨d2, ?_, ?_, ?_, ?_, ?_⟩, ⟨e2, by rw [hXe1]; rfl, by rw [hXe2]; rfl, ?_, ?_, ?_⟩, good_two h s0 (by omega) hN4, ?_, ?_⟩
    · rw [preC, tLt (by omega), s1, bd_some, hcov, bd_some]
    · rw [preX, jn_eq, tLt (by omega), s4]
      rw [tLt (by omega), hinner, bd_some, hXe2]
      rfl
    · rw [d3 _ _ (by omega) (by omega), stP_k (by omega), up_j (by omega), up_same]
    · rw [d3 _ _ (by omega) (by omega), stP_k (by omega), up_same]; rfl
    · rw [hCd _ _ (by omega) (by omega) (by omega)]; exact hRC.2.2.2.1
    · rw [hCd _ _ (by omega) (by omega) (by omega)]; exact hRC.2.2.2.2.1
    · rw [hCd _ _ (by omega) (by omega) (by omega)]; exact hRC.2.2.2.2.2
    · rw [e4, stX_k (by omega), up_j (by omega), up_j (by omega), up_j (by omega), up_j (by omega), s7, hXb _ _ (by omega) (by omega) (by omega) (by omega) (by omega) (by omega)]; exact hRX.2.2.2.1
    · rw [e5, stX_k (by omega), up_j (by omega), up_j (by omega), up_j (by omega), up_j (by omega), s8, hXb _ _ (by omega) (by omega) (by omega) (by omega) (by omega) (by omega)]; exact hRX.2.2.2.2.1
    · rw [e6, stX_k (by omega), up_j (by omega), up_j (by omega), up_j (by omega), up_j (by omega), s9, hXb _ _ (by omega) (by omega) (by omega) (by omega) (by omega) (by omega)]; exact hRX.2.2.2.2.2
    · intro x y h1 h2 h3; exact hCd x y (by omega) (by omega) h1
    · intro a b hab
      rw [e3 a b (by omega) (by omega) (by omega) (by omega) (by omega) (by omega), stX_k (by omega), up_ap, if_neg (by omega), up_ap, if_neg (by omega), up_ap, if_neg (by omega), up_ap, if_neg (by omega), s6 a b (by omega) (by omega) (by omega) (by omega) (by omega) (by omega)]
      exact hXb a b (by omega) (by omega) (by omega) (by omega) (by omega) (by omega)
end L4
end
section
/-! THE INVARIANT; calls that change. -/
def TextOk (C X : Mem) : Prop := ∃ n : Nat, n ≤ 120 ∧ C 4 1 = (n : Int) ∧ X 95 30 = (n : Int) ∧ ∀ j, j < n → C 25 j = X 113 j ∧ 0 ≤ C 25 j ∧ C 25 j ≤ 255
def ImgOk (C X : Mem) (k : Nat) : Prop := (C (6 + k) 3 = 0 ∧ X 112 k = 0) ∨ (C (6 + k) 3 = 1 ∧ ∃ P root L, GoodS P root L ∧ C (6 + k) 1 = (root : Int) ∧ C (6 + k) 2 = (L : Int) ∧ X 111 k = (root : Int) ∧ X 112 k = (L : Int) ∧ (∀ i, i < 32 → ∀ j, j < 64 → C (8 + k) (64 * i + j) = eP (P i) j) ∧ (∀ i, i < 32 → ∀ j, j < 64 → X 110 (2048 * k + (64 * i + j)) = eP (P i) j))
def TreeOk (C X : Mem) : Prop := ∃ P root L c1 c2 c3, RC C P root L c1 c2 c3 ∧ RX X P root L c1 c2 c3 ∧ GoodS P root L
def Inv (C X : Mem) : Prop := TreeOk C X ∧ TextOk C X ∧ ImgOk C X 0 ∧ ImgOk C X 1
section IV
variable {C C' X X' : Mem} {P P' : Nat → Pg} {c1 c2 c3 a b c z : Int} {n k root L : Nat} {w : List Int}
theorem Text_kp (h : TextOk C X) (h1 : KpC C C') (h2 : KpX X X') : TextOk C' X' := by
  obtain ⟨n, n1, n2, n3, n4⟩ := h
  refine ⟨n, n1, ?_, ?_, ?_⟩
  · rw [h1 _ _ (by omega) (by omega) (by omega)]; exact n2
  · rw [h2 _ _ (by omega)]; exact n3
  · intro j hj
    rw [h1 _ _ (by omega) (by omega) (by omega), h2 _ _ (by omega)]; exact n4 j hj
theorem Img_kp (hk : k < 2) (h : ImgOk C X k) (h1 : KpC C C') (h2 : KpX X X') : ImgOk C' X' k := by
  rcases h with ⟨q1, q2⟩ | ⟨q1, P, root, L, g1, g2, g3, g4, g5, g6, g7⟩
  · exact Or.inl ⟨by rw [h1 _ _ (by omega) (by omega) (by omega)]; exact q1, by rw [h2 _ _ (by omega)]; exact q2⟩
  · refine Or.inr ⟨by rw [h1 _ _ (by omega) (by omega) (by omega)]; exact q1, P, root, L, g1, ?_, ?_, ?_, ?_, ?_, ?_⟩
    · rw [h1 _ _ (by omega) (by omega) (by omega)]; exact g2
    · rw [h1 _ _ (by omega) (by omega) (by omega)]; exact g3
    · rw [h2 _ _ (by omega)]; exact g4
    · rw [h2 _ _ (by omega)]; exact g5
    · intro i hi j hj; rw [h1 _ _ (by omega) (by omega) (by omega)]; exact g6 i hi j hj
    · intro i hi j hj; rw [h2 _ _ (by omega)]; exact g7 i hi j hj
theorem Inv_kp (h : Inv C X) (ht : TreeOk C' X') (h1 : KpC C C') (h2 : KpX X X') : Inv C' X' := ⟨ht, Text_kp h.2.1 h1 h2, Img_kp (by omega) h.2.2.1 h1 h2, Img_kp (by omega) h.2.2.2 h1 h2⟩
theorem Fin_Inv {o1 o2 : Option (Mem × Int)} (h : Inv C X) (hf : Fin C X o1 o2 z z) : Agree Inv o1 o2 := by
  obtain ⟨C', X', P', root', L', d1, d2, d3, g1, g2, g3, g4, g5, g6, g7⟩ := hf
  exact ⟨C', X', z, g1, g2, Inv_kp h ⟨P', root', L', d1, d2, d3, g3, g4, g5⟩ g6 g7⟩
/-- only places that don't count -/
theorem Tree_kp (h : TreeOk C X) (h1 : ∀ x y, (x = 1 ∨ x = 2 ∨ (61 ≤ x ∧ x < 93)) → C' x y = C x y) (h2 : ∀ a b, (a = 96 ∨ (a = 95 ∧ b < 6)) → X' a b = X a b) : TreeOk C' X' := by
  obtain ⟨P, root, L, c1, c2, c3, r1, r2, r3⟩ := h
  refine ⟨P, root, L, c1, c2, c3, ⟨?_, ?_, ?_, ?_, ?_, ?_⟩, ⟨?_, ?_, ?_, ?_, ?_, ?_⟩, r3⟩
  · intro i hi j hj; rw [h1 _ _ (by omega)]; exact r1.1 i hi j hj
  · rw [h1 _ _ (by omega)]; exact r1.2.1
  · rw [h1 _ _ (by omega)]; exact r1.2.2.1
  · rw [h1 _ _ (by omega)]; exact r1.2.2.2.1
  · rw [h1 _ _ (by omega)]; exact r1.2.2.2.2.1
  · rw [h1 _ _ (by omega)]; exact r1.2.2.2.2.2
  · intro i hi j hj; rw [h2 _ _ (by omega)]; exact r2.1 i hi j hj
  · rw [h2 _ _ (by omega)]; exact r2.2.1
  · rw [h2 _ _ (by omega)]; exact r2.2.2.1
  · rw [h2 _ _ (by omega)]; exact r2.2.2.2.1
  · rw [h2 _ _ (by omega)]; exact r2.2.2.2.2.1
  · rw [h2 _ _ (by omega)]; exact r2.2.2.2.2.2
theorem sp_within (ha : R32 a) (hb : R32 b) (hc : R32 c) : f_X7_isWithin a b c C = some (C, if b ≤ a ∧ a ≤ c then 1 else 0) := by
  simp only [R32] at ha hb hc
  unfold f_X7_isWithin
  by_cases h1 : a < b
  · rw [tLt (by omega), if_neg (by omega)]
  · rw [fLt (by omega)]
    by_cases h2 : c < a
    · rw [tLt (by omega), if_neg (by omega)]
    · rw [fLt (by omega), if_pos (by omega)]
theorem mx_within (ha : R32 a) (hb : R32 b) (hc : R32 c) : f_X8_in a b c X = some (X, if b ≤ a ∧ a ≤ c then 1 else 0) := by
  simp only [R32] at ha hb hc
  unfold f_X8_in
  by_cases h1 : a < b
  · rw [tLt (by omega), if_neg (by omega)]
  · rw [fLt (by omega)]
    by_cases h2 : c < a
    · rw [tLt (by omega), if_neg (by omega)]
    · rw [fLt (by omega), if_pos (by omega)]
theorem sp_isByte (ha : R32 a) : f_X7_isByte a C = some (C, if 0 ≤ a ∧ a ≤ 255 then 1 else 0) := by
  unfold f_X7_isByte
  rw [sp_within ha (by simp only [R32]; omega) (by simp only [R32]; omega), bd_some, bo_b]
/-- powers of 26 -/
def p26 : Nat → Int
  | 0 => 1
  | n + 1 => p26 n * 26
theorem lp_sp {K : Int → Int → Mem → Option (Mem × Int)} {u0 : Int} : ∀ (m n : Nat) (j : Nat) (v2 v3 : Int), j + m ≤ 5 → v2 = p26 j → v3 = (j : Int) → m < n → f_X7_isSpelled_15 u0 ((j + m : Nat) : Int) K n v2 v3 C = K (p26 (j + m)) ((j + m : Nat) : Int) C
  | _, 0 => by intros; omega
  | 0, n + 1 => by
    intro j v2 v3 h1 h2 h3 _
    unfold f_X7_isSpelled_15
    rw [fLt (by omega), h2, h3]
    rfl
  | m + 1, n + 1 => by
    intro j v2 v3 h1 h2 h3 hn
    have ih := lp_sp (K := K) (u0 := u0) m n (j + 1) (v2 * 26) (v3 + 1) (by omega) (by rw [h2]; rfl) (by omega) (by omega)
    rw [show j + 1 + m = j + (m + 1) by omega] at ih
    unfold f_X7_isSpelled_15
    rw [tLt (by omega)]
    exact ih
def SpOk (a b : Int) : Prop := 1 ≤ b ∧ b ≤ 5 ∧ 0 ≤ a ∧ a ≤ p26 b.toNat - 1
theorem p26_le : ∀ n, n ≤ 5 → 1 ≤ p26 n ∧ p26 n ≤ 11881376 := by
  intro n hn
  have : n = 0 ∨ n = 1 ∨ n = 2 ∨ n = 3 ∨ n = 4 ∨ n = 5 := by omega
  rcases this with h | h | h | h | h | h <;> subst h <;> decide
theorem sp_spelled (ha : R32 a) (hb : R32 b) : f_X7_isSpelled a b C = some (C, 1) ∧ SpOk a b ∨ f_X7_isSpelled a b C = some (C, 0) ∧ ¬ SpOk a b := by
  have hfu := FU_eq
  unfold f_X7_isSpelled
  rw [sp_within hb (by simp only [R32]; omega) (by simp only [R32]; omega), bd_some, cEq_b]
  by_cases h : 1 ≤ b ∧ b ≤ 5
  · rw [if_pos h]
    have hp := p26_le b.toNat (by omega)
    have hbn : ((0 + b.toNat : Nat) : Int) = b := by omega
    have q := lp_sp (C := C) (u0 := a) (K := (fun (v2_e15 : Int) (v3_e15 : Int) (C_e15 : Mem) => (bd (f_X7_isWithin (a) (0) (v2_e15 - 1) C_e15) (fun C36 r36 => (bo (r36) (some (C36, r36))))))) b.toNat FU 0 1 0 (by omega) rfl rfl (by omega)
    rw [hbn, Nat.zero_add] at q
    rw [q, sp_within ha (by simp only [R32]; omega) (by simp only [R32]; omega), bd_some, bo_b]
    by_cases h2 : 0 ≤ a ∧ a ≤ p26 b.toNat - 1
    · rw [if_pos h2]; exact Or.inl ⟨rfl, h.1, h.2, h2⟩
    · rw [if_neg h2]; exact Or.inr ⟨rfl, fun q => h2 q.2.2⟩
  · rw [if_neg h]
    exact Or.inr ⟨rfl, fun q => h ⟨q.1, q.2.1⟩⟩
theorem lm_sp {K : Int → Int → Mem → Option (Mem × Int)} {u0 u1 : Int} (hu : R32 u1) : ∀ (m n : Nat) (j : Nat) (v2 v3 : Int), (j : Int) + m = max 0 (min u1 5) → v2 = p26 j → v3 = (j : Int) → m < n → f_X8_isSpelled_4 u0 u1 K n v2 v3 X = K (p26 (j + m)) ((j + m : Nat) : Int) X
  | _, 0 => by intros; omega
  | 0, n + 1 => by
    intro j v2 v3 h1 h2 h3 _
    simp only [R32] at hu
    unfold f_X8_isSpelled_4
    by_cases h : (j : Int) < u1
    · rw [tLt (by omega), fLt (by omega), h2, h3]
      rfl
    · rw [fLt (by omega), h2, h3]
      rfl
  | m + 1, n + 1 => by
    intro j v2 v3 h1 h2 h3 hn
    have hu' := hu
    simp only [R32] at hu'
    have ih := lm_sp (K := K) (u0 := u0) hu m n (j + 1) (v2 * 26) (v3 + 1) (by omega) (by rw [h2]; rfl) (by omega) (by omega)
    rw [show j + 1 + m = j + (m + 1) by omega] at ih
    unfold f_X8_isSpelled_4
    rw [tLt (by omega), tLt (by omega)]
    exact ih
theorem mx_spelled (ha : R32 a) (hb : R32 b) : f_X8_isSpelled a b X = some (X, 1) ∧ SpOk a b ∨ f_X8_isSpelled a b X = some (X, 0) ∧ ¬ SpOk a b := by
  have hfu := FU_eq
  unfold f_X8_isSpelled
  have hp := p26_le (max 0 (min b 5)).toNat (by omega)
  have q := lm_sp (X := X) (u0 := a) (u1 := b) (K := (fun (v2_e4 : Int) (v3_e4 : Int) (C_e4 : Mem) => (bd (f_X8_in (b) (1) (5) C_e4) (fun C28 r28 => (cEq (r28) 0 (some (C28, 0)) (bd (f_X8_in (a) (0) (v2_e4 - 1) C28) (fun C39 r39 => (cEq (r39) 0 (some (C39, 0)) (some (C39, 1)))))))))) hb (max 0 (min b 5)).toNat FU 0 1 0 (by omega) rfl rfl (by omega)
  rw [Nat.zero_add] at q
  rw [q, mx_within hb (by simp only [R32]; omega) (by simp only [R32]; omega), bd_some, cEq_b]
  by_cases h : 1 ≤ b ∧ b ≤ 5
  · rw [if_pos h, mx_within ha (by simp only [R32]; omega) (by simp only [R32]; omega), bd_some, cEq_b, show (max 0 (min b 5)).toNat = b.toNat by omega]
    by_cases h2 : 0 ≤ a ∧ a ≤ p26 b.toNat - 1
    · rw [if_pos h2]; exact Or.inl ⟨rfl, h.1, h.2, h2⟩
    · rw [if_neg h2]; exact Or.inr ⟨rfl, fun q => h2 q.2.2⟩
  · rw [if_neg h]
    exact Or.inr ⟨rfl, fun q => h ⟨q.1, q.2.1⟩⟩
theorem both_spelled (ha : R32 a) (hb : R32 b) : (f_X7_isSpelled a b C = some (C, 1) ∧ f_X8_isSpelled a b X = some (X, 1) ∧ SpOk a b) ∨ (f_X7_isSpelled a b C = some (C, 0) ∧ f_X8_isSpelled a b X = some (X, 0)) := by
  rcases sp_spelled (C := C) ha hb with ⟨h1, h2⟩ | ⟨h1, h2⟩
  · rcases mx_spelled (X := X) ha hb with ⟨g1, g2⟩ | ⟨g1, g2⟩
    · exact Or.inl ⟨h1, g1, h2⟩
    · exact absurd h2 g2
  · rcases mx_spelled (X := X) ha hb with ⟨g1, g2⟩ | ⟨g1, g2⟩
    · exact absurd g2 h2
    · exact Or.inr ⟨h1, g1⟩
/-- the key is spelled on both sides -/
theorem both_key (hs : SpOk a b) (h : Inv C X) : ∃ X1, f_X3_spell 0 a b C = some (stK C 0 (spl b.toNat a), 0) ∧ f_X8_spells a b X = some (X1, 0) ∧ KyC (stK C 0 (spl b.toNat a)) 0 (spl b.toNat a) ∧ KX X1 (spl b.toNat a) ∧ 1 ≤ (spl b.toNat a).length ∧ TreeOk (stK C 0 (spl b.toNat a)) X1 ∧ KpC C (stK C 0 (spl b.toNat a)) ∧ KpX X X1 ∧ Inv (stK C 0 (spl b.toNat a)) X1 := by
  obtain ⟨h1, h2, h3, h4⟩ := hs
  have hp := p26_le b.toNat (by omega)
  obtain ⟨X1, x1, x2, x3⟩ := mx_spells (X := X) (n := b.toNat) (r := a) (r2 := b) (by omega) (by omega) h3 (by omega)
  have k1 : KpC C (stK C 0 (spl b.toNat a)) := fun x y _ _ hx => stK_o (by omega) (by omega)
  have k2 : KpX X X1 := fun x y hx => x3 x y (by omega) (by omega)
  have ht : TreeOk (stK C 0 (spl b.toNat a)) X1 := Tree_kp h.1 (fun x y hx => stK_o (by omega) (by omega)) (fun x y hx => x3 x y (by omega) (by omega))
  exact ⟨X1, sp_spell (by omega) (by omega) h3 (by omega), x1, stK_KC (spl_LOk (by omega) a), x2, by rw [spl_len]; omega, ht, k1, k2, Inv_kp h ht k1 k2⟩
theorem ag_put (h : Inv C X) (ha : R32 a) (hb : R32 b) (hc : R32 c) : Agree Inv (f_X7_put a b c C) (f_X8_put a b c X) := by
  unfold f_X7_put f_X8_put
  rcases both_spelled (C := C) (X := X) ha hb with ⟨g1, g2, g3⟩ | ⟨g1, g2⟩
  · rw [g1, g2, bd_some, bd_some, fEq (by omega), fEq (by omega), sp_isByte hc, mx_within hc (by simp only [R32]; omega) (by simp only [R32]; omega), bd_some, bd_some, cEq_b, cEq_b]
    by_cases hv : 0 ≤ c ∧ c ≤ 255
    · rw [if_pos hv, if_pos hv]
      obtain ⟨X1, k1, k2, k3, k4, k5, k6, k7, k8, k9⟩ := both_key g3 h
      obtain ⟨P, root, L, d1, d2, d3, r1, r2, r3⟩ := k6
      obtain ⟨y, y1, y2, hf⟩ := put_key r3 r1 r2 k3 (by omega) (by omega) k4 k5 hv
      have := Fin_Inv k9 hf
      obtain ⟨C', X', z, q1, q2, q3⟩ := this
      rw [k1, k2, bd_some, bd_some, q1, q2, bd_some, bd_some]
      exact ⟨C', X', z, rfl, rfl, q3⟩
    · rw [if_neg hv, if_neg hv]
      exact ⟨C, X, -1, rfl, rfl, h⟩
  · rw [g1, g2, bd_some, bd_some, tEq (by omega), tEq (by omega)]
    exact ⟨C, X, -1, rfl, rfl, h⟩
theorem ag_take (h : Inv C X) (ha : R32 a) (hb : R32 b) : Agree Inv (f_X7_take a b C) (f_X8_take a b X) := by
  unfold f_X7_take f_X8_take
  rcases both_spelled (C := C) (X := X) ha hb with ⟨g1, g2, g3⟩ | ⟨g1, g2⟩
  · rw [g1, g2, bd_some, bd_some, fEq (by omega), fEq (by omega)]
    obtain ⟨X1, k1, k2, k3, k4, k5, k6, k7, k8, k9⟩ := both_key g3 h
    obtain ⟨P, root, L, d1, d2, d3, r1, r2, r3⟩ := k6
    obtain ⟨y, y1, y2, hf⟩ := take_key r3 r1 r2 k3 (by omega) k4
    obtain ⟨C', X', z, q1, q2, q3⟩ := Fin_Inv k9 hf
    rw [k1, k2, bd_some, bd_some, q1, q2, bd_some, bd_some]
    exact ⟨C', X', z, rfl, rfl, q3⟩
  · rw [g1, g2, bd_some, bd_some, tEq (by omega), tEq (by omega)]
    exact ⟨C, X, -1, rfl, rfl, h⟩
theorem ag_find (h : Inv C X) (ha : R32 a) (hb : R32 b) : Agree Inv (f_X7_find a b C) (f_X8_find a b X) := by
  unfold f_X7_find f_X8_find
  rcases both_spelled (C := C) (X := X) ha hb with ⟨g1, g2, g3⟩ | ⟨g1, g2⟩
  · rw [g1, g2, bd_some, bd_some, fEq (by omega), fEq (by omega)]
    obtain ⟨X0, k1, k2, k3, k4, k5, k6, k7, k8, k9⟩ := both_key g3 h
    generalize spl b.toNat a = w at *
    obtain ⟨P, root, L, d1, d2, d3, r1, r2, V, lvl, hg⟩ := k6
    obtain ⟨C1, X1, W, T, As, Bs, ss, m, hm, hd, hpth, hcp, hi32, hi1, f1, hRC1, hWC, hKC1, hkc, x1, hRX1, hWX, hKX1, hkx⟩ := both_down hg r1 r2 k3 (by omega) k4
    have hfin : Inv C1 X1 := Inv_kp k9 ⟨P, root, L, d1, d2, d3, hRC1, hRX1, V, lvl, hg⟩ hkc hkx
    have hcore := hg.1
    have hL32 := hg.2.2.2.2.1
    obtain ⟨ea, eb, hes, hal, hea, heb⟩ := leaf_at w (P (W m)).2.2
    have hpC := TC_pg hcore.1 hRC1.1 hi32
    have hpX := TX_pg hcore.1 hRX1.1 hi32
    have hpi : P (W m) = (1, (P (W m)).2.1, ea ++ eb) := by rw [← hes, ← hi1]
    have hpC' : PgC C1 (W m) 1 (P (W m)).2.1 (ea ++ eb) := by rw [hpi] at hpC; exact hpC
    have hpX' : PgX X1 (W m) 1 (P (W m)).2.1 (ea ++ eb) := by rw [hpi] at hpX; exact hpX
    have hpo := sp_pageOn hWC hL32 (t := m) (by omega) hi32 (z := (L : Int) - 1) (by omega)
    have hbl := sp_below (t := 0) (Or.inl rfl) hpC' hKC1
    have hpl := mx_place (p := ((W m : Nat) : Int)) hpX' rfl hKX1
    rw [hes] at hal
    rw [← hal] at hbl hpl
    have hway : X1 102 ((L : Int) - 1).toNat = ((W m : Nat) : Int) := by rw [show ((L : Int) - 1).toNat = m by omega]; exact hWX.1 m (by omega)
    have preC : (bd (f_X6_goDown 0 (stK C 0 w)) (fun C27 _ => (bd (f_X6_pageOn ((C27 1 5) - 1) C27) (fun C43 r43 => (bd (f_X4_entriesBelow r43 0 (0) C43) (fun C53 r53 => (bd (f_X4_isEntry r43 (r53) 0 C53) (fun C65 r65 => (cEq (r65) 0 (some (C65, -9)) (bd (f_X4_tail r43 (r53) C65) (fun C74 r74 => (some (C74, r74))))))))))))) = bd (f_X4_isEntry (W m) (ea.length : Int) 0 C1) (fun C65 r65 => (cEq (r65) 0 (some (C65, -9)) (bd (f_X4_tail (W m) (ea.length : Int) C65) (fun C74 r74 => (some (C74, r74)))))) := by
      rw [f1, bd_some, hRC1.2.2.1, hpo, bd_some, hbl, bd_some]
    have preX : f_X8_valueOf X0 = bd (f_X8_isAt ((W m : Nat) : Int) (ea.length : Int) X1) (fun C25 r25 => (cEq (r25) 0 (some (C25, -9)) (bd (f_X8_tellAt ((W m : Nat) : Int) (ea.length : Int) C25) (fun C38 r38 => (ix (r38) 2048 (some (C38, C38 (96) (r38).toNat))))))) := by
      unfold f_X8_valueOf
      rw [x1, bd_some, hRX1.2.2.1, ix_t (by omega), hway, hpl, bd_some]
    rw [k1, k2, bd_some, bd_some, preC, preX]
    rcases heb with ⟨e, b', hb1, hb2⟩ | heb
    · rw [hb1] at hpC' hpX' hes
      have hsz := hpX'.2.2.1
      rw [szs_app, szs_cons] at hsz
      have hv96 : X1 96 (64 * W m + (3 + szs ea + 1 + e.1.length)) = e.2 := by
        rw [hpX'.1 _ (by omega), enc_tail rfl]
      rw [sp_isEntry hpC' hKC1 rfl, bd_some, if_pos hb2, fEq (by omega), sp_tail hpC' rfl, bd_some, mx_isAt hpX' rfl hKX1 rfl, bd_some, if_pos hb2, fEq (by omega), mx_tell hpX' rfl rfl, bd_some, ix_t (by omega), nat2 rfl, hv96]
      exact ⟨C1, X1, e.2, rfl, rfl, hfin⟩
    · have hisC : f_X4_isEntry (W m) (ea.length : Int) 0 C1 = some (C1, 0) := by
        cases eb with
        | nil =>
          rw [List.append_nil] at hpC'
          exact sp_isEntry_end hpC' rfl
        | cons e b' => rw [sp_isEntry hpC' hKC1 rfl, if_neg (heb e rfl).2]
      have hisX : f_X8_isAt ((W m : Nat) : Int) (ea.length : Int) X1 = some (X1, 0) := by
        cases eb with
        | nil =>
          rw [List.append_nil] at hpX'
          exact mx_isAt_end hpX' rfl rfl
        | cons e b' => rw [mx_isAt hpX' rfl hKX1 rfl, if_neg (heb e rfl).2]
      rw [hisC, bd_some, tEq (by omega), hisX, bd_some, tEq (by omega)]
      exact ⟨C1, X1, -9, rfl, rfl, hfin⟩
  · rw [g1, g2, bd_some, bd_some, tEq (by omega), tEq (by omega)]
    exact ⟨C, X, -1, rfl, rfl, h⟩
theorem ag_path (h : Inv C X) (ha : R32 a) (hb : R32 b) (hc : R32 c) : Agree Inv (f_X7_path a b c C) (f_X8_path a b c X) := by
  simp only [R32] at hc
  unfold f_X7_path f_X8_path
  rcases both_spelled (C := C) (X := X) ha hb with ⟨g1, g2, g3⟩ | ⟨g1, g2⟩
  · rw [g1, g2, bd_some, bd_some, fEq (by omega), fEq (by omega)]
    by_cases hc0 : c < 0
    · rw [tLt (by omega), tLt (by omega)]
      exact ⟨C, X, -1, rfl, rfl, h⟩
    · rw [fLt (a := c) (b := 0) (by omega), fLt (a := c) (b := 0) (by omega)]
      obtain ⟨X0, k1, k2, k3, k4, k5, k6, k7, k8, k9⟩ := both_key g3 h
      generalize spl b.toNat a = w at *
      obtain ⟨P, root, L, d1, d2, d3, r1, r2, V, lvl, hg⟩ := k6
      obtain ⟨C1, X1, W, T, As, Bs, ss, m, hm, hd, hpth, hcp, hi32, hi1, f1, hRC1, hWC, hKC1, hkc, x1, hRX1, hWX, hKX1, hkx⟩ := both_down hg r1 r2 k3 (by omega) k4
      have hfin : Inv C1 X1 := Inv_kp k9 ⟨P, root, L, d1, d2, d3, hRC1, hRX1, V, lvl, hg⟩ hkc hkx
      have hL32 := hg.2.2.2.2.1
      have hCL : C 1 5 = (L : Int) := by have := r1.2.2.1; rw [stK_o (by omega) (by omega)] at this; exact this
      rw [k2, bd_some, x1, bd_some, hCL, hRX1.2.2.1]
      by_cases hcl : c < (L : Int)
      · rw [tLt (by omega), tLt (by omega), k1, bd_some, f1, bd_some, ix_t (by omega)]
        unfold f_X6_numberOn
        rw [fLt (by omega), tLt (by omega), ix_t (by omega), bd_some, hWC.1 _ (by omega), hWX.1 _ (by omega)]
        exact ⟨C1, X1, _, rfl, rfl, hfin⟩
      · rw [fLt (by omega), fLt (by omega)]
        refine ⟨C, X1, -9, rfl, rfl, ?_⟩
        obtain ⟨P0, root0, L0, e1, e2, e3, q1, q2, q3⟩ := h.1
        refine Inv_kp h ?_ KpC_refl (KpX_tr k8 hkx)
        refine ⟨P, root, L, d1, d2, d3, ⟨?_, ?_, hCL, ?_, ?_, ?_⟩, hRX1, V, lvl, hg⟩
        · exact TC_fr r1.1 (fun x y hx => (stK_o (by omega) (by omega)).symm)
        · have := r1.2.1; rw [stK_o (by omega) (by omega)] at this; exact this
        · have := r1.2.2.2.1; rw [stK_o (by omega) (by omega)] at this; exact this
        · have := r1.2.2.2.2.1; rw [stK_o (by omega) (by omega)] at this; exact this
        · have := r1.2.2.2.2.2; rw [stK_o (by omega) (by omega)] at this; exact this
  · rw [g1, g2, bd_some, bd_some, tEq (by omega), tEq (by omega)]
    exact ⟨C, X, -1, rfl, rfl, h⟩
end IV
end
section
/-! CALLS: load, type, clear, times, page, byteAt, digest. -/
section SI
variable {C C' X X' : Mem} {P P' : Nat → Pg} {c1 c2 c3 a b c z : Int} {n k root L : Nat} {w : List Int}
theorem ag_load (h : Inv C X) (ha : R32 a) (hb : R32 b) (hc : R32 c) : Agree Inv (f_X7_load a b c C) (f_X8_load a b c X) := by
  unfold f_X7_load f_X8_load f_X8_isLoad
  rw [sp_within ha (by simp only [R32]; omega) (by simp only [R32]; omega), mx_within ha (by simp only [R32]; omega) (by simp only [R32]; omega), bd_some, bd_some, cEq_b, cEq_b]
  by_cases h1 : 0 ≤ a ∧ a ≤ 17575
  · rw [if_pos h1, if_pos h1, sp_within hb (by simp only [R32]; omega) (by simp only [R32]; omega), mx_within hb (by simp only [R32]; omega) (by simp only [R32]; omega), bd_some, bd_some, cEq_b, cEq_b]
    by_cases h2 : 1 ≤ b ∧ b ≤ 99
    · rw [if_pos h2, if_pos h2, sp_within hc (by simp only [R32]; omega) (by simp only [R32]; omega), mx_within hc (by simp only [R32]; omega) (by simp only [R32]; omega), bd_some, bd_some, cEq_b, cEq_b]
      by_cases h3 : 1 ≤ c ∧ c ≤ 60
      · rw [if_pos h3, if_pos h3]
        have hm1 : 0 ≤ b * (c - 1) := Int.mul_nonneg (by omega) (by omega)
        have hm2 : b * (c - 1) ≤ 99 * (c - 1) := Int.mul_le_mul_of_nonneg_right h2.2 (by omega)
        unfold f_X7_endsInTime
        by_cases h4 : 17575 < a + b * (c - 1)
        · rw [tLt (by omega), tLt (by omega), bd_some, bd_some, tEq (by omega), tEq (by omega)]
          exact ⟨C, X, -1, rfl, rfl, h⟩
        · rw [fLt (by omega), fLt (by omega), bd_some, bd_some, fEq (by omega), fEq (by omega)]
          obtain ⟨P, root, L, d1, d2, d3, r1, r2, r3⟩ := h.1
          have hc2 : c = ((c.toNat : Nat) : Int) := by omega
          have hok : LdOk a b c.toNat := ⟨h1.1, h2.1, h2.2, by omega, by omega, by rw [← hc2]; omega⟩
          obtain ⟨C', X', P', root', L', q1, q2, q3, q4, q5, q6, q7, q8, q9⟩ := ld_all hok r1 r2
          rw [← hc2] at q1 q2
          rw [q1, q2, bd_some, bd_some, q5.2.2.1]
          exact ⟨C', X', _, rfl, rfl, Inv_kp h ⟨P', root', L', d1, d2, d3, q5, q6, q7⟩ q8 q9⟩
      · rw [if_neg h3, if_neg h3, bd_some, tEq (by omega)]
        exact ⟨C, X, -1, rfl, rfl, h⟩
    · rw [if_neg h2, if_neg h2, bd_some, tEq (by omega)]
      exact ⟨C, X, -1, rfl, rfl, h⟩
  · rw [if_neg h1, if_neg h1, bd_some, tEq (by omega)]
    exact ⟨C, X, -1, rfl, rfl, h⟩
theorem ag_type (h : Inv C X) (ha : R32 a) : Agree Inv (f_X7_type a C) (f_X8_type a X) := by
  unfold f_X7_type f_X8_type f_X5_add
  rw [sp_isByte ha, mx_within ha (by simp only [R32]; omega) (by simp only [R32]; omega), bd_some, bd_some, cEq_b, cEq_b]
  by_cases h1 : 0 ≤ a ∧ a ≤ 255
  · rw [if_pos h1, if_pos h1]
    obtain ⟨n, n1, n2, n3, n4⟩ := h.2.1
    rw [n2, n3, fLt (by omega)]
    by_cases h2 : n = 120
    · subst h2
      rw [fLt (by omega), bd_some, tEq (by omega), tEq (by omega)]
      exact ⟨C, X, -3, rfl, rfl, h⟩
    · rw [tLt (by omega), ix_t (by omega), bd_some, fEq (by omega), fEq (by omega), ix_t (by omega), nat2 rfl, up_same, up_k (by omega), n2, up_k (by omega), n3, up_same]
      refine ⟨_, _, (n : Int) + 1, rfl, rfl, ?_, ?_, ?_, ?_⟩
      · exact Tree_kp h.1 (fun x y hx => by rw [up_k (by omega), up_k (by omega)]) (fun x y hx => by rw [up_ap, if_neg (by omega), up_k (by omega)])
      · refine ⟨n + 1, by omega, by rw [up_same]; omega, by rw [up_same]; omega, ?_⟩
        intro j hj
        rw [up_k (k := 4) (by omega), up_k (k := 95) (by omega)]
        by_cases hjn : j = n
        · subst hjn; rw [up_same, up_same]; exact ⟨rfl, h1⟩
        · rw [up_j hjn, up_j hjn]; exact n4 j (by omega)
      · exact Img_kp (by omega) h.2.2.1 (C := C) (X := X) (C' := up (up C 25 n a) 4 1 ((n : Int) + 1)) (X' := up (up X 113 n a) 95 30 ((n : Int) + 1)) |> fun hh => by
          rcases h.2.2.1 with ⟨q1, q2⟩ | ⟨q1, P, root, L, g1, g2, g3, g4, g5, g6, g7⟩
          · exact Or.inl ⟨by rw [up_k (by omega), up_k (by omega)]; exact q1, by rw [up_k (by omega), up_k (by omega)]; exact q2⟩
          · exact Or.inr ⟨by rw [up_k (by omega), up_k (by omega)]; exact q1, P, root, L, g1, by rw [up_k (by omega), up_k (by omega)]; exact g2, by rw [up_k (by omega), up_k (by omega)]; exact g3, by rw [up_k (by omega), up_k (by omega)]; exact g4, by rw [up_k (by omega), up_k (by omega)]; exact g5, fun i hi j hj => by rw [up_k (by omega), up_k (by omega)]; exact g6 i hi j hj, fun i hi j hj => by rw [up_k (by omega), up_k (by omega)]; exact g7 i hi j hj⟩
      · rcases h.2.2.2 with ⟨q1, q2⟩ | ⟨q1, P, root, L, g1, g2, g3, g4, g5, g6, g7⟩
        · exact Or.inl ⟨by rw [up_k (by omega), up_k (by omega)]; exact q1, by rw [up_k (by omega), up_k (by omega)]; exact q2⟩
        · exact Or.inr ⟨by rw [up_k (by omega), up_k (by omega)]; exact q1, P, root, L, g1, by rw [up_k (by omega), up_k (by omega)]; exact g2, by rw [up_k (by omega), up_k (by omega)]; exact g3, by rw [up_k (by omega), up_k (by omega)]; exact g4, by rw [up_k (by omega), up_k (by omega)]; exact g5, fun i hi j hj => by rw [up_k (by omega), up_k (by omega)]; exact g6 i hi j hj, fun i hi j hj => by rw [up_k (by omega), up_k (by omega)]; exact g7 i hi j hj⟩
  · rw [if_neg h1, if_neg h1]
    exact ⟨C, X, -1, rfl, rfl, h⟩
/-- the text is emptied -/
theorem Inv_clear (h : Inv C X) : Inv (up C 4 1 0) (up X 95 30 0) := by
  refine ⟨Tree_kp h.1 (fun x y hx => up_k (by omega)) (fun x y hx => by rw [up_ap, if_neg (by omega)]), ⟨0, by omega, by rw [up_same]; rfl, by rw [up_same]; rfl, fun j hj => by omega⟩, ?_, ?_⟩
  · rcases h.2.2.1 with ⟨q1, q2⟩ | ⟨q1, P, root, L, g1, g2, g3, g4, g5, g6, g7⟩
    · exact Or.inl ⟨by rw [up_k (by omega)]; exact q1, by rw [up_k (by omega)]; exact q2⟩
    · exact Or.inr ⟨by rw [up_k (by omega)]; exact q1, P, root, L, g1, by rw [up_k (by omega)]; exact g2, by rw [up_k (by omega)]; exact g3, by rw [up_k (by omega)]; exact g4, by rw [up_k (by omega)]; exact g5, fun i hi j hj => by rw [up_k (by omega)]; exact g6 i hi j hj, fun i hi j hj => by rw [up_k (by omega)]; exact g7 i hi j hj⟩
  · rcases h.2.2.2 with ⟨q1, q2⟩ | ⟨q1, P, root, L, g1, g2, g3, g4, g5, g6, g7⟩
    · exact Or.inl ⟨by rw [up_k (by omega)]; exact q1, by rw [up_k (by omega)]; exact q2⟩
    · exact Or.inr ⟨by rw [up_k (by omega)]; exact q1, P, root, L, g1, by rw [up_k (by omega)]; exact g2, by rw [up_k (by omega)]; exact g3, by rw [up_k (by omega)]; exact g4, by rw [up_k (by omega)]; exact g5, fun i hi j hj => by rw [up_k (by omega)]; exact g6 i hi j hj, fun i hi j hj => by rw [up_k (by omega)]; exact g7 i hi j hj⟩
theorem ag_clear (h : Inv C X) : Agree Inv (f_X7_clear C) (f_X8_clear X) := by
  unfold f_X7_clear f_X8_clear
  obtain ⟨n, n1, n2, n3, n4⟩ := h.2.1
  rw [n2, n3]
  exact ⟨_, _, _, rfl, rfl, Inv_clear h⟩
theorem ag_times (h : Inv C X) (ha : R32 a) : Agree Inv (f_X7_times a C) (f_X8_times a X) := by
  have ha' := ha
  simp only [R32] at ha'
  unfold f_X7_times f_X8_times
  rw [mx_within ha (by simp only [R32]; omega) (by simp only [R32]; omega), bd_some, cEq_b]
  obtain ⟨n, n1, n2, n3, n4⟩ := h.2.1
  obtain ⟨P, root, L, d1, d2, d3, r1, r2, r3⟩ := h.1
  by_cases h0 : a = 0
  · subst h0
    rw [tEq (by omega), if_pos (by omega), tEq (by omega), n2, n3]
    exact ⟨C, X, _, rfl, rfl, h⟩
  · by_cases h1 : a = 1
    · subst h1
      rw [fEq (by omega), tEq (by omega), if_pos (by omega), fEq (by omega), tEq (by omega), r1.2.2.2.1, r2.2.2.2.1]
      exact ⟨C, X, _, rfl, rfl, h⟩
    · by_cases h2 : a = 2
      · subst h2
        rw [fEq (by omega), fEq (by omega), tEq (by omega), if_pos (by omega), fEq (by omega), fEq (by omega), tEq (by omega), r1.2.2.2.2.1, r2.2.2.2.2.1]
        exact ⟨C, X, _, rfl, rfl, h⟩
      · by_cases h3 : a = 3
        · subst h3
          rw [fEq (by omega), fEq (by omega), fEq (by omega), tEq (by omega), if_pos (by omega), fEq (by omega), fEq (by omega), fEq (by omega), r1.2.2.2.2.2, r2.2.2.2.2.2]
          exact ⟨C, X, _, rfl, rfl, h⟩
        · rw [fEq (by omega), fEq (by omega), fEq (by omega), fEq (by omega), if_neg (by omega)]
          exact ⟨C, X, _, rfl, rfl, h⟩
theorem sp_isPage (ha : R32 a) : f_X7_isPage a C = some (C, if 0 ≤ a ∧ a ≤ 31 then 1 else 0) := by
  unfold f_X7_isPage
  rw [sp_within ha (by simp only [R32]; omega) (by simp only [R32]; omega), bd_some, bo_b]
theorem mx_isPage (ha : R32 a) : f_X8_isPage a X = some (X, if 0 ≤ a ∧ a ≤ 31 then 1 else 0) := by
  unfold f_X8_isPage
  rw [mx_within ha (by simp only [R32]; omega) (by simp only [R32]; omega), bd_some, bo_b]
/-- used, on both sides -/
theorem both_used (ho : TOk P) (hC : TC C P) (hX : TX X P) {i : Nat} (hi : i < 32) {p : Int} (hp : p = (i : Int)) : ∃ u : Int, 0 ≤ u ∧ u ≤ 64 ∧ f_X4_used i C = some (C, u) ∧ f_X8_usedOf p X = some (X, u) := by
  have hpC := TC_pg ho hC hi
  have hpX := TX_pg ho hX hi
  by_cases h0 : (P i).1 = 0
  · rw [h0] at hpC hpX
    exact ⟨0, by omega, by omega, sp_used0 hpC, mx_used0 hpX hp⟩
  · have := (ho i hi).2.1
    exact ⟨((3 + szs (P i).2.2 : Nat) : Int), by omega, by omega, sp_used hpC h0, mx_used hpX hp h0⟩
theorem ag_page (h : Inv C X) (ha : R32 a) (hb : R32 b) : Agree Inv (f_X7_page a b C) (f_X8_page a b X) := by
  have hb' := hb
  simp only [R32] at hb'
  unfold f_X7_page f_X8_page
  rw [sp_isPage ha, mx_isPage ha, bd_some, bd_some, cEq_b, cEq_b]
  by_cases h1 : 0 ≤ a ∧ a ≤ 31
  · rw [if_pos h1, if_pos h1, mx_within hb (by simp only [R32]; omega) (by simp only [R32]; omega), bd_some, cEq_b]
    obtain ⟨P, root, L, d1, d2, d3, r1, r2, V, lvl, hg⟩ := h.1
    have ho := hg.1.1
    have hai : a = ((a.toNat : Nat) : Int) := by omega
    have hpC := TC_pg ho r1.1 (show a.toNat < 32 by omega)
    have hpX := TX_pg ho r2.1 (show a.toNat < 32 by omega)
    obtain ⟨u, u1, u2, u3, u4⟩ := both_used ho r1.1 r2.1 (show a.toNat < 32 by omega) hai
    rw [sp_pageOf hai (by omega), bd_some]
    by_cases h0 : b = 0
    · subst h0
      rw [tEq (by omega), sp_sort hpC, bd_some, if_pos (by omega), tLt (by omega), mx_0 hpX hai, bd_some]
      exact ⟨C, X, _, rfl, rfl, h⟩
    · by_cases h1 : b = 1
      · subst h1
        rw [fEq (by omega), tEq (by omega), sp_entries hpC, bd_some, if_pos (by omega), tLt (by omega), mx_1 hpX hai, bd_some]
        exact ⟨C, X, _, rfl, rfl, h⟩
      · by_cases h2 : b = 2
        · subst h2
          rw [fEq (by omega), fEq (by omega), tEq (by omega), sp_link hpC, bd_some, if_pos (by omega), tLt (by omega), mx_2 hpX hai, bd_some]
          exact ⟨C, X, _, rfl, rfl, h⟩
        · by_cases h3 : b = 3
          · subst h3
            rw [fEq (by omega), fEq (by omega), fEq (by omega), tEq (by omega), u3, bd_some, if_pos (by omega), fLt (by omega), u4, bd_some]
            exact ⟨C, X, _, rfl, rfl, h⟩
          · rw [fEq (by omega), fEq (by omega), fEq (by omega), fEq (by omega), if_neg (by omega)]
            exact ⟨C, X, _, rfl, rfl, h⟩
  · rw [if_neg h1, if_neg h1]
    exact ⟨C, X, -1, rfl, rfl, h⟩
theorem ag_byteAt (h : Inv C X) (ha : R32 a) (hb : R32 b) : Agree Inv (f_X7_byteAt a b C) (f_X8_byteAt a b X) := by
  unfold f_X7_byteAt f_X8_byteAt
  rw [sp_isPage ha, mx_isPage ha, bd_some, bd_some, cEq_b, cEq_b]
  by_cases h1 : 0 ≤ a ∧ a ≤ 31
  · rw [if_pos h1, if_pos h1, sp_within hb (by simp only [R32]; omega) (by simp only [R32]; omega), mx_within hb (by simp only [R32]; omega) (by simp only [R32]; omega), bd_some, bd_some, cEq_b, cEq_b]
    by_cases h2 : 0 ≤ b ∧ b ≤ 63
    · obtain ⟨P, root, L, d1, d2, d3, r1, r2, V, lvl, hg⟩ := h.1
      have ho := hg.1.1
      have hai : a = ((a.toNat : Nat) : Int) := by omega
      have hpC := TC_pg ho r1.1 (show a.toNat < 32 by omega)
      have hpX := TX_pg ho r2.1 (show a.toNat < 32 by omega)
      rw [if_pos h2, if_pos h2, sp_pageOf hai (by omega), bd_some, sp_at hpC (by omega) (by omega), bd_some, mx_at hpX hai (by omega), bd_some]
      exact ⟨C, X, _, rfl, rfl, h⟩
    · rw [if_neg h2, if_neg h2]
      exact ⟨C, X, -1, rfl, rfl, h⟩
  · rw [if_neg h1, if_neg h1]
    exact ⟨C, X, -1, rfl, rfl, h⟩
/-- the digest of bytes one behind the other -/
def dg (g : Nat → Int) : Nat → Int
  | 0 => 17
  | n + 1 => 31 * dg g n + g n
def fb (P : Nat → Pg) (k : Nat) : Int := eP (P (k / 64)) (k % 64)
theorem lp_dg25 {K : Int → Int → Mem → Option (Mem × Int)} {u3 : Int} (ho : TOk P) (hC : TC C P) {i : Nat} (hi : i < 32) : ∀ (m n : Nat) (v1 v5 : Int), m ≤ 64 → v1 = dg (fb P) (64 * i + (64 - m)) → v5 = ((64 - m : Nat) : Int) → m < n → f_X7_digest_25 u3 i K n v1 v5 C = K (dg (fb P) (64 * (i + 1))) 64 C
  | _, 0 => by intros; omega
  | 0, n + 1 => by
    intro v1 v5 _ h1 h5 _
    unfold f_X7_digest_25
    rw [fLt (by omega), h1, h5, show 64 * i + (64 - 0) = 64 * (i + 1) by omega]
    rfl
  | m + 1, n + 1 => by
    intro v1 v5 hm h1 h5 hn
    have hp := TC_pg ho hC hi
    have hr := enc_rng (j := 64 - (m + 1)) hp.2.1 hp.2.2.2.1 hp.2.2.2.2 (PgC_len hp).1
    have hb : enc (P i).1 (P i).2.1 (P i).2.2 (64 - (m + 1)) = fb P (64 * i + (64 - (m + 1))) := by
      unfold fb eP
      rw [show (64 * i + (64 - (m + 1))) / 64 = i by omega, show (64 * i + (64 - (m + 1))) % 64 = 64 - (m + 1) by omega]
    have ih := lp_dg25 (K := K) (u3 := u3) ho hC hi m n (31 * v1 + enc (P i).1 (P i).2.1 (P i).2.2 (64 - (m + 1))) (v5 + 1) (by omega) (by rw [hb, h1, show 64 * i + (64 - m) = 64 * i + (64 - (m + 1)) + 1 by omega]; rfl) (by omega) (by omega)
    unfold f_X7_digest_25
    rw [tLt (by omega), sp_at hp (by omega) (by omega), bd_some, nat2 h5, rg_t (by simp only [R32]; omega)]
    exact ih
theorem lp_dg6 {K : Int → Int → Mem → Option (Mem × Int)} (ho : TOk P) (hC : TC C P) : ∀ (m n : Nat) (v1 v3 : Int), m ≤ 32 → v1 = dg (fb P) (64 * (32 - m)) → v3 = ((32 - m : Nat) : Int) → m < n → f_X7_digest_6 K n v1 v3 C = K (dg (fb P) 2048) 32 C
  | _, 0 => by intros; omega
  | 0, n + 1 => by
    intro v1 v3 _ h1 h3 _
    unfold f_X7_digest_6
    rw [fLt (by omega), h1, h3]
    rfl
  | m + 1, n + 1 => by
    intro v1 v3 hm h1 h3 hn
    have hfu := FU_eq
    have q := lp_dg25 (K := (fun (v1_e25 : Int) (v5_e25 : Int) (C_e25 : Mem) => (f_X7_digest_6 K n (v1_e25) (v3 + 1) C_e25))) (u3 := v3) ho hC (show 32 - (m + 1) < 32 by omega) 64 FU v1 0 (by omega) (by rw [h1]; rfl) rfl (by omega)
    unfold f_X7_digest_6
    rw [tLt (by omega), sp_pageOf h3 (by omega), bd_some, q]
    exact lp_dg6 ho hC m n _ _ (by omega) (by rw [show 32 - (m + 1) + 1 = 32 - m by omega]) (by omega) (by omega)
theorem lm_dg {K : Int → Int → Mem → Option (Mem × Int)} (ho : TOk P) (hX : TX X P) : ∀ (m n : Nat) (v1 v3 : Int), m ≤ 2048 → v1 = dg (fb P) (2048 - m) → v3 = ((2048 - m : Nat) : Int) → m < n → f_X8_digest_6 K n v1 v3 X = K (dg (fb P) 2048) 2048 X
  | _, 0 => by intros; omega
  | 0, n + 1 => by
    intro v1 v3 _ h1 h3 _
    unfold f_X8_digest_6
    rw [fLt (by omega), h1, h3]
    rfl
  | m + 1, n + 1 => by
    intro v1 v3 hm h1 h3 hn
    have hp := TX_pg ho hX (show (2048 - (m + 1)) / 64 < 32 by omega)
    have hr := enc_rng (j := (2048 - (m + 1)) % 64) hp.2.1 hp.2.2.2.1 hp.2.2.2.2.1 (by have := hp.2.2.1; omega)
    have hb : X 96 (2048 - (m + 1)) = fb P (2048 - (m + 1)) := by
      have := hX ((2048 - (m + 1)) / 64) (by omega) ((2048 - (m + 1)) % 64) (by omega)
      rw [show 64 * ((2048 - (m + 1)) / 64) + (2048 - (m + 1)) % 64 = 2048 - (m + 1) by omega] at this
      exact this
    have hr2 : 0 ≤ fb P (2048 - (m + 1)) ∧ fb P (2048 - (m + 1)) ≤ 255 := hr
    unfold f_X8_digest_6
    rw [tLt (by omega), ix_t (by omega), nat2 h3, hb, rg_t (by simp only [R32]; omega)]
    exact lm_dg ho hX m n _ _ (by omega) (by rw [show 2048 - m = 2048 - (m + 1) + 1 by omega, h1]; rfl) (by omega) (by omega)
theorem ag_digest (h : Inv C X) : Agree Inv (f_X7_digest C) (f_X8_digest X) := by
  have hfu := FU_eq
  obtain ⟨P, root, L, d1, d2, d3, r1, r2, V, lvl, hg⟩ := h.1
  unfold f_X7_digest f_X8_digest
  rw [lp_dg6 hg.1.1 r1.1 32 FU 17 0 (by omega) rfl rfl (by omega), lm_dg hg.1.1 r2.1 2048 FU 17 0 (by omega) rfl rfl (by omega)]
  exact ⟨C, X, _, rfl, rfl, h⟩
end SI
end
section
/-! LEAVES in their order, and all pages. -/
def sm (f : Nat → Int) : Nat → Int
  | 0 => 0
  | n + 1 => sm f n + f n
def ls (g : Nat → Int) : List Ent → Int
  | [] => 0
  | e :: r => g e.2.toNat + ls g r
/-- the first of a row of leaves; none -/
def hdp : List Ent → Int
  | [] => -9
  | e :: _ => e.2
section CN
variable {C C' X X' : Mem} {P P' : Nat → Pg} {c1 c2 c3 a b c z : Int} {n k root L : Nat} {w : List Int} {V : Nat → List Ent} {lvl : Nat → Nat} {g f f' : Nat → Int} {es : List Ent}
theorem sm_c : ∀ n, (∀ i, i < n → f i = f' i) → sm f n = sm f' n
  | 0, _ => rfl
  | n + 1, h => by
    unfold sm
    rw [sm_c n (fun i hi => h i (by omega)), h n (by omega)]
theorem sm_add : ∀ n, sm (fun i => f i + g i) n = sm f n + sm g n
  | 0 => rfl
  | n + 1 => by
    unfold sm
    rw [sm_add n]
    omega
theorem sm_zero : ∀ n, sm (fun _ => 0) n = 0
  | 0 => rfl
  | n + 1 => by unfold sm; rw [sm_zero n]; rfl
theorem sm_one {x : Nat} : ∀ n, sm (fun i => if i = x then g i else 0) n = if x < n then g x else 0
  | 0 => by unfold sm; rw [if_neg (by omega)]
  | n + 1 => by
    unfold sm
    rw [sm_one n]
    by_cases h : x = n
    · subst h
      rw [if_neg (by omega), if_pos rfl, if_pos (by omega)]
      omega
    · rw [if_neg (show ¬ n = x by omega)]
      by_cases h2 : x < n
      · rw [if_pos h2, if_pos (by omega)]; omega
      · rw [if_neg h2, if_neg (by omega)]; rfl
/-- a row of different pages, summed either way -/
theorem sm_ls : ∀ R : List Ent, (R.map Prod.snd).Nodup → (∀ e ∈ R, ∃ i : Nat, e.2 = (i : Int) ∧ i < 32) → sm (fun i => if (i : Int) ∈ R.map Prod.snd then g i else 0) 32 = ls g R
  | [], _, _ => by
    rw [sm_c (f' := fun _ => 0) 32 (fun i _ => by simp), sm_zero]
    rfl
  | e :: r, hn, hr => by
    rw [List.map_cons, List.nodup_cons] at hn
    obtain ⟨x, x1, x2⟩ := hr e (List.mem_cons_self ..)
    have ih := sm_ls r hn.2 (fun f hf => hr f (List.mem_cons_of_mem _ hf))
    have e1 : sm (fun i => if (i : Int) ∈ (e :: r).map Prod.snd then g i else 0) 32 = sm (fun i => (if i = x then g i else 0) + (if (i : Int) ∈ r.map Prod.snd then g i else 0)) 32 := by
      refine sm_c 32 (fun i _ => ?_)
      by_cases hix : i = x
      · subst hix
        have h1 : (i : Int) ∈ (e :: r).map Prod.snd := by rw [List.map_cons, x1]; exact List.mem_cons_self ..
        have h2 : ¬ (i : Int) ∈ r.map Prod.snd := by rw [← x1]; exact hn.1
        rw [if_pos h1, if_pos rfl, if_neg h2]
        omega
      · rw [if_neg hix]
        have h1 : (i : Int) ∈ (e :: r).map Prod.snd ↔ (i : Int) ∈ r.map Prod.snd := by
          rw [List.map_cons, List.mem_cons, x1]
          constructor
          · rintro (h | h)
            · omega
            · exact h
          · exact Or.inr
        by_cases h2 : (i : Int) ∈ r.map Prod.snd
        · rw [if_pos h2, if_pos (h1.mpr h2)]; omega
        · rw [if_neg h2, if_neg (fun q => h2 (h1.mp q))]; rfl
    rw [e1, sm_add, sm_one, if_pos x2, ih]
    show _ = g e.2.toNat + ls g r
    rw [x1]
    rfl
theorem leaf_mem (h : Core P L V lvl) (hL : 1 ≤ L) {i : Nat} (hi : i < 32) : (P i).1 = 1 ↔ (i : Int) ∈ (V (L - 1)).map Prod.snd := by
  constructor
  · intro h1
    by_cases hn : ∀ n, n < L → ∀ e ∈ V n, e.2 ≠ (i : Int)
    · have := h.2.2.2.1 i hi hn
      rw [this] at h1
      exact absurd h1 (by show ¬ (0 : Int) = 1; omega)
    · have : ∃ n, n < L ∧ ∃ e ∈ V n, e.2 = (i : Int) := by
        by_cases hh : ∃ n, n < L ∧ ∃ e ∈ V n, e.2 = (i : Int)
        · exact hh
        · exact absurd (fun n hn e he heq => hh ⟨n, hn, e, he, heq⟩) hn
      obtain ⟨n, hnL, e, he, hei⟩ := this
      obtain ⟨j, q1, q2, q3, q4⟩ := h.2.1 n hnL e he
      have : j = i := by omega
      subst this
      rw [h1] at q4
      by_cases hl : n + 1 = L
      · rw [show L - 1 = n by omega]
        exact List.mem_map.mpr ⟨e, he, hei⟩
      · rw [if_neg hl] at q4; omega
  · intro hm
    obtain ⟨e, he, hei⟩ := List.mem_map.mp hm
    obtain ⟨j, q1, q2, q3, q4⟩ := h.2.1 (L - 1) (by omega) e he
    have hei : e.2 = (i : Int) := hei
    have : j = i := by omega
    subst this
    rw [q4, if_pos (by omega)]
theorem leaf_sum (h : Core P L V lvl) (hL : 1 ≤ L) : sm (fun i => if (P i).1 = 1 then g i else 0) 32 = ls g (V (L - 1)) := by
  rw [← sm_ls (g := g) (V (L - 1)) (h.2.2.1 _ (by omega)) (fun e he => by obtain ⟨i, q1, q2, _⟩ := h.2.1 (L - 1) (by omega) e he; exact ⟨i, q1, q2⟩)]
  refine sm_c 32 (fun i hi => ?_)
  by_cases h1 : (P i).1 = 1
  · rw [if_pos h1, if_pos ((leaf_mem h hL hi).mp h1)]
  · rw [if_neg h1, if_neg (fun q => h1 ((leaf_mem h hL hi).mpr q))]
theorem ls_one : ∀ R : List Ent, ls (fun _ => 1) R = (R.length : Int)
  | [] => rfl
  | e :: r => by unfold ls; rw [ls_one r]; simp; omega
theorem sm_le : ∀ n, (∀ i, i < n → f i ≤ 1) → sm f n ≤ (n : Int)
  | 0, _ => by simp [sm]
  | n + 1, h => by
    have := sm_le n (fun i hi => h i (by omega))
    have := h n (by omega)
    unfold sm
    omega
theorem leaf_many (h : Core P L V lvl) (hL : 1 ≤ L) : (V (L - 1)).length ≤ 32 := by
  have h1 := leaf_sum (g := fun _ => 1) h hL
  rw [ls_one] at h1
  have h2 := sm_le (f := fun i => if (P i).1 = 1 then 1 else 0) 32 (fun i _ => by split <;> omega)
  rw [h1] at h2
  omega
/-- how many keys: the class -/
theorem lp_keys {K : Int → Int → Mem → Option (Mem × Int)} (ho : TOk P) (hT : TC C P) : ∀ (m n : Nat) (v1 v2 : Int), m ≤ 32 → v1 = sm (fun i => if (P i).1 = 1 then ((P i).2.2.length : Int) else 0) (32 - m) → v2 = ((32 - m : Nat) : Int) → m < n → f_X6_keys_4 K n v1 v2 C = K (sm (fun i => if (P i).1 = 1 then ((P i).2.2.length : Int) else 0) 32) 32 C
  | _, 0 => by intros; omega
  | 0, n + 1 => by
    intro v1 v2 _ h1 h2 _
    unfold f_X6_keys_4
    rw [fLt (by omega), h1, h2]
    rfl
  | m + 1, n + 1 => by
    intro v1 v2 hm h1 h2 hn
    have hp := TC_pg ho hT (show 32 - (m + 1) < 32 by omega)
    have hsr := (ho (32 - (m + 1)) (by omega)).2.2.1
    have hst : sm (fun i => if (P i).1 = 1 then ((P i).2.2.length : Int) else 0) (32 - m) = sm (fun i => if (P i).1 = 1 then ((P i).2.2.length : Int) else 0) (32 - (m + 1)) + (if (P (32 - (m + 1))).1 = 1 then ((P (32 - (m + 1))).2.2.length : Int) else 0) := by
      rw [show 32 - m = (32 - (m + 1)) + 1 by omega]; rfl
    unfold f_X6_keys_4
    rw [tLt (by omega), sp_pageOf h2 (by omega), bd_some, sp_sort hp, bd_some]
    by_cases h : (P (32 - (m + 1))).1 = 1
    · rw [if_pos h] at hst
      rw [tEq (by omega), sp_pageOf h2 (by omega), bd_some, sp_entries hp, bd_some]
      exact lp_keys ho hT m n _ _ (by omega) (by rw [hst, h1]) (by omega) (by omega)
    · rw [if_neg h] at hst
      rw [fEq (by omega)]
      exact lp_keys ho hT m n _ _ (by omega) (by rw [hst, h1]) (by omega) (by omega)
def nk (P : Nat → Pg) (i : Nat) : Int := ((P i).2.2.length : Int)
theorem sp_keys (hg : Good P root L V lvl) (hT : TC C P) : f_X6_keys C = some (C, ls (nk P) (V (L - 1))) := by
  have hfu := FU_eq
  unfold f_X6_keys
  rw [lp_keys hg.1.1 hT 32 FU 0 0 (by omega) rfl rfl (by omega), ← leaf_sum (g := nk P) hg.1 hg.2.2.2.1]
  rfl
/-- first pages of all levels -/
theorem firsts (hg : Good P root L V lvl) : ∃ F : Nat → Nat, F 0 = root ∧ (∀ n, n < L → F n < 32 ∧ (∃ s r, V n = (s, (F n : Int)) :: r) ∧ (P (F n)).1 = (if n + 1 = L then 1 else 2)) ∧ (∀ n, n + 1 < L → (P (F n)).2.1 = (F (n + 1) : Int)) := by
  obtain ⟨hcore, h0, heq, hL1, hL32, hr, _⟩ := hg
  have hex : ∀ n, n < L → ∃ s r, ∃ i : Nat, V n = (s, (i : Int)) :: r := by
    intro n
    induction n with
    | zero => intro _; exact ⟨[], [], root, h0⟩
    | succ n ih =>
      intro hn
      obtain ⟨s, r, i, q⟩ := ih (by omega)
      have h1 := heq n hn
      rw [q, exp_cons] at h1
      obtain ⟨j, q1, _⟩ := hcore.2.1 (n + 1) hn (s, (P i).2.1) (by rw [h1]; simp)
      refine ⟨s, (P i).2.2 ++ exp P r, j, ?_⟩
      rw [h1]
      have q1 : (P i).2.1 = (j : Int) := q1
      show (s, (P i).2.1) :: _ = _
      rw [q1]
      rfl
  refine ⟨fun n => (hdp (V n)).toNat, ?_, ?_, ?_⟩
  · show (hdp (V 0)).toNat = root
    rw [h0]
    show ((root : Nat) : Int).toNat = root
    omega
  · intro n hn
    obtain ⟨s, r, i, q⟩ := hex n hn
    have e1 : (hdp (V n)).toNat = i := by rw [q]; show ((i : Nat) : Int).toNat = i; omega
    have hs := Core_sort hcore hn (show (s, (i : Int)) ∈ V n by rw [q]; simp)
    show (hdp (V n)).toNat < 32 ∧ (∃ s r, V n = (s, ((hdp (V n)).toNat : Int)) :: r) ∧ (P (hdp (V n)).toNat).1 = _
    rw [e1]
    exact ⟨hs.1, ⟨s, r, q⟩, hs.2.2⟩
  · intro n hn
    obtain ⟨s, r, i, q⟩ := hex n (by omega)
    obtain ⟨s2, r2, i2, q2⟩ := hex (n + 1) hn
    have e1 : (hdp (V n)).toNat = i := by rw [q]; show ((i : Nat) : Int).toNat = i; omega
    have e2 : (hdp (V (n + 1))).toNat = i2 := by rw [q2]; show ((i2 : Nat) : Int).toNat = i2; omega
    have h1 := heq n hn
    rw [q, q2, exp_cons] at h1
    show (P (hdp (V n)).toNat).2.1 = ((hdp (V (n + 1))).toNat : Int)
    rw [e1, e2]
    have := (List.cons.inj h1).1
    exact (congrArg Prod.snd this).symm
theorem lp_first {K : Int → Int → Mem → Option (Mem × Int)} (ho : TOk P) (hT : TC C P) (hL : C 1 5 = (L : Int)) (hL32 : L ≤ 32) {F : Nat → Nat} (hF : ∀ n, n < L → F n < 32) (hF2 : ∀ n, n + 1 < L → (P (F n)).2.1 = (F (n + 1) : Int)) : ∀ (m n : Nat) (v1 v2 : Int), m < L → v1 = (F (L - 1 - m) : Int) → v2 = ((L - m : Nat) : Int) → m < n → f_X6_firstLeaf_7 K n v1 v2 C = K (F (L - 1) : Int) (L : Int) C
  | _, 0 => by intros; omega
  | 0, n + 1 => by
    intro v1 v2 _ h1 h2 _
    unfold f_X6_firstLeaf_7
    rw [hL, fLt (by omega), h1, h2]
    rfl
  | m + 1, n + 1 => by
    intro v1 v2 hm h1 h2 hn
    have hp := TC_pg ho hT (hF (L - 1 - (m + 1)) (by omega))
    unfold f_X6_firstLeaf_7
    rw [hL, tLt (by omega), sp_pageOf h1 (hF _ (by omega)), bd_some, sp_link hp, bd_some, hF2 _ (by omega)]
    exact lp_first ho hT hL hL32 hF hF2 m n _ _ (by omega) (by rw [show L - 1 - (m + 1) + 1 = L - 1 - m by omega]) (by omega) (by omega)
theorem lm_first {K : Int → Mem → Option (Mem × Int)} (ho : TOk P) (hT : TX X P) {F : Nat → Nat} (hF : ∀ n, n < L → F n < 32) (hs : ∀ n, n < L → (P (F n)).1 = (if n + 1 = L then 1 else 2)) (hF2 : ∀ n, n + 1 < L → (P (F n)).2.1 = (F (n + 1) : Int)) : ∀ (m n : Nat) (v1 : Int), m < L → v1 = (F (L - 1 - m) : Int) → m < n → f_X8_firstLeaf_5 K n v1 X = K (F (L - 1) : Int) X
  | _, 0 => by intros; omega
  | 0, n + 1 => by
    intro v1 hm h1 _
    have hp := TX_pg ho hT (hF (L - 1) (by omega))
    have := hs (L - 1) (by omega)
    rw [if_pos (by omega)] at this
    unfold f_X8_firstLeaf_5
    rw [h1, Nat.sub_zero, mx_0 hp rfl, bd_some, fEq (by omega)]
  | m + 1, n + 1 => by
    intro v1 hm h1 hn
    have hp := TX_pg ho hT (hF (L - 1 - (m + 1)) (by omega))
    have := hs (L - 1 - (m + 1)) (by omega)
    rw [if_neg (by omega)] at this
    unfold f_X8_firstLeaf_5
    rw [mx_0 hp h1, bd_some, tEq (by omega), mx_2 hp h1, bd_some, hF2 _ (by omega)]
    exact lm_first ho hT hF hs hF2 m n _ (by omega) (by rw [show L - 1 - (m + 1) + 1 = L - 1 - m by omega]) (by omega)
/-- the first leaf, both -/
theorem both_first (hg : Good P root L V lvl) (hRC : RC C P root L c1 c2 c3) (hRX : RX X P root L c1 c2 c3) : ∃ q : Nat, q < 32 ∧ hdp (V (L - 1)) = (q : Int) ∧ f_X6_firstLeaf C = some (C, (q : Int)) ∧ f_X8_firstLeaf X = some (X, (q : Int)) := by
  have hfu := FU_eq
  obtain ⟨F, f0, f1, f2⟩ := firsts hg
  obtain ⟨hcore, h0, heq, hL1, hL32, hr, _⟩ := hg
  refine ⟨F (L - 1), (f1 (L - 1) (by omega)).1, ?_, ?_, ?_⟩
  · obtain ⟨s, r, q⟩ := (f1 (L - 1) (by omega)).2.1
    rw [q]; rfl
  · unfold f_X6_firstLeaf
    rw [lp_first hcore.1 hRC.1 hRC.2.2.1 hL32 (fun n hn => (f1 n hn).1) f2 (L - 1) FU _ _ (by omega) (by rw [hRC.2.1, show L - 1 - (L - 1) = 0 by omega, f0]) (by omega) (by omega)]
  · unfold f_X8_firstLeaf
    rw [lm_first hcore.1 hRX.1 (fun n hn => (f1 n hn).1) (fun n hn => (f1 n hn).2.2) f2 (L - 1) FU _ (by omega) (by rw [hRX.2.1, show L - 1 - (L - 1) = 0 by omega, f0]) (by omega)]
/-- the leaf behind one -/
theorem mx_nextL (ho : TOk P) (hT : TX X P) {e : Ent} {r : List Ent} (hl : LkTo P (e :: r) 0) {i : Nat} (hi : e.2 = (i : Int)) (hi32 : i < 32) (hr : ∀ f ∈ r, 0 ≤ f.2 ∧ f.2 < 32) {p : Int} (hp : p = (i : Int)) : f_X8_nextLeaf p X = some (X, hdp r) := by
  have hpg := TX_pg ho hT hi32
  have hl1 : (P i).2.1 = nxx r 0 := by
    have := hl.1
    rw [hi] at this
    exact this
  unfold f_X8_nextLeaf
  rw [mx_2 hpg hp, bd_some, hl1]
  cases r with
  | nil =>
    show cEq 0 0 _ _ = _
    rw [tEq (by omega)]
    rfl
  | cons f r =>
    have := hr f (List.mem_cons_self ..)
    show cEq (f.2 + 1) 0 _ _ = _
    rw [fEq (by omega), mx_2 hpg hp, bd_some, hl1]
    show some (X, f.2 + 1 - 1) = some (X, f.2)
    rw [show f.2 + 1 - 1 = f.2 by omega]
theorem lm_keys {K : Int → Int → Mem → Option (Mem × Int)} (ho : TOk P) (hT : TX X P) : ∀ (R : List Ent) (n : Nat) (v1 v2 : Int), LkTo P R 0 → (∀ e ∈ R, ∃ i : Nat, e.2 = (i : Int) ∧ i < 32) → v2 = hdp R → R.length < n → f_X8_keys_7 K n v1 v2 X = K (v1 + ls (nk P) R) (-9) X
  | _, 0 => by intros; omega
  | [], n + 1 => by
    intro v1 v2 _ _ h2 _
    have h2 : v2 = -9 := h2
    unfold f_X8_keys_7
    rw [tEq (by omega), h2]
    show K v1 (-9) X = K (v1 + 0) (-9) X
    rw [Int.add_zero]
  | e :: r, n + 1 => by
    intro v1 v2 hl hr h2 hn
    obtain ⟨i, i1, i2⟩ := hr e (List.mem_cons_self ..)
    have h2 : v2 = e.2 := h2
    have hpg := TX_pg ho hT i2
    have hr2 : ∀ f ∈ r, 0 ≤ f.2 ∧ f.2 < 32 := by
      intro f hf
      obtain ⟨j, j1, j2⟩ := hr f (List.mem_cons_of_mem _ hf)
      omega
    unfold f_X8_keys_7
    rw [fEq (by omega), mx_1 hpg (by omega), bd_some, mx_nextL ho hT hl i1 i2 hr2 (by omega), bd_some]
    rw [lm_keys ho hT r n _ _ hl.2 (fun f hf => hr f (List.mem_cons_of_mem _ hf)) rfl (by simp at hn; omega)]
    congr 1
    show v1 + ((P i).2.2.length : Int) + ls (nk P) r = v1 + (nk P e.2.toNat + ls (nk P) r)
    rw [i1]
    show _ = v1 + (((P ((i : Nat) : Int).toNat).2.2.length : Int) + _)
    rw [show ((i : Nat) : Int).toNat = i by omega]
    omega
theorem leaf_nat (hg : Good P root L V lvl) : ∀ e ∈ V (L - 1), ∃ i : Nat, e.2 = (i : Int) ∧ i < 32 := by
  intro e he
  obtain ⟨i, q1, q2, _⟩ := hg.1.2.1 (L - 1) (by have := hg.2.2.2.1; omega) e he
  exact ⟨i, q1, q2⟩
theorem mx_keys (hg : Good P root L V lvl) (hRC : RC C P root L c1 c2 c3) (hRX : RX X P root L c1 c2 c3) : f_X8_keys X = some (X, ls (nk P) (V (L - 1))) := by
  have hfu := FU_eq
  obtain ⟨q, q1, q2, q3, q4⟩ := both_first hg hRC hRX
  have hm := leaf_many hg.1 hg.2.2.2.1
  unfold f_X8_keys
  rw [q4, bd_some, lm_keys hg.1.1 hRX.1 (V (L - 1)) FU 0 _ hg.1.2.2.2.2.1 (leaf_nat hg) q2.symm (by omega)]
  congr 2
  omega
/-- numbers of keys are small -/
theorem nk_rng (ho : TOk P) {i : Nat} (hi : i < 32) : 0 ≤ nk P i ∧ nk P i ≤ 30 := by
  have h1 := (ho i hi).2.1
  have h2 := len_szs (P i).2.2
  unfold nk
  omega
theorem ls_rng (ho : TOk P) : ∀ R : List Ent, (∀ e ∈ R, ∃ i : Nat, e.2 = (i : Int) ∧ i < 32) → 0 ≤ ls (nk P) R ∧ ls (nk P) R ≤ 30 * (R.length : Int)
  | [], _ => by simp [ls]
  | e :: r, h => by
    obtain ⟨i, i1, i2⟩ := h e (List.mem_cons_self ..)
    have h1 := nk_rng ho i2
    have h2 := ls_rng ho r (fun f hf => h f (List.mem_cons_of_mem _ hf))
    unfold ls
    rw [i1, show ((i : Nat) : Int).toNat = i by omega]
    simp
    omega
end CN
end
section
/-! CALLS: count, keep, back, letter, value. -/
section CT
variable {C C' X X' : Mem} {P P' : Nat → Pg} {c1 c2 c3 a b c z : Int} {n k root L : Nat} {w : List Int} {V : Nat → List Ent} {lvl : Nat → Nat} {g f f' : Nat → Int} {es : List Ent}
def us (P : Nat → Pg) (i : Nat) : Int := if (P i).1 = 0 then 0 else ((3 + szs (P i).2.2 : Nat) : Int)
theorem both_us (ho : TOk P) (hC : TC C P) (hX : TX X P) {i : Nat} (hi : i < 32) {p : Int} (hp : p = (i : Int)) : f_X4_used i C = some (C, us P i) ∧ f_X8_usedOf p X = some (X, us P i) := by
  have hpC := TC_pg ho hC hi
  have hpX := TX_pg ho hX hi
  unfold us
  by_cases h0 : (P i).1 = 0
  · rw [if_pos h0]
    rw [h0] at hpC hpX
    exact ⟨sp_used0 hpC, mx_used0 hpX hp⟩
  · rw [if_neg h0]
    exact ⟨sp_used hpC h0, mx_used hpX hp h0⟩
theorem both_all {K K' : Int → Int → Mem → Option (Mem × Int)} (ho : TOk P) (hC : TC C P) (hX : TX X P) : ∀ (m n n' : Nat) (v1 v2 : Int), m ≤ 32 → v1 = sm (us P) (32 - m) → v2 = ((32 - m : Nat) : Int) → m < n → m < n' → f_X6_usedOfAll_4 K n v1 v2 C = K (sm (us P) 32) 32 C ∧ f_X8_usedAll_4 K' n' v1 v2 X = K' (sm (us P) 32) 32 X
  | _, 0, _ => by intros; omega
  | _, _, 0 => by intros; omega
  | 0, n + 1, n' + 1 => by
    intro v1 v2 _ h1 h2 _ _
    unfold f_X6_usedOfAll_4 f_X8_usedAll_4
    rw [fLt (by omega), fLt (by omega), h1, h2]
    exact ⟨rfl, rfl⟩
  | m + 1, n + 1, n' + 1 => by
    intro v1 v2 hm h1 h2 hn hn'
    obtain ⟨u1, u2⟩ := both_us ho hC hX (show 32 - (m + 1) < 32 by omega) h2
    have ih := both_all (K := K) (K' := K') ho hC hX m n n' (v1 + us P (32 - (m + 1))) (v2 + 1) (by omega) (by rw [show 32 - m = (32 - (m + 1)) + 1 by omega, h1]; rfl) (by omega) (by omega) (by omega)
    unfold f_X6_usedOfAll_4 f_X8_usedAll_4
    rw [tLt (by omega), tLt (by omega), sp_pageOf h2 (by omega), bd_some, u1, bd_some, u2, bd_some]
    exact ih
def lt (P : Nat → Pg) (i : Nat) : Int := if (P i).1 = 2 then us P i - 3 - 2 * ((P i).2.2.length : Int) else 0
theorem both_sep {K K' : Int → Int → Mem → Option (Mem × Int)} (ho : TOk P) (hC : TC C P) (hX : TX X P) : ∀ (m n n' : Nat) (v1 v2 : Int), m ≤ 32 → v1 = sm (lt P) (32 - m) → v2 = ((32 - m : Nat) : Int) → m < n → m < n' → f_X6_separatorLetters_4 K n v1 v2 C = K (sm (lt P) 32) 32 C ∧ f_X8_separators_4 K' n' v1 v2 X = K' (sm (lt P) 32) 32 X
  | _, 0, _ => by intros; omega
  | _, _, 0 => by intros; omega
  | 0, n + 1, n' + 1 => by
    intro v1 v2 _ h1 h2 _ _
    unfold f_X6_separatorLetters_4 f_X8_separators_4
    rw [fLt (by omega), fLt (by omega), h1, h2]
    exact ⟨rfl, rfl⟩
  | m + 1, n + 1, n' + 1 => by
    intro v1 v2 hm h1 h2 hn hn'
    obtain ⟨u1, u2⟩ := both_us ho hC hX (show 32 - (m + 1) < 32 by omega) h2
    have hpC := TC_pg ho hC (show 32 - (m + 1) < 32 by omega)
    have hpX := TX_pg ho hX (show 32 - (m + 1) < 32 by omega)
    have hsr := (ho (32 - (m + 1)) (by omega)).2.2.1
    have ih := fun (v : Int) (hv : v = v1 + lt P (32 - (m + 1))) => both_sep (K := K) (K' := K') ho hC hX m n n' v (v2 + 1) (by omega) (by rw [show 32 - m = (32 - (m + 1)) + 1 by omega, hv, h1]; rfl) (by omega) (by omega) (by omega)
    unfold f_X6_separatorLetters_4 f_X8_separators_4
    rw [tLt (by omega), tLt (by omega), sp_pageOf h2 (by omega), bd_some, sp_sort hpC, bd_some, mx_0 hpX h2, bd_some]
    unfold lt at ih
    by_cases h : (P (32 - (m + 1))).1 = 2
    · rw [tEq (by omega), tEq (by omega), u1, bd_some, sp_entries hpC, bd_some, u2, bd_some, mx_1 hpX h2, bd_some]
      exact ih _ (by rw [if_pos h])
    · rw [fEq (by omega), fEq (by omega)]
      have h3 := ih v1 (by rw [if_neg h]; omega)
      have h4 := ih (v1 + 0) (by rw [if_neg h])
      exact ⟨h3.1, h4.2⟩
theorem lm_sorted {K : Int → Int → Mem → Option (Mem × Int)} (ho : TOk P) (hT : TX X P) : ∀ (m n : Nat) (v2 v3 : Int), m ≤ 32 → v2 = ((nS P 1 (32 - m) : Nat) : Int) → v3 = ((32 - m : Nat) : Int) → m < n → f_X8_sorted_4 1 K n v2 v3 X = K ((nS P 1 32 : Nat) : Int) 32 X
  | _, 0 => by intros; omega
  | 0, n + 1 => by
    intro v2 v3 _ h2 h3 _
    unfold f_X8_sorted_4
    rw [fLt (by omega), h2, h3]
    rfl
  | m + 1, n + 1 => by
    intro v2 v3 hm h2 h3 hn
    have hp := mx_0 (p := v3) (TX_pg ho hT (show 32 - (m + 1) < 32 by omega)) h3
    have hsr := (ho (32 - (m + 1)) (by omega)).2.2.1
    have hst : nS P 1 (32 - m) = nS P 1 (32 - (m + 1)) + (if (P (32 - (m + 1))).1 = 1 then 1 else 0) := by
      rw [show 32 - m = (32 - (m + 1)) + 1 by omega]; rfl
    unfold f_X8_sorted_4
    rw [tLt (by omega), hp, bd_some]
    by_cases h : (P (32 - (m + 1))).1 = 1
    · rw [if_pos h] at hst
      rw [tEq (by omega)]
      exact lm_sorted ho hT m n _ _ (by omega) (by omega) (by omega) (by omega)
    · rw [if_neg h] at hst
      rw [fEq (by omega)]
      exact lm_sorted ho hT m n _ _ (by omega) (by omega) (by omega) (by omega)
theorem ag_count (h : Inv C X) (ha : R32 a) : Agree Inv (f_X7_count a C) (f_X8_count a X) := by
  have hfu := FU_eq
  have ha' := ha
  simp only [R32] at ha'
  obtain ⟨P, root, L, d1, d2, d3, r1, r2, V, lvl, hg⟩ := h.1
  have ho := hg.1.1
  unfold f_X7_count f_X8_count
  rw [mx_within ha (by simp only [R32]; omega) (by simp only [R32]; omega), bd_some, cEq_b]
  by_cases hin : 0 ≤ a ∧ a ≤ 7
  · rw [if_pos hin]
    by_cases h0 : a = 0
    · subst h0
      rw [tEq (by omega), tEq (by omega), sp_keys hg r1.1, mx_keys hg r1 r2, bd_some, bd_some]
      exact ⟨C, X, _, rfl, rfl, h⟩
    rw [fEq (a := a) (b := 0) (by omega), fEq (a := a) (b := 0) (by omega)]
    by_cases h1 : a = 1
    · subst h1
      rw [tEq (by omega), tEq (by omega), r1.2.2.1, r2.2.2.1]
      exact ⟨C, X, _, rfl, rfl, h⟩
    rw [fEq (a := a) (b := 1) (by omega), fEq (a := a) (b := 1) (by omega)]
    by_cases h2 : a = 2
    · subst h2
      rw [tEq (by omega), tEq (by omega), r1.2.1, r2.2.1]
      exact ⟨C, X, _, rfl, rfl, h⟩
    rw [fEq (a := a) (b := 2) (by omega), fEq (a := a) (b := 2) (by omega)]
    by_cases h3 : a = 3
    · subst h3
      rw [tEq (by omega), tEq (by omega), sp_pos ho r1.1 (by omega), mx_free ho r2.1, bd_some, bd_some]
      exact ⟨C, X, _, rfl, rfl, h⟩
    rw [fEq (a := a) (b := 3) (by omega), fEq (a := a) (b := 3) (by omega)]
    by_cases h4 : a = 4
    · subst h4
      have q := both_all (K := (fun (v1_e4 : Int) (v2_e4 : Int) (C_e4 : Mem) => (some (C_e4, v1_e4)))) (K' := (fun (v1_e4 : Int) (v2_e4 : Int) (C_e4 : Mem) => (some (C_e4, v1_e4)))) ho r1.1 r2.1 32 FU FU 0 0 (by omega) rfl rfl (by omega) (by omega)
      unfold f_X6_usedOfAll f_X8_usedAll
      rw [tEq (by omega), tEq (by omega), q.1, q.2, bd_some, bd_some]
      exact ⟨C, X, _, rfl, rfl, h⟩
    rw [fEq (a := a) (b := 4) (by omega), fEq (a := a) (b := 4) (by omega)]
    by_cases h5 : a = 5
    · subst h5
      unfold f_X8_sorted
      rw [tEq (by omega), tEq (by omega), sp_pos ho r1.1 (by omega), bd_some, lm_sorted ho r2.1 32 FU 0 0 (by omega) rfl rfl (by omega), bd_some]
      exact ⟨C, X, _, rfl, rfl, h⟩
    rw [fEq (a := a) (b := 5) (by omega), fEq (a := a) (b := 5) (by omega)]
    by_cases h6 : a = 6
    · subst h6
      obtain ⟨q, q1, q2, q3, q4⟩ := both_first hg r1 r2
      rw [tEq (by omega), tEq (by omega), q3, q4, bd_some, bd_some]
      exact ⟨C, X, _, rfl, rfl, h⟩
    rw [fEq (a := a) (b := 6) (by omega), fEq (a := a) (b := 6) (by omega)]
    have h7 : a = 7 := by omega
    subst h7
    have q := both_sep (K := (fun (v1_e4 : Int) (v2_e4 : Int) (C_e4 : Mem) => (some (C_e4, v1_e4)))) (K' := (fun (v1_e4 : Int) (v2_e4 : Int) (C_e4 : Mem) => (some (C_e4, v1_e4)))) ho r1.1 r2.1 32 FU FU 0 0 (by omega) rfl rfl (by omega) (by omega)
    unfold f_X6_separatorLetters f_X8_separators
    rw [tEq (by omega), q.1, q.2, bd_some, bd_some]
    exact ⟨C, X, _, rfl, rfl, h⟩
  · rw [if_neg hin, fEq (by omega), fEq (by omega), fEq (by omega), fEq (by omega), fEq (by omega), fEq (by omega), fEq (by omega), fEq (by omega)]
    exact ⟨C, X, -1, rfl, rfl, h⟩
/-! images -/
theorem lp_keep {K : Int → Mem → Option (Mem × Int)} (hk : k < 2) (ho : TOk P) (hT : TC C P) : ∀ (m n : Nat) (v2 : Int), m ≤ 2048 → v2 = ((2048 - m : Nat) : Int) → m < n → f_X2_copyFrom_2 k K n v2 (stI C (8 + k) 0 (2048 - m) (fb P)) = K 2048 (stI C (8 + k) 0 2048 (fb P))
  | _, 0 => by intros; omega
  | 0, n + 1 => by
    intro v2 _ h2 _
    unfold f_X2_copyFrom_2
    rw [fLt (by omega), h2]
    rfl
  | m + 1, n + 1 => by
    intro v2 hm h2 hn
    have hT2 : TC (stI C (8 + k) 0 (2048 - (m + 1)) (fb P)) P := TC_fr hT (fun x y hx => stI_k (by omega))
    have hp := TC_pg ho hT2 (show (2048 - (m + 1)) / 64 < 32 by omega)
    have ih := lp_keep (K := K) hk ho hT m n (v2 + 1) (by omega) (by omega) (by omega)
    unfold f_X2_copyFrom_2
    rw [tLt (by omega), dv_t (by omega), sp_pageOf (i := (2048 - (m + 1)) / 64) (by omega) (by omega), bd_some, dv_t (by omega), sp_at hp (by omega) (by omega), bd_some, ix_t (by omega), nat2 h2, stI_up (by omega) (by unfold fb eP; rw [show (v2 % 64).toNat = (2048 - (m + 1)) % 64 by omega]), show 2048 - (m + 1) + 1 = 2048 - m by omega]
    exact ih
theorem lm_keep {K : Int → Mem → Option (Mem × Int)} (hk : k < 2) {u : Int} (hu : u = (k : Int)) (hT : TX X P) : ∀ (m n : Nat) (v2 : Int), m ≤ 2048 → v2 = ((2048 - m : Nat) : Int) → m < n → f_X8_keep_13 u K n v2 (stI X 110 (2048 * k) (2048 * k + (2048 - m)) (fun j => fb P (j - 2048 * k))) = K 2048 (stI X 110 (2048 * k) (2048 * k + 2048) (fun j => fb P (j - 2048 * k)))
  | _, 0 => by intros; omega
  | 0, n + 1 => by
    intro v2 _ h2 _
    unfold f_X8_keep_13
    rw [fLt (by omega), h2]
    rfl
  | m + 1, n + 1 => by
    intro v2 hm h2 hn
    have hb : X 96 (2048 - (m + 1)) = fb P (2048 - (m + 1)) := by
      have := hT ((2048 - (m + 1)) / 64) (by omega) ((2048 - (m + 1)) % 64) (by omega)
      rw [show 64 * ((2048 - (m + 1)) / 64) + (2048 - (m + 1)) % 64 = 2048 - (m + 1) by omega] at this
      exact this
    have ih := lm_keep (K := K) hk hu hT m n (v2 + 1) (by omega) (by omega) (by omega)
    unfold f_X8_keep_13
    rw [tLt (by omega), ix_t (by omega), ix_t (by omega), nat2 h2, stI_k (by omega), hb, show (2048 * u + v2).toNat = 2048 * k + (2048 - (m + 1)) by omega, stI_up (by omega) (by rw [show 2048 * k + (2048 - (m + 1)) - 2048 * k = 2048 - (m + 1) by omega]), show 2048 * k + (2048 - (m + 1)) + 1 = 2048 * k + (2048 - m) by omega]
    exact ih
theorem fb_at {i j : Nat} (hj : j < 64) : fb P (64 * i + j) = eP (P i) j := by
  unfold fb
  rw [show (64 * i + j) / 64 = i by omega, show (64 * i + j) % 64 = j by omega]
theorem ag_keep (h : Inv C X) (ha : R32 a) : Agree Inv (f_X7_keep a C) (f_X8_keep a X) := by
  have hfu := FU_eq
  have ha' := ha
  simp only [R32] at ha'
  obtain ⟨P, root, L, d1, d2, d3, r1, r2, V, lvl, hg⟩ := h.1
  have ho := hg.1.1
  unfold f_X7_keep f_X8_keep
  rw [mx_within ha (by simp only [R32]; omega) (by simp only [R32]; omega), bd_some, cEq_b]
  by_cases hin : 0 ≤ a ∧ a ≤ 1
  · obtain ⟨k, hk2, hk⟩ : ∃ k : Nat, k < 2 ∧ a = (k : Int) := ⟨a.toNat, by omega, by omega⟩
    rw [if_pos hin, fLt (by omega), tLt (by omega), ix_t (by omega), nat2 hk]
    have q1 := lp_keep (K := (fun (v2_e2 : Int) (C_e2 : Mem) => (some ((up (up (up C_e2 (6 + k) 1 (C_e2 1 4)) (6 + k) 2 ((up C_e2 (6 + k) 1 (C_e2 1 4)) 1 5)) (6 + k) 3 (1)), 0)))) hk2 ho r1.1 2048 FU 0 (by omega) rfl (by omega)
    rw [Nat.sub_self, stI_nil] at q1
    have q2 := lm_keep (K := (fun (v2_e13 : Int) (C_e13 : Mem) => (ix (a) 2 (ix (a) 2 (bd (f_X8_keys (up (up C_e13 (111) k (C_e13 95 1)) (112) k ((up C_e13 (111) k (C_e13 95 1)) 95 2))) (fun C65 r65 => (some (C65, r65)))))))) hk2 hk r2.1 2048 FU 0 (by omega) rfl (by omega)
    rw [Nat.sub_self, Nat.add_zero, stI_nil] at q2
    unfold f_X2_copyFrom
    rw [q1, q2, bd_some, ix_t (by omega), ix_t (by omega)]
    have eC : ∀ x y, x ≠ 6 + k → x ≠ 8 + k → (up (up (up (stI C (8 + k) 0 2048 (fb P)) (6 + k) 1 ((stI C (8 + k) 0 2048 (fb P)) 1 4)) (6 + k) 2 ((up (stI C (8 + k) 0 2048 (fb P)) (6 + k) 1 ((stI C (8 + k) 0 2048 (fb P)) 1 4)) 1 5)) (6 + k) 3 1) x y = C x y := fun x y h1 h2 => by rw [up_k h1, up_k h1, up_k h1, stI_k h2]
    have eX : ∀ x y, x ≠ 110 → x ≠ 111 → x ≠ 112 → (up (up (stI X 110 (2048 * k) (2048 * k + 2048) (fun j => fb P (j - 2048 * k))) 111 k ((stI X 110 (2048 * k) (2048 * k + 2048) (fun j => fb P (j - 2048 * k))) 95 1)) 112 k ((up (stI X 110 (2048 * k) (2048 * k + 2048) (fun j => fb P (j - 2048 * k))) 111 k ((stI X 110 (2048 * k) (2048 * k + 2048) (fun j => fb P (j - 2048 * k))) 95 1)) 95 2)) x y = X x y := fun x y h1 h2 h3 => by rw [up_k h3, up_k h2, stI_k h1]
    have t1 : RC (up (up (up (stI C (8 + k) 0 2048 (fb P)) (6 + k) 1 ((stI C (8 + k) 0 2048 (fb P)) 1 4)) (6 + k) 2 ((up (stI C (8 + k) 0 2048 (fb P)) (6 + k) 1 ((stI C (8 + k) 0 2048 (fb P)) 1 4)) 1 5)) (6 + k) 3 1) P root L d1 d2 d3 := ⟨TC_fr r1.1 (fun x y hx => eC x y (by omega) (by omega)), by rw [eC _ _ (by omega) (by omega)]; exact r1.2.1, by rw [eC _ _ (by omega) (by omega)]; exact r1.2.2.1, by rw [eC _ _ (by omega) (by omega)]; exact r1.2.2.2.1, by rw [eC _ _ (by omega) (by omega)]; exact r1.2.2.2.2.1, by rw [eC _ _ (by omega) (by omega)]; exact r1.2.2.2.2.2⟩
    have t2 : RX (up (up (stI X 110 (2048 * k) (2048 * k + 2048) (fun j => fb P (j - 2048 * k))) 111 k ((stI X 110 (2048 * k) (2048 * k + 2048) (fun j => fb P (j - 2048 * k))) 95 1)) 112 k ((up (stI X 110 (2048 * k) (2048 * k + 2048) (fun j => fb P (j - 2048 * k))) 111 k ((stI X 110 (2048 * k) (2048 * k + 2048) (fun j => fb P (j - 2048 * k))) 95 1)) 95 2)) P root L d1 d2 d3 := ⟨TX_fr r2.1 (fun y => eX _ y (by omega) (by omega) (by omega)), by rw [eX _ _ (by omega) (by omega) (by omega)]; exact r2.2.1, by rw [eX _ _ (by omega) (by omega) (by omega)]; exact r2.2.2.1, by rw [eX _ _ (by omega) (by omega) (by omega)]; exact r2.2.2.2.1, by rw [eX _ _ (by omega) (by omega) (by omega)]; exact r2.2.2.2.2.1, by rw [eX _ _ (by omega) (by omega) (by omega)]; exact r2.2.2.2.2.2⟩
    rw [sp_keys hg t1.1, mx_keys hg t1 t2, bd_some, bd_some]
    have other : ∀ k' : Nat, k' < 2 → k' ≠ k → ImgOk C X k' → ImgOk (up (up (up (stI C (8 + k) 0 2048 (fb P)) (6 + k) 1 ((stI C (8 + k) 0 2048 (fb P)) 1 4)) (6 + k) 2 ((up (stI C (8 + k) 0 2048 (fb P)) (6 + k) 1 ((stI C (8 + k) 0 2048 (fb P)) 1 4)) 1 5)) (6 + k) 3 1) (up (up (stI X 110 (2048 * k) (2048 * k + 2048) (fun j => fb P (j - 2048 * k))) 111 k ((stI X 110 (2048 * k) (2048 * k + 2048) (fun j => fb P (j - 2048 * k))) 95 1)) 112 k ((up (stI X 110 (2048 * k) (2048 * k + 2048) (fun j => fb P (j - 2048 * k))) 111 k ((stI X 110 (2048 * k) (2048 * k + 2048) (fun j => fb P (j - 2048 * k))) 95 1)) 95 2)) k' := by
      intro k' h1 h2 hi
      have x112 : (up (up (stI X 110 (2048 * k) (2048 * k + 2048) (fun j => fb P (j - 2048 * k))) 111 k ((stI X 110 (2048 * k) (2048 * k + 2048) (fun j => fb P (j - 2048 * k))) 95 1)) 112 k ((up (stI X 110 (2048 * k) (2048 * k + 2048) (fun j => fb P (j - 2048 * k))) 111 k ((stI X 110 (2048 * k) (2048 * k + 2048) (fun j => fb P (j - 2048 * k))) 95 1)) 95 2)) 112 k' = X 112 k' := by rw [up_j h2, up_k (by omega), stI_k (by omega)]
      have x111 : (up (up (stI X 110 (2048 * k) (2048 * k + 2048) (fun j => fb P (j - 2048 * k))) 111 k ((stI X 110 (2048 * k) (2048 * k + 2048) (fun j => fb P (j - 2048 * k))) 95 1)) 112 k ((up (stI X 110 (2048 * k) (2048 * k + 2048) (fun j => fb P (j - 2048 * k))) 111 k ((stI X 110 (2048 * k) (2048 * k + 2048) (fun j => fb P (j - 2048 * k))) 95 1)) 95 2)) 111 k' = X 111 k' := by rw [up_k (by omega), up_j h2, stI_k (by omega)]
      rcases hi with ⟨q1, q2⟩ | ⟨q1, P', root', L', g1, g2, g3, g4, g5, g6, g7⟩
      · exact Or.inl ⟨by rw [eC _ _ (by omega) (by omega)]; exact q1, by rw [x112]; exact q2⟩
      · refine Or.inr ⟨by rw [eC _ _ (by omega) (by omega)]; exact q1, P', root', L', g1, by rw [eC _ _ (by omega) (by omega)]; exact g2, by rw [eC _ _ (by omega) (by omega)]; exact g3, by rw [x111]; exact g4, by rw [x112]; exact g5, fun i hi j hj => by rw [eC _ _ (by omega) (by omega)]; exact g6 i hi j hj, fun i hi j hj => ?_⟩
        rw [up_k (by omega), up_k (by omega), stI_out (by omega)]
        exact g7 i hi j hj
    have self : ImgOk (up (up (up (stI C (8 + k) 0 2048 (fb P)) (6 + k) 1 ((stI C (8 + k) 0 2048 (fb P)) 1 4)) (6 + k) 2 ((up (stI C (8 + k) 0 2048 (fb P)) (6 + k) 1 ((stI C (8 + k) 0 2048 (fb P)) 1 4)) 1 5)) (6 + k) 3 1) (up (up (stI X 110 (2048 * k) (2048 * k + 2048) (fun j => fb P (j - 2048 * k))) 111 k ((stI X 110 (2048 * k) (2048 * k + 2048) (fun j => fb P (j - 2048 * k))) 95 1)) 112 k ((up (stI X 110 (2048 * k) (2048 * k + 2048) (fun j => fb P (j - 2048 * k))) 111 k ((stI X 110 (2048 * k) (2048 * k + 2048) (fun j => fb P (j - 2048 * k))) 95 1)) 95 2)) k := by
      refine Or.inr ⟨up_same, P, root, L, ⟨V, lvl, hg⟩, ?_, ?_, ?_, ?_, ?_, ?_⟩
      · rw [up_j (by omega), up_j (by omega), up_same, stI_k (by omega)]; exact r1.2.1
      · rw [up_j (by omega), up_same, up_k (by omega), stI_k (by omega)]; exact r1.2.2.1
      · rw [up_k (by omega), up_same, stI_k (by omega)]; exact r2.2.1
      · rw [up_same, up_k (by omega), stI_k (by omega)]; exact r2.2.2.1
      · intro i hi j hj
        rw [up_k (by omega), up_k (by omega), up_k (by omega), stI_in (by omega), fb_at hj]
      · intro i hi j hj
        rw [up_k (by omega), up_k (by omega), stI_in (by omega), show 2048 * k + (64 * i + j) - 2048 * k = 64 * i + j by omega, fb_at hj]
    refine ⟨_, _, _, rfl, rfl, ⟨P, root, L, d1, d2, d3, t1, t2, V, lvl, hg⟩, ?_, ?_, ?_⟩
    · obtain ⟨n, n1, n2, n3, n4⟩ := h.2.1
      exact ⟨n, n1, by rw [eC _ _ (by omega) (by omega)]; exact n2, by rw [eX _ _ (by omega) (by omega) (by omega)]; exact n3, fun j hj => by rw [eC _ _ (by omega) (by omega), eX _ _ (by omega) (by omega) (by omega)]; exact n4 j hj⟩
    · by_cases h0 : k = 0
      · subst h0; exact self
      · exact other 0 (by omega) (fun q => h0 q.symm) h.2.2.1
    · by_cases h0 : k = 1
      · subst h0; exact self
      · exact other 1 (by omega) (fun q => h0 q.symm) h.2.2.2
  · rw [if_neg hin]
    by_cases h0 : a < 0
    · rw [tLt (by omega)]
      exact ⟨C, X, -1, rfl, rfl, h⟩
    · rw [fLt (by omega), fLt (by omega)]
      exact ⟨C, X, -1, rfl, rfl, h⟩
/-- a tree comes back -/
theorem lp_back {K : Int → Mem → Option (Mem × Int)} (hk : k < 2) (hI : ∀ i, i < 32 → ∀ j, j < 64 → C (8 + k) (64 * i + j) = eP (P i) j) : ∀ (m n : Nat) (v2 : Int) (M : Mem), m ≤ 2048 → v2 = ((2048 - m : Nat) : Int) → m < n → (∀ x y, x < 61 → M x y = C x y) → (∀ q, q < 2048 - m → M (61 + q / 64) (q % 64) = fb P q) → ∃ M', f_X2_copyTo_2 k K n v2 M = K 2048 M' ∧ (∀ x y, x < 61 → M' x y = C x y) ∧ TC M' P
  | _, 0 => by intros; omega
  | 0, n + 1 => by
    intro v2 M _ h2 _ h3 h4
    refine ⟨M, ?_, h3, ?_⟩
    · unfold f_X2_copyTo_2
      rw [fLt (by omega), h2]
      rfl
    · intro i hi j hj
      have := h4 (64 * i + j) (by omega)
      rw [fb_at hj, show (64 * i + j) / 64 = i by omega, show (64 * i + j) % 64 = j by omega] at this
      exact this
  | m + 1, n + 1 => by
    intro v2 M hm h2 hn h3 h4
    have hb : M (8 + k) (2048 - (m + 1)) = fb P (2048 - (m + 1)) := by
      rw [h3 _ _ (by omega)]
      have := hI ((2048 - (m + 1)) / 64) (by omega) ((2048 - (m + 1)) % 64) (by omega)
      rw [show 64 * ((2048 - (m + 1)) / 64) + (2048 - (m + 1)) % 64 = 2048 - (m + 1) by omega] at this
      exact this
    obtain ⟨M', i1, i2, i3⟩ := lp_back (K := K) hk hI m n (v2 + 1) (up M (61 + (2048 - (m + 1)) / 64) ((2048 - (m + 1)) % 64) (fb P (2048 - (m + 1)))) (by omega) (by omega) (by omega) (fun x y hx => by rw [up_k (by omega)]; exact h3 x y hx) (by
      intro q hq
      by_cases hqq : q = 2048 - (m + 1)
      · rw [hqq, up_same]
      · rw [up_ap, if_neg (by omega)]
        exact h4 q (by omega))
    refine ⟨M', ?_, i2, i3⟩
    unfold f_X2_copyTo_2
    rw [tLt (by omega), dv_t (by omega), sp_pageOf (i := (2048 - (m + 1)) / 64) (by omega) (by omega), bd_some, dv_t (by omega), ix_t (by omega), nat2 h2, hb, sp_set (by rw [pl_32 (by omega)]; omega), bd_some, show (v2 % 64).toNat = (2048 - (m + 1)) % 64 by omega]
    exact i1
theorem lm_back {K : Int → Mem → Option (Mem × Int)} (hk : k < 2) {u : Int} (hu : u = (k : Int)) (hI : ∀ i, i < 32 → ∀ j, j < 64 → X 110 (2048 * k + (64 * i + j)) = eP (P i) j) : ∀ (m n : Nat) (v2 : Int), m ≤ 2048 → v2 = ((2048 - m : Nat) : Int) → m < n → f_X8_back_25 u K n v2 (stI X 96 0 (2048 - m) (fb P)) = K 2048 (stI X 96 0 2048 (fb P))
  | _, 0 => by intros; omega
  | 0, n + 1 => by
    intro v2 _ h2 _
    unfold f_X8_back_25
    rw [fLt (by omega), h2]
    rfl
  | m + 1, n + 1 => by
    intro v2 hm h2 hn
    have hb : X 110 (2048 * k + (2048 - (m + 1))) = fb P (2048 - (m + 1)) := by
      have := hI ((2048 - (m + 1)) / 64) (by omega) ((2048 - (m + 1)) % 64) (by omega)
      rw [show 64 * ((2048 - (m + 1)) / 64) + (2048 - (m + 1)) % 64 = 2048 - (m + 1) by omega] at this
      exact this
    have ih := lm_back (K := K) hk hu hI m n (v2 + 1) (by omega) (by omega) (by omega)
    unfold f_X8_back_25
    rw [tLt (by omega), ix_t (by omega), ix_t (by omega), nat2 h2, show (2048 * u + v2).toNat = 2048 * k + (2048 - (m + 1)) by omega, stI_k (by omega), hb, stI_up (by omega) rfl, show 2048 - (m + 1) + 1 = 2048 - m by omega]
    exact ih
theorem ag_back (h : Inv C X) (ha : R32 a) : Agree Inv (f_X7_back a C) (f_X8_back a X) := by
  have hfu := FU_eq
  have ha' := ha
  simp only [R32] at ha'
  unfold f_X7_back f_X8_back
  rw [mx_within ha (by simp only [R32]; omega) (by simp only [R32]; omega), bd_some, cEq_b]
  by_cases hin : 0 ≤ a ∧ a ≤ 1
  · obtain ⟨k, hk2, hk⟩ : ∃ k : Nat, k < 2 ∧ a = (k : Int) := ⟨a.toNat, by omega, by omega⟩
    rw [if_pos hin, fLt (by omega), tLt (by omega), ix_t (by omega), ix_t (by omega), nat2 hk]
    have hI : ImgOk C X k := by
      have : k = 0 ∨ k = 1 := by omega
      rcases this with h1 | h1
      · rw [h1]; exact h.2.2.1
      · rw [h1]; exact h.2.2.2
    rcases hI with ⟨q1, q2⟩ | ⟨q1, P, root, L, ⟨V, lvl, hg⟩, g2, g3, g4, g5, g6, g7⟩
    · rw [q1, q2, tEq (by omega), tEq (by omega), ix_t (by omega)]
      exact ⟨C, X, -2, rfl, rfl, h⟩
    · have hL1 := hg.2.2.2.1
      have hL32 := hg.2.2.2.2.1
      obtain ⟨P0, root0, L0, d1, d2, d3, r1, r2, _⟩ := h.1
      rw [q1, g5, fEq (by omega), fEq (by omega), ix_t (by omega)]
      obtain ⟨M', i1, i2, i3⟩ := lp_back (K := (fun (v2_e2 : Int) (C_e2 : Mem) => (some ((up (up C_e2 1 4 (C_e2 (6 + k) 1)) 1 5 ((up C_e2 1 4 (C_e2 (6 + k) 1)) (6 + k) 2)), 0)))) hk2 g6 2048 FU 0 C (by omega) rfl (by omega) (fun _ _ _ => rfl) (fun q hq => by omega)
      have q2 := lm_back (K := (fun (v2_e25 : Int) (C_e25 : Mem) => (ix (a) 2 (ix (a) 2 (bd (f_X8_keys (up (up C_e25 95 1 (C_e25 (111) k)) 95 2 ((up C_e25 95 1 (C_e25 (111) k)) (112) k))) (fun C77 r77 => (some (C77, r77)))))))) hk2 hk g7 2048 FU 0 (by omega) rfl (by omega)
      rw [Nat.sub_self, stI_nil] at q2
      unfold f_X2_copyTo
      rw [i1, q2, bd_some, ix_t (by omega), ix_t (by omega)]
      have eM : M' (6 + k) 1 = (root : Int) := by rw [i2 _ _ (by omega)]; exact g2
      have eM2 : (up M' 1 4 (M' (6 + k) 1)) (6 + k) 2 = (L : Int) := by rw [up_k (by omega), i2 _ _ (by omega)]; exact g3
      have eX1 : (stI X 96 0 2048 (fb P)) 111 k = (root : Int) := by rw [stI_k (by omega)]; exact g4
      have eX2 : (up (stI X 96 0 2048 (fb P)) 95 1 ((stI X 96 0 2048 (fb P)) 111 k)) 112 k = (L : Int) := by rw [up_k (by omega), stI_k (by omega)]; exact g5
      rw [eM2, eX2, eM, eX1]
      have t1 : RC (up (up M' 1 4 (root : Int)) 1 5 (L : Int)) P root L d1 d2 d3 := ⟨TC_up (TC_up i3 (by omega)) (by omega), by rw [up_j (by omega), up_same], up_same, by rw [up_k (by omega), up_k (by omega), i2 _ _ (by omega)]; exact r1.2.2.2.1, by rw [up_k (by omega), up_k (by omega), i2 _ _ (by omega)]; exact r1.2.2.2.2.1, by rw [up_k (by omega), up_k (by omega), i2 _ _ (by omega)]; exact r1.2.2.2.2.2⟩
      have t2 : RX (up (up (stI X 96 0 2048 (fb P)) 95 1 (root : Int)) 95 2 (L : Int)) P root L d1 d2 d3 := by
        refine ⟨?_, by rw [up_j (by omega), up_same], up_same, ?_, ?_, ?_⟩
        · intro i hi j hj
          rw [up_k (by omega), up_k (by omega), stI_in (by omega), fb_at hj]
        · rw [up_j (by omega), up_j (by omega), stI_k (by omega)]; exact r2.2.2.2.1
        · rw [up_j (by omega), up_j (by omega), stI_k (by omega)]; exact r2.2.2.2.2.1
        · rw [up_j (by omega), up_j (by omega), stI_k (by omega)]; exact r2.2.2.2.2.2
      rw [sp_keys hg t1.1, mx_keys hg t1 t2, bd_some, bd_some]
      refine ⟨_, _, _, rfl, rfl, Inv_kp h ⟨P, root, L, d1, d2, d3, t1, t2, V, lvl, hg⟩ ?_ ?_⟩
      · intro x y h1 h2 h3
        rw [up_k h1, up_k h1, i2 x y (by omega)]
      · intro x y hx
        rw [up_ap, if_neg (by omega), up_ap, if_neg (by omega), stI_k (by omega)]
  · rw [if_neg hin]
    by_cases h0 : a < 0
    · rw [tLt (by omega)]
      exact ⟨C, X, -1, rfl, rfl, h⟩
    · rw [fLt (by omega), fLt (by omega)]
      exact ⟨C, X, -1, rfl, rfl, h⟩
end CT
end
section
/-! CALLS: rank, letter, value. -/
section RK
variable {C C' X X' : Mem} {P P' : Nat → Pg} {c1 c2 c3 a b c z : Int} {n k root L i : Nat} {w : List Int} {V : Nat → List Ent} {lvl : Nat → Nat} {s l : Int} {es ea eb : List Ent} {e : Ent}
def cl (w : List Int) : List Ent → Nat
  | [] => 0
  | e :: r => (if cmp e.1 w < 0 then 1 else 0) + cl w r
def cg (w : List Int) : List Ent → Nat
  | [] => 0
  | e :: r => (if cp e.1 w = w.length then 1 else 0) + cg w r
theorem cl_zero : ∀ r : List Ent, (∀ x ∈ r, ¬ cmp x.1 w < 0) → cl w r = 0
  | [], _ => rfl
  | e :: r, h => by
    unfold cl
    rw [if_neg (h e (List.mem_cons_self ..)), cl_zero r (fun x hx => h x (List.mem_cons_of_mem _ hx))]
theorem cb_cl : ∀ es : List Ent, es.Pairwise (fun x y => cmp x.1 y.1 < 0) → cb 0 w es = cl w es
  | [], _ => rfl
  | e :: r, h => by
    rw [List.pairwise_cons] at h
    unfold cb cl
    by_cases hc : cmp e.1 w < 0
    · rw [if_pos hc, if_pos hc, cb_cl r h.2]
      omega
    · rw [if_neg hc, if_neg hc, cl_zero r]
      intro x hx hxw
      exact hc (cmp_trans _ _ _ (h.1 x hx) hxw)
theorem leaf_pw (hg : Good P root L V lvl) (hi : i < 32) (h1 : (P i).1 = 1) : (P i).2.2.Pairwise (fun x y => cmp x.1 y.1 < 0) := by
  have hm := (leaf_mem hg.1 hg.2.2.2.1 hi).mp h1
  obtain ⟨e, he, hei⟩ := List.mem_map.mp hm
  obtain ⟨A, B, hAB⟩ := List.append_of_mem he
  have hpw := hg.1.2.2.2.2.2
  have hei : e.2 = (i : Int) := hei
  have he2 : e = (e.1, (i : Int)) := by rw [← hei]
  rw [hAB, he2, lfs_mid] at hpw
  have h2 := (List.pairwise_cons.mp (List.pairwise_append.mp hpw).2.1).2
  have h3 := (List.pairwise_append.mp h2).1
  rw [List.pairwise_map] at h3
  refine h3.imp ?_
  intro x y hxy
  rcases hxy with h4 | ⟨_, h4⟩
  · exact h4
  · exact absurd h4 (by show ¬ (1 : Int) < 1; omega)
theorem sp_letterOf (h : PgC C i s l (ea ++ e :: eb)) {q : Int} (hq : q = (ea.length : Int)) (h0 : 0 ≤ z) (h1 : z < 2147480000) : f_X4_letterOf i q z C = some (C, e.1.getD z.toNat 0) := by
  have h6 := PgC_len h
  rw [szs_app, szs_cons] at h6
  unfold f_X4_letterOf
  rw [sp_offset h hq, bd_some, fLt (by omega), sp_at h (by omega) (by omega), bd_some, nat2 rfl, enc_len rfl]
  by_cases hj : z < (e.1.length : Int)
  · rw [tLt (by omega), sp_at h (by omega) (by omega), bd_some, enc_let (j := z.toNat) (by omega) (by omega)]
  · rw [fLt (by omega), gd_out (by omega)]
theorem lp_beg15 {K : Int → Mem → Option (Mem × Int)} {u2 q : Int} (h : PgC C i s l (ea ++ e :: eb)) (hk : KyC C k w) (hq : q = (ea.length : Int)) : ∀ (m n : Nat) (v : Int), m ≤ 8 → v = ((8 - m : Nat) : Int) → m < n → f_X4_entriesThatBegin_15 i k u2 q K n v C = K ((8 - m + cp (e.1.drop (8 - m)) (w.drop (8 - m)) : Nat) : Int) C
  | _, 0 => by intros; omega
  | 0, n + 1 => by
    intro v _ hv _
    have h3 := hk.2.2.1
    unfold f_X4_entriesThatBegin_15
    rw [hk.1, fLt (by omega), cp_drop (LOk_pos hk.2.2), if_neg (by omega), hv]
  | m + 1, n + 1 => by
    intro v hm hv hn
    have h3 := hk.2.2.1
    have he := EsOk_mid h.2.1
    have g1 := LOk_gd hk.2.2 (8 - (m + 1))
    have g2 := LOk_gd (EOk_L he) (8 - (m + 1))
    have ih := lp_beg15 (K := K) (u2 := u2) h hk hq m n (v + 1) (by omega) (by omega) (by omega)
    unfold f_X4_entriesThatBegin_15
    rw [hk.1, cp_drop (LOk_pos hk.2.2)]
    by_cases h2 : 8 - (m + 1) < w.length
    · rw [tLt (by omega), sp_letterOf h hq (by omega) (by omega), bd_some, sp_kat hk (by omega) (by omega), bd_some, nat2 hv]
      by_cases h4 : w.getD (8 - (m + 1)) 0 = e.1.getD (8 - (m + 1)) 0
      · rw [tEq (by omega), if_pos ⟨h2, h4⟩, ih, show 8 - (m + 1) + 1 = 8 - m by omega]
        congr 1
        omega
      · rw [fEq (by omega), if_neg (fun q => h4 q.2), hv]
        rfl
    · rw [fLt (by omega), if_neg (by omega), hv]
      rfl
theorem lp_beg4 {K : Int → Int → Mem → Option (Mem × Int)} (h : PgC C i s l es) (hk : KyC C k w) : ∀ (b a : List Ent) (n : Nat) (v2 v3 : Int), es = a ++ b → v3 = (a.length : Int) → b.length < n → f_X4_entriesThatBegin_4 i k K n v2 v3 C = K (v2 + ((cg w b : Nat) : Int)) (es.length : Int) C
  | _, _, 0 => by intros; omega
  | [], a, n + 1 => by
    intro v2 v3 h1 h3 _
    have h6 := PgC_len h
    have h7 : es.length = a.length := by rw [h1]; simp
    unfold f_X4_entriesThatBegin_4
    rw [sp_entries h, bd_some, fLt (by omega), h3, h7]
    show K v2 _ C = K (v2 + 0) _ C
    rw [Int.add_zero]
  | e :: b, a, n + 1 => by
    intro v2 v3 h1 h3 hn
    have hfu := FU_eq
    have h6 := PgC_len h
    have h9 : es.length = a.length + (b.length + 1) := by rw [h1]; simp
    have h' : PgC C i s l (a ++ e :: b) := by rw [← h1]; exact h
    have hw := hk.2.2.1
    have hcp := cp_le e.1 w
    have q := lp_beg15 (u2 := v2) (K := (fun (v4_e15 : Int) (C_e15 : Mem) => (cEq (v4_e15) (C_e15 (10 + 2 * k) 1) (f_X4_entriesThatBegin_4 i k K n (v2 + 1) (v3 + 1) C_e15) (f_X4_entriesThatBegin_4 i k K n (v2) (v3 + 1) C_e15)))) h' hk h3 8 FU 0 (by omega) rfl (by omega)
    rw [Nat.sub_self, List.drop_zero, List.drop_zero, Nat.zero_add] at q
    unfold f_X4_entriesThatBegin_4 cg
    rw [sp_entries h, bd_some, tLt (by omega), q, hk.1]
    have ih := fun v => lp_beg4 (K := K) h hk b (a ++ [e]) n v (v3 + 1) (by rw [h1]; simp) (by simp; omega) (by simp at hn; omega)
    by_cases hc : cp e.1 w = w.length
    · rw [tEq (by omega), ih, if_pos hc]
      congr 1
      omega
    · rw [fEq (by omega), ih, if_neg hc]
      congr 1
      omega
theorem sp_begin2 (h : PgC C i s l es) (hk : KyC C k w) : f_X4_entriesThatBegin i k C = some (C, ((cg w es : Nat) : Int)) := by
  have hfu := FU_eq
  have h6 := PgC_len h
  unfold f_X4_entriesThatBegin
  rw [lp_beg4 h hk es [] FU 0 0 rfl rfl (by omega)]
  simp
/-- what a page counts -/
def rv (P : Nat → Pg) (what : Int) (w : List Int) (i : Nat) : Int := if what = 0 then ((cl w (P i).2.2 : Nat) : Int) else ((cg w (P i).2.2 : Nat) : Int)
theorem lp_rank {K : Int → Int → Mem → Option (Mem × Int)} (hg : Good P root L V lvl) (hT : TC C P) (hk : KyC C 0 w) (hc : c = 0 ∨ c = 1) : ∀ (m n : Nat) (v4 v5 : Int), m ≤ 32 → v4 = sm (fun i => if (P i).1 = 1 then rv P c w i else 0) (32 - m) → v5 = ((32 - m : Nat) : Int) → m < n → f_X7_rank_34 c K n v4 v5 C = K (sm (fun i => if (P i).1 = 1 then rv P c w i else 0) 32) 32 C
  | _, 0 => by intros; omega
  | 0, n + 1 => by
    intro v4 v5 _ h4 h5 _
    unfold f_X7_rank_34
    rw [fLt (by omega), h4, h5]
    rfl
  | m + 1, n + 1 => by
    intro v4 v5 hm h4 h5 hn
    have ho := hg.1.1
    have hp := TC_pg ho hT (show 32 - (m + 1) < 32 by omega)
    have hsr := (ho (32 - (m + 1)) (by omega)).2.2.1
    have hst : sm (fun i => if (P i).1 = 1 then rv P c w i else 0) (32 - m) = sm (fun i => if (P i).1 = 1 then rv P c w i else 0) (32 - (m + 1)) + (if (P (32 - (m + 1))).1 = 1 then rv P c w (32 - (m + 1)) else 0) := by
      rw [show 32 - m = (32 - (m + 1)) + 1 by omega]; rfl
    unfold f_X7_rank_34
    rw [tLt (by omega), sp_pageOf h5 (by omega), bd_some, sp_sort hp, bd_some]
    by_cases h : (P (32 - (m + 1))).1 = 1
    · rw [if_pos h] at hst
      have hpw := leaf_pw hg (show 32 - (m + 1) < 32 by omega) h
      rw [tEq (a := (P (32 - (m + 1))).1) (by omega)]
      unfold rv at hst
      by_cases hc0 : c = 0
      · rw [if_pos hc0] at hst
        rw [tEq (a := c) (by omega), sp_below (Or.inl rfl) hp hk, bd_some, cb_cl _ hpw]
        exact lp_rank hg hT hk hc m n _ _ (by omega) (by rw [h4]; exact hst.symm) (by omega) (by omega)
      · rw [if_neg hc0] at hst
        rw [fEq (a := c) (by omega), sp_begin2 hp hk, bd_some]
        exact lp_rank hg hT hk hc m n _ _ (by omega) (by rw [h4]; exact hst.symm) (by omega) (by omega)
    · rw [if_neg h] at hst
      rw [fEq (by omega)]
      exact lp_rank hg hT hk hc m n _ _ (by omega) (by rw [h4, hst]; omega) (by omega) (by omega)
/-- the model: does an entry begin so -/
theorem lm_beg22 {K : Int → Int → Mem → Option (Mem × Int)} {p : Int} (h : PgX X i s l (ea ++ e :: eb)) (hp : p = (i : Int)) (hk : KX X w) (hlen : w.length ≤ e.1.length) : ∀ (m n : Nat) (v4 : Int), m ≤ w.length → v4 = ((w.length - m : Nat) : Int) → m < n → ∃ v, f_X8_beginsSo_22 p ((3 + szs ea : Nat) : Int) K n 1 v4 X = K (if cp (e.1.drop (w.length - m)) (w.drop (w.length - m)) = m then 1 else 0) v X
  | _, 0 => by intros; omega
  | 0, n + 1 => by
    intro v4 _ h4 _
    have h8 := hk.2.2.1
    refine ⟨v4, ?_⟩
    have hz : cp (e.1.drop (w.length - 0)) (w.drop (w.length - 0)) = 0 := by rw [cp_drop (LOk_pos hk.2.2), if_neg (by omega)]
    unfold f_X8_beginsSo_22
    rw [hk.1, fLt (by omega), if_pos hz]
  | m + 1, n + 1 => by
    intro v4 hm h4 hn
    have h8 := hk.2.2.1
    have he := EsOk_mid h.2.1
    have g1 := LOk_gd hk.2.2 (w.length - (m + 1))
    have g2 := LOk_gd (EOk_L he) (w.length - (m + 1))
    obtain ⟨v, ih⟩ := lm_beg22 (K := K) h hp hk hlen m n (v4 + 1) (by omega) (by omega) (by omega)
    unfold f_X8_beginsSo_22
    rw [hk.1, tLt (by omega), fEq (by omega), mx_let h hp (j := w.length - (m + 1)) (by omega) (by omega), bd_some, ix_t (by omega), nat2 h4, hk.2.1 _ (by omega)]
    have hst := cp_drop (u := e.1) (LOk_pos hk.2.2) (w.length - (m + 1))
    by_cases h5 : w.getD (w.length - (m + 1)) 0 = e.1.getD (w.length - (m + 1)) 0
    · rw [if_pos ⟨by omega, h5⟩, show w.length - (m + 1) + 1 = w.length - m by omega] at hst
      rw [tEq (by omega), ih, hst]
      refine ⟨v, ?_⟩
      by_cases h6 : cp (e.1.drop (w.length - m)) (w.drop (w.length - m)) = m
      · rw [if_pos h6, if_pos (by omega)]
      · rw [if_neg h6, if_neg (by omega)]
    · rw [if_neg (fun q => h5 q.2)] at hst
      rw [fEq (by omega), hst, if_neg (by omega)]
      cases n with
      | zero => omega
      | succ n =>
        refine ⟨v4 + 1, ?_⟩
        unfold f_X8_beginsSo_22
        rw [hk.1]
        by_cases h6 : v4 + 1 < (w.length : Int)
        · rw [tLt (by omega), tEq (by omega)]
        · rw [fLt (by omega)]
theorem mx_begins {p : Int} (h : PgX X i s l (ea ++ e :: eb)) (hp : p = (i : Int)) (hk : KX X w) {q : Int} (hq : q = ((3 + szs ea : Nat) : Int)) : f_X8_beginsSo p q X = some (X, if cp e.1 w = w.length then 1 else 0) := by
  have hfu := FU_eq
  have h8 := hk.2.2.1
  have he := EsOk_mid h.2.1
  have he8 := he.2.1
  subst hq
  unfold f_X8_beginsSo
  rw [mx_len h hp rfl, bd_some, jn_eq, hk.1]
  by_cases hl : w.length ≤ e.1.length
  · rw [fLt (by omega)]
    dsimp only
    obtain ⟨v, q1⟩ := lm_beg22 (K := (fun (v3_e22 : Int) (v4_e22 : Int) (C_e22 : Mem) => (bo (v3_e22) (some (C_e22, v3_e22))))) h hp hk hl w.length FU 0 (by omega) (by omega) (by omega)
    rw [Nat.sub_self, List.drop_zero, List.drop_zero] at q1
    rw [q1]
    rw [bo_b]
  · rw [tLt (by omega)]
    dsimp only
    have hc := cp_le e.1 w
    rw [if_neg (by omega), hfu]
    unfold f_X8_beginsSo_22
    rw [hk.1, tLt (by omega), tEq (by omega)]
    rw [bo_t (by omega)]
theorem lm_rank47 {K : Int → Int → Int → Mem → Option (Mem × Int)} {p : Int} (h : PgX X i s l es) (hp : p = (i : Int)) (hk : KX X w) (hc : c = 0 ∨ c = 1) : ∀ (b a : List Ent) (n : Nat) (v4 v6 v7 : Int), es = a ++ b → v6 = ((3 + szs a : Nat) : Int) → v7 = (a.length : Int) → b.length < n → ∃ v, f_X8_rank_47 c p K n v4 v6 v7 X = K (v4 + (if c = 0 then ((cl w b : Nat) : Int) else ((cg w b : Nat) : Int))) v (es.length : Int) X
  | _, _, 0 => by intros; omega
  | [], a, n + 1 => by
    intro v4 v6 v7 h1 h6 h7 _
    have hl := PgX_len h
    have h9 : es.length = a.length := by rw [h1]; simp
    refine ⟨v6, ?_⟩
    unfold f_X8_rank_47
    rw [mx_1 h hp, bd_some, fLt (by omega), h7, h9]
    have : v4 + (if c = 0 then ((cl w [] : Nat) : Int) else ((cg w [] : Nat) : Int)) = v4 := by
      have e1 : ((cl w [] : Nat) : Int) = 0 := rfl
      have e2 : ((cg w [] : Nat) : Int) = 0 := rfl
      rw [e1, e2]; split <;> omega
    rw [this]
  | e :: b, a, n + 1 => by
    intro v4 v6 v7 h1 h6 h7 hn
    have hl := PgX_len h
    have h9 : es.length = a.length + (b.length + 1) := by rw [h1]; simp
    have h' : PgX X i s l (a ++ e :: b) := by rw [← h1]; exact h
    have ih := fun v => lm_rank47 (K := K) h hp hk hc b (a ++ [e]) n v (v6 + ((e.1.length : Int) + 2)) (v7 + 1) (by rw [h1]; simp) (by rw [szs_app, szs_cons, szs_nil]; omega) (by simp; omega) (by simp at hn; omega)
    unfold f_X8_rank_47
    rw [mx_1 h hp, bd_some, tLt (by omega), jn_eq]
    rcases hc with hc | hc
    · subst hc
      obtain ⟨r, r1, r2, r3, r4⟩ := mx_against h' hp hk h6
      have ha := cmp_anti e.1 w
      rw [tEq (by omega), r1, bd_some]
      have e0 : ((cl w (e :: b) : Nat) : Int) = (if cmp e.1 w < 0 then 1 else 0) + ((cl w b : Nat) : Int) := by
        show (((if cmp e.1 w < 0 then 1 else 0) + cl w b : Nat) : Int) = _
        split <;> omega
      rw [if_pos rfl, e0]
      by_cases hd : cmp e.1 w < 0
      · rw [tLt (by omega)]
        dsimp only
        rw [jn_eq, fEq (by omega)]
        dsimp only
        rw [mx_len h' hp h6, bd_some, if_pos hd]
        obtain ⟨v, q⟩ := ih (v4 + 1)
        rw [q, if_pos rfl]
        exact ⟨v, by congr 1; omega⟩
      · rw [fLt (by omega)]
        dsimp only
        rw [jn_eq, tEq (by omega)]
        dsimp only
        rw [mx_len h' hp h6, bd_some, if_neg hd]
        obtain ⟨v, q⟩ := ih (v4 + 0)
        rw [q, if_pos rfl]
        exact ⟨v, by congr 1; omega⟩
    · subst hc
      rw [fEq (by omega), mx_begins h' hp hk h6, bd_some]
      dsimp only
      have e0 : ((cg w (e :: b) : Nat) : Int) = (if cp e.1 w = w.length then 1 else 0) + ((cg w b : Nat) : Int) := by
        show (((if cp e.1 w = w.length then 1 else 0) + cg w b : Nat) : Int) = _
        split <;> omega
      rw [jn_eq, cEq_b, if_neg (show ¬ (1 : Int) = 0 by omega), e0]
      by_cases hd : cp e.1 w = w.length
      · rw [if_pos hd]
        dsimp only
        rw [mx_len h' hp h6, bd_some, if_pos hd]
        obtain ⟨v, q⟩ := ih (v4 + 1)
        rw [q, if_neg (by omega)]
        exact ⟨v, by congr 1; omega⟩
      · rw [if_neg hd]
        dsimp only
        rw [mx_len h' hp h6, bd_some, if_neg hd]
        obtain ⟨v, q⟩ := ih (v4 + 0)
        rw [q, if_neg (by omega)]
        exact ⟨v, by congr 1; omega⟩
theorem lm_rank34 {K : Int → Int → Mem → Option (Mem × Int)} (ho : TOk P) (hT : TX X P) (hk : KX X w) (hc : c = 0 ∨ c = 1) : ∀ (R : List Ent) (n : Nat) (v4 v5 : Int), LkTo P R 0 → (∀ e ∈ R, ∃ i : Nat, e.2 = (i : Int) ∧ i < 32) → v5 = hdp R → R.length < n → f_X8_rank_34 c K n v4 v5 X = K (v4 + ls (rv P c w) R) (-9) X
  | _, 0 => by intros; omega
  | [], n + 1 => by
    intro v4 v5 _ _ h5 _
    have h5 : v5 = -9 := h5
    unfold f_X8_rank_34
    rw [tEq (by omega), h5]
    show K v4 (-9) X = K (v4 + 0) (-9) X
    rw [Int.add_zero]
  | e :: r, n + 1 => by
    intro v4 v5 hl hr h5 hn
    have hfu := FU_eq
    obtain ⟨i, i1, i2⟩ := hr e (List.mem_cons_self ..)
    have h5 : v5 = e.2 := h5
    have hpg := TX_pg ho hT i2
    have hlen := PgX_len hpg
    have hr2 : ∀ f ∈ r, 0 ≤ f.2 ∧ f.2 < 32 := by
      intro f hf
      obtain ⟨j, j1, j2⟩ := hr f (List.mem_cons_of_mem _ hf)
      omega
    obtain ⟨v, q⟩ := lm_rank47 (K := (fun (v4_e47 : Int) (v6_e47 : Int) (v7_e47 : Int) (C_e47 : Mem) => (bd (f_X8_nextLeaf (v5) C_e47) (fun C131 r131 => (f_X8_rank_34 c K n (v4_e47) (r131) C131))))) (p := v5) hpg (by omega) hk hc (P i).2.2 [] FU v4 3 0 rfl rfl rfl (by omega)
    unfold f_X8_rank_34
    rw [fEq (by omega), q]
    rw [mx_nextL ho hT hl i1 i2 hr2 (by omega), bd_some, lm_rank34 ho hT hk hc r n _ _ hl.2 (fun f hf => hr f (List.mem_cons_of_mem _ hf)) rfl (by simp at hn; omega)]
    congr 1
    show v4 + rv P c w i + ls (rv P c w) r = v4 + (rv P c w e.2.toNat + ls (rv P c w) r)
    rw [i1, show ((i : Nat) : Int).toNat = i by omega]
    omega
theorem ag_rank (h : Inv C X) (ha : R32 a) (hb : R32 b) (hc : R32 c) : Agree Inv (f_X7_rank a b c C) (f_X8_rank a b c X) := by
  have hfu := FU_eq
  unfold f_X7_rank f_X8_rank
  rcases both_spelled (C := C) (X := X) ha hb with ⟨g1, g2, g3⟩ | ⟨g1, g2⟩
  · rw [g1, g2, bd_some, bd_some, fEq (by omega), fEq (by omega), sp_within hc (by simp only [R32]; omega) (by simp only [R32]; omega), mx_within hc (by simp only [R32]; omega) (by simp only [R32]; omega), bd_some, bd_some, cEq_b, cEq_b]
    by_cases hin : 0 ≤ c ∧ c ≤ 1
    · rw [if_pos hin, if_pos hin]
      obtain ⟨X0, k1, k2, k3, k4, k5, k6, k7, k8, k9⟩ := both_key g3 h
      generalize spl b.toNat a = w at *
      obtain ⟨P, root, L, d1, d2, d3, r1, r2, V, lvl, hg⟩ := k6
      obtain ⟨q, q1, q2, q3, q4⟩ := both_first hg r1 r2
      have hm := leaf_many hg.1 hg.2.2.2.1
      rw [k1, k2, bd_some, bd_some, q4, bd_some, lp_rank hg r1.1 k3 (by omega) 32 FU 0 0 (by omega) rfl rfl (by omega), lm_rank34 hg.1.1 r2.1 k4 (by omega) (V (L - 1)) FU 0 _ hg.1.2.2.2.2.1 (leaf_nat hg) q2.symm (by omega), leaf_sum hg.1 hg.2.2.2.1, Int.zero_add]
      exact ⟨_, _, _, rfl, rfl, k9⟩
    · rw [if_neg hin, if_neg hin]
      exact ⟨C, X, -1, rfl, rfl, h⟩
  · rw [g1, g2, bd_some, bd_some, tEq (by omega), tEq (by omega)]
    exact ⟨C, X, -1, rfl, rfl, h⟩
/-! keys by their number -/
theorem place_in {K : Int → Int → Int → Mem → Option (Mem × Int)} {K' : Int → Int → Mem → Option (Mem × Int)} (ho : TOk P) (hC : TC C P) (hX : TX X P) : ∀ (R : List Ent) (n n' : Nat) (j : Nat) (v2 v3 v4 : Int), LkTo P R 0 → (∀ e ∈ R, ∃ i : Nat, e.2 = (i : Int) ∧ i < 32) → R ≠ [] → v3 = hdp R → v2 = (j : Int) → (j : Int) < ls (nk P) R → 0 ≤ v4 → v4 + (R.length : Int) ≤ 32 → R.length < n → R.length < n' → ∃ (i : Nat) (ea eb : List Ent) (e : Ent), i < 32 ∧ (P i).2.2 = ea ++ e :: eb ∧ f_X6_placeOfKey_10 K n v2 v3 v4 C = some (C, (i : Int) * 64 + (ea.length : Int)) ∧ f_X8_whereIs_7 K' n' v2 v3 X = K' (ea.length : Int) (i : Int) X
  | _, 0, _ => by intros; omega
  | _, _, 0 => by intros; omega
  | [], _, _ => by
    intro j v2 v3 v4 _ _ hne
    exact absurd rfl hne
  | e :: r, n + 1, n' + 1 => by
    intro j v2 v3 v4 hl hr _ h3 h2 hj h4 h4' hn hn'
    obtain ⟨i, i1, i2⟩ := hr e (List.mem_cons_self ..)
    have h3 : v3 = e.2 := h3
    have hpC := TC_pg ho hC i2
    have hpX := TX_pg ho hX i2
    have hlen := PgX_len hpX
    have hb := ls_rng ho (e :: r) hr
    simp at hb h4' hn hn'
    have hr2 : ∀ f ∈ r, 0 ≤ f.2 ∧ f.2 < 32 := by
      intro f hf
      obtain ⟨j, j1, j2⟩ := hr f (List.mem_cons_of_mem _ hf)
      omega
    have hls : ls (nk P) (e :: r) = ((P i).2.2.length : Int) + ls (nk P) r := by
      show nk P e.2.toNat + ls (nk P) r = _
      rw [i1, show ((i : Nat) : Int).toNat = i by omega]
      rfl
    rw [hls] at hj hb
    unfold f_X6_placeOfKey_10 f_X8_whereIs_7
    rw [tLt (by omega), fLt (by omega), fLt (by omega), sp_pageOf (i := i) (by omega) i2, bd_some, sp_entries hpC, bd_some, mx_1 hpX (by omega), bd_some]
    by_cases hlt : j < (P i).2.2.length
    · have he : (P i).2.2 = (P i).2.2.take j ++ (P i).2.2[j] :: (P i).2.2.drop (j + 1) := by rw [List.getElem_cons_drop, List.take_append_drop]
      have hlj : ((P i).2.2.take j).length = j := by rw [List.length_take]; omega
      refine ⟨i, (P i).2.2.take j, (P i).2.2.drop (j + 1), (P i).2.2[j], i2, he, ?_, ?_⟩
      · rw [tLt (by omega), hlj, h3, i1, h2]
      · rw [tLt (by omega), hlj, h3, i1, h2]
    · rw [fLt (by omega), fLt (by omega), sp_entries hpC, bd_some, sp_link hpC, bd_some, mx_1 hpX (by omega), bd_some, mx_nextL ho hX hl i1 i2 hr2 (by omega), bd_some]
      have hne : r ≠ [] := by
        intro hh
        rw [hh] at hj
        simp [ls] at hj
        omega
      have hlk : (P i).2.1 - 1 = hdp r := by
        have := hl.1
        rw [i1, show ((i : Nat) : Int).toNat = i by omega] at this
        rw [this]
        cases r with
        | nil => exact absurd rfl hne
        | cons f r => show f.2 + 1 - 1 = f.2; omega
      rw [hlk]
      exact place_in ho hC hX r n n' (j - (P i).2.2.length) _ _ _ hl.2 (fun f hf => hr f (List.mem_cons_of_mem _ hf)) hne rfl (by omega) (by omega) (by omega) (by omega) (by omega) (by omega)
def hd1 : List Ent → Int
  | [] => -1
  | e :: _ => e.2
theorem place_out {K : Int → Int → Int → Mem → Option (Mem × Int)} (ho : TOk P) (hC : TC C P) (hK : ∀ v2 v3 v4, K v2 v3 v4 C = some (C, -1)) : ∀ (R : List Ent) (n : Nat) (v2 v3 v4 : Int), LkTo P R 0 → (∀ e ∈ R, ∃ i : Nat, e.2 = (i : Int) ∧ i < 32) → v3 = hd1 R → ls (nk P) R ≤ v2 → v2 < 2147483648 → 0 ≤ v4 → v4 + (R.length : Int) ≤ 32 → R.length < n → f_X6_placeOfKey_10 K n v2 v3 v4 C = some (C, -1)
  | _, 0 => by intros; omega
  | [], n + 1 => by
    intro v2 v3 v4 _ _ h3 _ h2 h4 h4' _
    have h3 : v3 = -1 := h3
    simp at h4'
    unfold f_X6_placeOfKey_10
    by_cases h5 : v4 < 32
    · rw [tLt (by omega), tLt (by omega), hK]
    · rw [fLt (by omega), hK]
  | e :: r, n + 1 => by
    intro v2 v3 v4 hl hr h3 hls0 h2 h4 h4' hn
    obtain ⟨i, i1, i2⟩ := hr e (List.mem_cons_self ..)
    have h3 : v3 = e.2 := h3
    have hpC := TC_pg ho hC i2
    have hlen := PgC_len hpC
    have hb := ls_rng ho r (fun f hf => hr f (List.mem_cons_of_mem _ hf))
    simp at h4' hn
    have hls : ls (nk P) (e :: r) = ((P i).2.2.length : Int) + ls (nk P) r := by
      show nk P e.2.toNat + ls (nk P) r = _
      rw [i1, show ((i : Nat) : Int).toNat = i by omega]
      rfl
    rw [hls] at hls0
    have hlk : (P i).2.1 - 1 = hd1 r := by
      have := hl.1
      rw [i1, show ((i : Nat) : Int).toNat = i by omega] at this
      rw [this]
      cases r with
      | nil => rfl
      | cons f r => show f.2 + 1 - 1 = f.2; omega
    unfold f_X6_placeOfKey_10
    rw [tLt (by omega), fLt (by omega), fLt (by omega), sp_pageOf (i := i) (by omega) i2, bd_some, sp_entries hpC, bd_some, fLt (by omega), sp_entries hpC, bd_some, sp_link hpC, bd_some]
    exact place_out ho hC hK r n _ _ _ hl.2 (fun f hf => hr f (List.mem_cons_of_mem _ hf)) hlk (by omega) (by omega) (by omega) (by omega) (by omega)
/-- a key by its number, both; or none -/
theorem both_place (hg : Good P root L V lvl) (hRC : RC C P root L c1 c2 c3) (hRX : RX X P root L c1 c2 c3) (ha : R32 a) : (∃ (i : Nat) (ea eb : List Ent) (e : Ent), i < 32 ∧ (P i).2.2 = ea ++ e :: eb ∧ f_X6_placeOfKey a C = some (C, (i : Int) * 64 + (ea.length : Int)) ∧ f_X8_whereIs a X = some (X, 64 * (i : Int) + ((3 + szs ea : Nat) : Int)) ∧ 0 ≤ a ∧ a ≤ ls (nk P) (V (L - 1)) - 1) ∨ (f_X6_placeOfKey a C = some (C, -1) ∧ ¬ (0 ≤ a ∧ a ≤ ls (nk P) (V (L - 1)) - 1)) := by
  have hfu := FU_eq
  simp only [R32] at ha
  obtain ⟨q, q1, q2, q3, q4⟩ := both_first hg hRC hRX
  have hm := leaf_many hg.1 hg.2.2.2.1
  have ho := hg.1.1
  unfold f_X6_placeOfKey f_X8_whereIs
  rw [q3, q4, bd_some, bd_some]
  by_cases hin : 0 ≤ a ∧ a ≤ ls (nk P) (V (L - 1)) - 1
  · have hne : V (L - 1) ≠ [] := by
      intro hh
      rw [hh] at hin
      simp [ls] at hin
      omega
    obtain ⟨i, ea, eb, e, e1, e2, e3, e4⟩ := place_in (K := (fun (v2_e10 : Int) (v3_e10 : Int) (v4_e10 : Int) (C_e10 : Mem) => (some (C_e10, -1)))) (K' := (fun (v2_e7 : Int) (v3_e7 : Int) (C_e7 : Mem) => (bd (f_X8_startOf (v3_e7) (v2_e7) C_e7) (fun C42 r42 => (some (C42, (64 * v3_e7) + r42)))))) ho hRC.1 hRX.1 (V (L - 1)) FU FU a.toNat a (q : Int) 0 hg.1.2.2.2.2.1 (leaf_nat hg) hne q2.symm (by omega) (by omega) (by omega) (by omega) (by omega) (by omega)
    refine Or.inl ⟨i, ea, eb, e, e1, e2, e3, ?_, hin⟩
    have hp := TX_pg ho hRX.1 e1
    rw [e2] at hp
    rw [e4]
    rw [mx_start hp rfl rfl, bd_some]
  · refine Or.inr ⟨?_, hin⟩
    by_cases h0 : a < 0
    · have : FU = 4999 + 1 := hfu
      rw [this]
      unfold f_X6_placeOfKey_10
      rw [tLt (by omega), fLt (by omega), tLt (by omega)]
    · refine place_out ho hRC.1 (fun _ _ _ => rfl) (V (L - 1)) FU a (q : Int) 0 hg.1.2.2.2.2.1 (leaf_nat hg) ?_ (by omega) (by omega) (by omega) (by omega) (by omega)
      cases hV : V (L - 1) with
      | nil =>
        rw [hV] at q2
        have q2 : (-9 : Int) = (q : Int) := q2
        omega
      | cons e r =>
        rw [hV] at q2
        exact q2.symm
theorem ag_letter (h : Inv C X) (ha : R32 a) (hb : R32 b) : Agree Inv (f_X7_letter a b C) (f_X8_letter a b X) := by
  have hb' := hb
  simp only [R32] at hb'
  obtain ⟨P, root, L, d1, d2, d3, r1, r2, V, lvl, hg⟩ := h.1
  have ho := hg.1.1
  have hm := leaf_many hg.1 hg.2.2.2.1
  have hb30 := ls_rng ho (V (L - 1)) (leaf_nat hg)
  unfold f_X7_letter f_X8_letter
  rw [mx_keys hg r1 r2, bd_some, mx_within ha (by simp only [R32]; omega) (by simp only [R32]; omega), bd_some, cEq_b]
  rcases both_place hg r1 r2 ha with ⟨i, ea, eb, e, e1, e2, e3, e4, hin⟩ | ⟨e3, hin⟩
  · have hpC := TC_pg ho r1.1 e1
    have hpX := TX_pg ho r2.1 e1
    rw [e2] at hpC hpX
    have hlen := PgX_len hpX
    simp at hlen
    have hz := hpX.2.2.1
    rw [szs_app, szs_cons] at hz
    have he8 := (EsOk_mid hpX.2.1).2.1
    rw [e3, bd_some, fLt (by omega), sp_within hb (by simp only [R32]; omega) (by simp only [R32]; omega), bd_some, cEq_b, if_pos hin, mx_within hb (by simp only [R32]; omega) (by simp only [R32]; omega), bd_some, cEq_b]
    by_cases hb7 : 0 ≤ b ∧ b ≤ 7
    · have x0 : X 96 (64 * i + (3 + szs ea)) = (e.1.length : Int) := by rw [hpX.1 _ (by omega), enc_len rfl]
      rw [if_pos hb7, if_pos hb7, dv_t (by omega), sp_pageOf (i := i) (by omega) e1, bd_some, dv_t (by omega), sp_letters hpC (by omega), bd_some, e4, bd_some, ix_t (by omega), show (64 * (i : Int) + ((3 + szs ea : Nat) : Int)).toNat = 64 * i + (3 + szs ea) by omega, x0]
      by_cases hlt : b < (e.1.length : Int)
      · have x1 : X 96 (64 * i + (3 + szs ea + 1 + b.toNat)) = e.1.getD b.toNat 0 := by rw [hpX.1 _ (by omega), enc_let (by omega) rfl]
        rw [tLt (by omega), tLt (by omega), sp_letterOf hpC (by omega) (by omega) (by omega), bd_some, ix_t (by omega), show (64 * (i : Int) + ((3 + szs ea : Nat) : Int) + 1 + b).toNat = 64 * i + (3 + szs ea + 1 + b.toNat) by omega, x1]
        exact ⟨C, X, _, rfl, rfl, h⟩
      · rw [fLt (by omega), fLt (by omega)]
        exact ⟨C, X, _, rfl, rfl, h⟩
    · rw [if_neg hb7, if_neg hb7]
      exact ⟨C, X, -1, rfl, rfl, h⟩
  · rw [e3, bd_some, tLt (by omega), if_neg hin]
    exact ⟨C, X, -1, rfl, rfl, h⟩
theorem ag_value (h : Inv C X) (ha : R32 a) : Agree Inv (f_X7_value a C) (f_X8_value a X) := by
  obtain ⟨P, root, L, d1, d2, d3, r1, r2, V, lvl, hg⟩ := h.1
  have ho := hg.1.1
  have hm := leaf_many hg.1 hg.2.2.2.1
  have hb30 := ls_rng ho (V (L - 1)) (leaf_nat hg)
  unfold f_X7_value f_X8_value
  rw [mx_keys hg r1 r2, bd_some, mx_within ha (by simp only [R32]; omega) (by simp only [R32]; omega), bd_some, cEq_b]
  rcases both_place hg r1 r2 ha with ⟨i, ea, eb, e, e1, e2, e3, e4, hin⟩ | ⟨e3, hin⟩
  · have hpC := TC_pg ho r1.1 e1
    have hpX := TX_pg ho r2.1 e1
    rw [e2] at hpC hpX
    have hlen := PgX_len hpX
    simp at hlen
    have hz := hpX.2.2.1
    rw [szs_app, szs_cons] at hz
    have x0 : X 96 (64 * i + (3 + szs ea)) = (e.1.length : Int) := by rw [hpX.1 _ (by omega), enc_len rfl]
    have x1 : X 96 (64 * i + (3 + szs ea + 1 + e.1.length)) = e.2 := by rw [hpX.1 _ (by omega), enc_tail rfl]
    rw [e3, bd_some, fLt (by omega), dv_t (by omega), sp_pageOf (i := i) (by omega) e1, bd_some, dv_t (by omega), sp_tail hpC (by omega), bd_some, if_pos hin, e4, bd_some, ix_t (by omega), show (64 * (i : Int) + ((3 + szs ea : Nat) : Int)).toNat = 64 * i + (3 + szs ea) by omega, x0, ix_t (by omega), show (64 * (i : Int) + ((3 + szs ea : Nat) : Int) + (e.1.length : Int) + 1).toNat = 64 * i + (3 + szs ea + 1 + e.1.length) by omega, x1]
    exact ⟨C, X, _, rfl, rfl, h⟩
  · rw [e3, bd_some, tLt (by omega), if_neg hin]
    exact ⟨C, X, -1, rfl, rfl, h⟩
end RK
end
section
/-! THE TEXT: what stands where. -/
def adv (p : Int → Bool) (t : Nat → Int) (n : Nat) : Nat → Nat → Nat
  | 0, i => i
  | m + 1, i => if i < n ∧ p (t i) = true then adv p t n m (i + 1) else i
/-- the first place from i on that is not such -/
def ad (p : Int → Bool) (t : Nat → Int) (n i : Nat) : Nat := adv p t n (n - i) i
def isB (x : Int) : Bool := decide (x = 32)
def isL (x : Int) : Bool := decide (97 ≤ x ∧ x ≤ 122)
def isF (x : Int) : Bool := decide (48 ≤ x ∧ x ≤ 57)
/-- a number of k figures -/
def nv (t : Nat → Int) (i : Nat) : Nat → Int
  | 0 => 0
  | k + 1 => 10 * nv t i k + t (i + k) - 48
def TxC (C : Mem) (t : Nat → Int) (n : Nat) : Prop := C 4 1 = (n : Int) ∧ n ≤ 120 ∧ ∀ j, j < n → C 25 j = t j ∧ 0 ≤ t j ∧ t j ≤ 255
def TxX (X : Mem) (t : Nat → Int) (n : Nat) : Prop := X 95 30 = (n : Int) ∧ n ≤ 120 ∧ ∀ j, j < n → X 113 j = t j ∧ 0 ≤ t j ∧ t j ≤ 255
def Fp (C C' : Mem) : Prop := ∀ x y, ¬ (x = 4 ∧ y ≠ 1) → x ≠ 18 → x ≠ 19 → x ≠ 26 → C' x y = C x y
def Fq (X X' : Mem) : Prop := ∀ a b, a ≠ 101 → ¬ (a = 95 ∧ (b = 12 ∨ b = 31 ∨ b = 32 ∨ b = 33 ∨ b = 34)) → X' a b = X a b
section TX
variable {C C' X X' : Mem} {t : Nat → Int} {n i e st k : Nat} {p : Int → Bool} {z lo hi : Int}
theorem ad_y (h : i < n) (hp : p (t i) = true) : ad p t n i = ad p t n (i + 1) := by
  unfold ad
  rw [show n - i = (n - (i + 1)) + 1 by omega]
  show (if i < n ∧ p (t i) = true then adv p t n (n - (i + 1)) (i + 1) else i) = _
  rw [if_pos ⟨h, hp⟩]
theorem ad_n (h : ¬ (i < n ∧ p (t i) = true)) : ad p t n i = i := by
  unfold ad
  cases n - i with
  | zero => rfl
  | succ m => show (if i < n ∧ p (t i) = true then adv p t n m (i + 1) else i) = i; rw [if_neg h]
theorem ad_spec : ∀ (m i : Nat), n - i = m → i ≤ ad p t n i ∧ (i ≤ n → ad p t n i ≤ n) ∧ (ad p t n i < n → p (t (ad p t n i)) = false) ∧ (∀ j, i ≤ j → j < ad p t n i → p (t j) = true)
  | 0, i => by
    intro hm
    rw [ad_n (by omega)]
    exact ⟨Nat.le_refl _, fun h => h, fun h => by omega, fun j h1 h2 => by omega⟩
  | m + 1, i => by
    intro hm
    by_cases h : i < n ∧ p (t i) = true
    · rw [ad_y h.1 h.2]
      have ih := ad_spec m (i + 1) (by omega)
      refine ⟨by omega, fun _ => ih.2.1 (by omega), ih.2.2.1, fun j h1 h2 => ?_⟩
      by_cases hj : j = i
      · subst hj; exact h.2
      · exact ih.2.2.2 j (by omega) h2
    · rw [ad_n h]
      refine ⟨Nat.le_refl _, fun h => h, fun h1 => ?_, fun j h1 h2 => by omega⟩
      cases hp : p (t i) with
      | true => exact absurd ⟨h1, hp⟩ h
      | false => rfl
theorem ad_ge : i ≤ ad p t n i := (ad_spec (n - i) i rfl).1
theorem ad_le (h : i ≤ n) : ad p t n i ≤ n := (ad_spec (n - i) i rfl).2.1 h
theorem ad_end (h : ad p t n i < n) : p (t (ad p t n i)) = false := (ad_spec (n - i) i rfl).2.2.1 h
theorem ad_in {j : Nat} (h1 : i ≤ j) (h2 : j < ad p t n i) : p (t j) = true := (ad_spec (n - i) i rfl).2.2.2 j h1 h2
theorem up_up {C : Mem} {a b : Nat} {y z : Int} : up (up C a b y) a b z = up C a b z := by
  funext x w
  rw [up_ap, up_ap, up_ap]
  by_cases h : x = a ∧ w = b
  · rw [if_pos h, if_pos h]
  · rw [if_neg h, if_neg h, if_neg h]
theorem up_id {C : Mem} {a b : Nat} {z : Int} (h : C a b = z) : up C a b z = C := by
  funext x w
  rw [up_ap]
  by_cases hh : x = a ∧ w = b
  · rw [if_pos hh, hh.1, hh.2, h]
  · rw [if_neg hh]
theorem up_cm {C : Mem} {a b b' : Nat} {y z : Int} (h : b ≠ b') : up (up C a b y) a b' z = up (up C a b' z) a b y := by
  funext x w
  rw [up_ap, up_ap, up_ap, up_ap]
  by_cases h1 : x = a ∧ w = b'
  · rw [if_pos h1, if_neg (by omega), if_pos h1]
  · rw [if_neg h1, if_neg h1]
theorem TxC_u {y : Nat} (h : TxC C t n) (hy : y ≠ 1) : TxC (up C 4 y z) t n := ⟨by rw [up_j (by omega)]; exact h.1, h.2.1, fun j hj => by rw [up_k (by omega)]; exact h.2.2 j hj⟩
theorem TxX_u {y : Nat} (h : TxX X t n) (hy : y ≠ 30) : TxX (up X 95 y z) t n := ⟨by rw [up_j (by omega)]; exact h.1, h.2.1, fun j hj => by rw [up_k (by omega)]; exact h.2.2 j hj⟩
theorem tc_at (h : TxC C t n) (hi : i < n) (hz : z = (i : Int)) : f_X5_at z C = some (C, t i) := by
  have := h.2.1
  unfold f_X5_at
  rw [fLt (by omega), h.1, tLt (by omega), tLt (by omega), ix_t (by omega), nat2 hz, (h.2.2 i hi).1]
theorem sp_isLet (hz : 0 ≤ z ∧ z ≤ 255) : f_X7_isLetter z C = some (C, if isL z = true then 1 else 0) := by
  unfold f_X7_isLetter isL
  by_cases h : 97 ≤ z ∧ z ≤ 122
  · rw [fLt (by omega), fLt (by omega), if_pos (by simpa using h)]
  · rw [if_neg (by simpa using h)]
    by_cases h2 : z < 97
    · rw [tLt (by omega)]
    · rw [fLt (by omega), tLt (by omega)]
theorem sp_isFig (hz : 0 ≤ z ∧ z ≤ 255) : f_X5_isFigure z C = some (C, if isF z = true then 1 else 0) := by
  unfold f_X5_isFigure isF
  by_cases h : 48 ≤ z ∧ z ≤ 57
  · rw [fLt (by omega), fLt (by omega), if_pos (by simpa using h)]
  · rw [if_neg (by simpa using h)]
    by_cases h2 : z < 48
    · rw [tLt (by omega)]
    · rw [fLt (by omega), tLt (by omega)]
theorem lp_skip {K : Mem → Option (Mem × Int)} : ∀ (m f : Nat) (i : Nat) (C : Mem), TxC C t n → C 4 2 = (i : Int) → n - i = m → i ≤ n → m < f → f_X5_readToken_8 K f C = K (up C 4 2 ((ad isB t n i : Nat) : Int))
  | _, 0 => by intros; omega
  | 0, f + 1 => by
    intro i C h h2 hm hi _
    have := h.2.1
    unfold f_X5_readToken_8
    rw [h.1, h2, fLt (by omega), ad_n (by omega), up_id h2]
  | m + 1, f + 1 => by
    intro i C h h2 hm hi hf
    have hn := h.2.1
    have ht := (h.2.2 i (by omega)).2
    unfold f_X5_readToken_8
    rw [h.1, h2, tLt (by omega), tc_at h (i := i) (by omega) rfl, bd_some]
    by_cases hb : t i = 32
    · rw [tEq (by omega), ad_y (by omega) (by unfold isB; simpa using hb), h2, lp_skip m f (i + 1) (up C 4 2 ((i : Int) + 1)) (TxC_u h (by omega)) (by rw [up_same]; omega) (by omega) (by omega) (by omega), up_up]
    · rw [fEq (by omega), ad_n (by unfold isB; simp; intro _; exact hb), up_id h2]
theorem lp_lets {K : Mem → Option (Mem × Int)} : ∀ (m f : Nat) (i : Nat) (C : Mem), TxC C t n → C 4 3 = (i : Int) → n - i = m → i ≤ n → m < f → f_X5_readToken_99 K f C = some (up C 4 3 ((ad isL t n i : Nat) : Int), 0)
  | _, 0 => by intros; omega
  | 0, f + 1 => by
    intro i C h h2 hm hi _
    have := h.2.1
    unfold f_X5_readToken_99
    rw [h.1, h2, fLt (by omega), ad_n (by omega), up_id h2]
  | m + 1, f + 1 => by
    intro i C h h2 hm hi hf
    have hn := h.2.1
    have ht := (h.2.2 i (by omega)).2
    unfold f_X5_readToken_99
    rw [h.1, h2, tLt (by omega), tc_at h (i := i) (by omega) rfl, bd_some, sp_isLet ht, bd_some, cEq_b]
    by_cases hb : isL (t i) = true
    · rw [if_pos hb, ad_y (by omega) hb, h2, lp_lets m f (i + 1) (up C 4 3 ((i : Int) + 1)) (TxC_u h (by omega)) (by rw [up_same]; omega) (by omega) (by omega) (by omega), up_up]
    · rw [if_neg hb, ad_n (fun q => hb q.2), up_id h2]
/-- figures, as the class takes them: above 99999 it stays -/
def cf (t : Nat → Int) (i : Nat) : Nat → Int
  | 0 => 0
  | 1 => t i - 48
  | k + 2 => if 99999 < cf t i (k + 1) then cf t i (k + 1) else 10 * cf t i (k + 1) + t (i + (k + 1)) - 48
def p10 : Nat → Int
  | 0 => 1
  | k + 1 => 10 * p10 k
theorem p10_le : ∀ m, m ≤ 5 → p10 m ≤ 100000 ∧ (m ≤ 4 → p10 m ≤ 10000) := by
  intro m hm
  have : m = 0 ∨ m = 1 ∨ m = 2 ∨ m = 3 ∨ m = 4 ∨ m = 5 := by omega
  rcases this with h | h | h | h | h | h <;> subst h <;> decide
theorem cf_nv (h : ∀ j, i ≤ j → j < i + k → 48 ≤ t j ∧ t j ≤ 57) : ∀ m, 1 ≤ m → m ≤ k → m ≤ 5 → cf t i m = nv t i m ∧ 0 ≤ nv t i m ∧ nv t i m < p10 m := by
  intro m
  induction m with
  | zero => intro h1; omega
  | succ m ih =>
    intro _ hk h5
    cases m with
    | zero =>
      have := h i (by omega) (by omega)
      have e1 : nv t i (0 + 1) = t i - 48 := by show 10 * 0 + t (i + 0) - 48 = _; rw [Nat.add_zero]; omega
      refine ⟨by rw [e1]; rfl, by rw [e1]; omega, ?_⟩
      rw [e1]
      show t i - 48 < 10 * 1
      omega
    | succ m =>
      obtain ⟨i1, i2, i3⟩ := ih (by omega) (by omega) (by omega)
      have ht := h (i + (m + 1)) (by omega) (by omega)
      have hb := (p10_le (m + 1) (by omega)).2 (by omega)
      have e1 : nv t i (m + 1 + 1) = 10 * nv t i (m + 1) + t (i + (m + 1)) - 48 := rfl
      have e2 : p10 (m + 1 + 1) = 10 * p10 (m + 1) := rfl
      refine ⟨?_, by rw [e1]; omega, by rw [e1, e2]; omega⟩
      show (if 99999 < cf t i (m + 1) then cf t i (m + 1) else 10 * cf t i (m + 1) + t (i + (m + 1)) - 48) = _
      rw [i1, if_neg (by omega), e1]
theorem cf_big (h : ∀ j, i ≤ j → j < i + k → 48 ≤ t j ∧ t j ≤ 57) (h0 : t i ≠ 48) : ∀ m, 6 ≤ m → m ≤ k → 99999 < cf t i m ∧ cf t i m < 1000000 := by
  intro m
  induction m with
  | zero => intro h1; omega
  | succ m ih =>
    intro h6 hk
    by_cases hm : m = 5
    · subst hm
      obtain ⟨c1, c2, c3⟩ := cf_nv h 5 (by omega) (by omega) (by omega)
      have c4 := (p10_le 5 (by omega)).1
      have t0 := h i (by omega) (by omega)
      have t1 := h (i + 1) (by omega) (by omega)
      have t2 := h (i + 2) (by omega) (by omega)
      have t3 := h (i + 3) (by omega) (by omega)
      have t4 := h (i + 4) (by omega) (by omega)
      have t5 := h (i + 5) (by omega) (by omega)
      have hv : nv t i 5 ≥ 10000 := by
        show 10 * (10 * (10 * (10 * (10 * 0 + t (i + 0) - 48) + t (i + 1) - 48) + t (i + 2) - 48) + t (i + 3) - 48) + t (i + 4) - 48 ≥ 10000
        rw [Nat.add_zero]
        omega
      show 99999 < (if 99999 < cf t i 5 then cf t i 5 else 10 * cf t i 5 + t (i + 5) - 48) ∧ (if 99999 < cf t i 5 then cf t i 5 else 10 * cf t i 5 + t (i + 5) - 48) < 1000000
      rw [c1, if_neg (by omega)]
      omega
    · have ih2 := ih (by omega) (by omega)
      obtain ⟨m', rfl⟩ : ∃ m', m = m' + 1 := ⟨m - 1, by omega⟩
      show 99999 < (if 99999 < cf t i (m' + 1) then cf t i (m' + 1) else _) ∧ (if 99999 < cf t i (m' + 1) then cf t i (m' + 1) else _) < 1000000
      rw [if_pos ih2.1]
      exact ih2
theorem cf_rng (h : ∀ j, i ≤ j → j < i + k → 48 ≤ t j ∧ t j ≤ 57) : ∀ m, m ≤ k → 0 ≤ cf t i m ∧ cf t i m < 1000000 := by
  intro m
  induction m with
  | zero => intro _; show (0 : Int) ≤ 0 ∧ (0 : Int) < 1000000; omega
  | succ m ih =>
    intro hk
    cases m with
    | zero =>
      have := h i (by omega) (by omega)
      show 0 ≤ t i - 48 ∧ t i - 48 < 1000000
      omega
    | succ m =>
      have ih2 := ih (by omega)
      have ht := h (i + (m + 1)) (by omega) (by omega)
      show 0 ≤ (if 99999 < cf t i (m + 1) then cf t i (m + 1) else 10 * cf t i (m + 1) + t (i + (m + 1)) - 48) ∧ (if 99999 < cf t i (m + 1) then cf t i (m + 1) else 10 * cf t i (m + 1) + t (i + (m + 1)) - 48) < 1000000
      split <;> omega
theorem figs (h : isF (t i) = true) : 48 ≤ t i ∧ t i ≤ 57 := by unfold isF at h; simpa using h
theorem lp_figs {K : Mem → Option (Mem × Int)} : ∀ (m f : Nat) (k : Nat) (C : Mem), TxC C t n → C 4 3 = ((st + k : Nat) : Int) → n - (st + k) = m → st + k ≤ n → 1 ≤ k → (∀ j, st ≤ j → j < st + k → isF (t j) = true) → C 4 5 = cf t st k → m < f → f_X5_readFigures_15 K f C = K (up (up C 4 5 (cf t st (ad isF t n (st + k) - st))) 4 3 ((ad isF t n (st + k) : Nat) : Int))
  | _, 0 => by intros; omega
  | 0, f + 1 => by
    intro k C h h3 hm hk h1 hall h5 _
    have := h.2.1
    unfold f_X5_readFigures_15
    rw [h.1, h3, fLt (by omega), ad_n (by omega), show st + k - st = k by omega, up_id h5, up_id h3]
  | m + 1, f + 1 => by
    intro k C h h3 hm hk h1 hall h5 hf
    have hn := h.2.1
    have ht := (h.2.2 (st + k) (by omega)).2
    have hr := cf_rng (t := t) (i := st) (k := k) (fun j q1 q2 => figs (hall j q1 q2)) k (Nat.le_refl _)
    unfold f_X5_readFigures_15
    rw [h.1, h3, tLt (by omega), tc_at h (i := st + k) (by omega) rfl, bd_some, sp_isFig ht, bd_some, cEq_b]
    by_cases hb : isF (t (st + k)) = true
    · obtain ⟨k', rfl⟩ : ∃ k', k = k' + 1 := ⟨k - 1, by omega⟩
      have hall2 : ∀ j, st ≤ j → j < st + (k' + 1 + 1) → isF (t j) = true := by
        intro j q1 q2
        by_cases hj : j = st + (k' + 1)
        · rw [hj]; exact hb
        · exact hall j q1 (by omega)
      have hst : cf t st (k' + 1 + 1) = if 99999 < cf t st (k' + 1) then cf t st (k' + 1) else 10 * cf t st (k' + 1) + t (st + (k' + 1)) - 48 := rfl
      rw [if_pos hb, ad_y (by omega) hb, jn_eq, h5]
      by_cases hbig : 99999 < cf t st (k' + 1)
      · rw [if_pos hbig] at hst
        rw [tLt (by omega)]
        dsimp only
        rw [h3, lp_figs m f (k' + 1 + 1) (up C 4 3 (((st + (k' + 1) : Nat) : Int) + 1)) (TxC_u h (by omega)) (by rw [up_same]; omega) (by omega) (by omega) (by omega) hall2 (by rw [up_j (by omega), h5, hst]) (by omega), show st + (k' + 1 + 1) = st + (k' + 1) + 1 by omega, up_cm (b := 3) (b' := 5) (by omega), up_up]
      · rw [if_neg hbig] at hst
        rw [fLt (by omega), tc_at h (i := st + (k' + 1)) (by omega) h3, bd_some]
        dsimp only
        rw [up_j (by omega), h3, lp_figs m f (k' + 1 + 1) (up (up C 4 5 (10 * cf t st (k' + 1) + t (st + (k' + 1)) - 48)) 4 3 (((st + (k' + 1) : Nat) : Int) + 1)) (TxC_u (TxC_u h (by omega)) (by omega)) (by rw [up_same]; omega) (by omega) (by omega) (by omega) hall2 (by rw [up_j (by omega), up_same, hst]) (by omega), show st + (k' + 1 + 1) = st + (k' + 1) + 1 by omega, up_cm (b := 3) (b' := 5) (by omega), up_up, up_up]
    · rw [if_neg hb, ad_n (fun q => hb q.2), show st + k - st = k by omega, up_id h5, up_id h3]
/-- how many figures, and which number: what may be told by a token -/
def fo (t : Nat → Int) (n st : Nat) : Prop := 1 ≤ ad isF t n st - st ∧ ad isF t n st - st ≤ 5 ∧ ¬ (1 < ad isF t n st - st ∧ t st = 48)
/-- a token is read -/
theorem tc_tok (h : TxC C t n) (he : C 4 3 = (e : Int)) (hen : e ≤ n) : ∃ C', f_X5_readToken C = some (C', 0) ∧ TxC C' t n ∧ (∀ x y, x ≠ 4 → C' x y = C x y) ∧ C' 4 6 = C 4 6 ∧ C' 4 2 = ((ad isB t n e : Nat) : Int) ∧ ((n ≤ ad isB t n e ∧ C' 4 4 = 0 ∧ C' 4 3 = ((ad isB t n e : Nat) : Int)) ∨ (ad isB t n e < n ∧ ((isL (t (ad isB t n e)) = true ∧ C' 4 4 = 1 ∧ C' 4 3 = ((ad isL t n (ad isB t n e) : Nat) : Int)) ∨ (isF (t (ad isB t n e)) = true ∧ C' 4 3 = ((ad isF t n (ad isB t n e) : Nat) : Int) ∧ ((fo t n (ad isB t n e) ∧ C' 4 4 = 2 ∧ C' 4 5 = nv t (ad isB t n e) (ad isF t n (ad isB t n e) - ad isB t n e)) ∨ (¬ fo t n (ad isB t n e) ∧ C' 4 4 = 4))) ∨ (isL (t (ad isB t n e)) = false ∧ isF (t (ad isB t n e)) = false ∧ C' 4 3 = ((ad isB t n e + 1 : Nat) : Int) ∧ C' 4 4 = (if t (ad isB t n e) = 59 then 3 else 4))))) := by
  have hfu := FU_eq
  have hn := h.2.1
  have hge : e ≤ ad isB t n e := ad_ge
  have hle : ad isB t n e ≤ n := ad_le hen
  unfold f_X5_readToken
  rw [lp_skip (n - e) FU e (up C 4 2 (C 4 3)) (TxC_u h (by omega)) (by rw [up_same, he]) rfl hen (by omega), up_up]
  generalize hs : ad isB t n e = s at *
  have h1 : TxC (up C 4 2 (s : Int)) t n := TxC_u h (by omega)
  rw [up_same, h1.1]
  by_cases hend : s < n
  · have hts := (h.2.2 s hend).2
    have h2 : TxC (up (up C 4 2 (s : Int)) 4 3 ((s : Int) + 1)) t n := TxC_u h1 (by omega)
    rw [tLt (by omega), up_j (by omega), up_same, tc_at h2 hend rfl, bd_some, sp_isLet hts, bd_some, jn_eq, cEq_b]
    by_cases hL : isL (t s) = true
    · rw [if_pos hL, lp_lets (n - (s + 1)) FU (s + 1) _ (TxC_u h2 (by omega)) (by rw [up_j (by omega), up_same]; omega) rfl (by omega) (by omega), ← ad_y hend hL]
      refine ⟨_, rfl, TxC_u (TxC_u h2 (by omega)) (by omega), ?_, ?_, ?_, Or.inr ⟨hend, Or.inl ⟨hL, ?_, ?_⟩⟩⟩
      · intro x y hx; rw [up_k hx, up_k hx, up_k hx, up_k hx]
      · rw [up_j (by omega), up_j (by omega), up_j (by omega), up_j (by omega)]
      · rw [up_j (by omega), up_j (by omega), up_j (by omega), up_same]
      · rw [up_j (by omega), up_same]
      · rw [up_same]
    · rw [if_neg hL]
      dsimp only
      rw [up_j (by omega), up_same, tc_at h2 hend rfl, bd_some, sp_isFig hts, bd_some, cEq_b]
      by_cases hF : isF (t s) = true
      · rw [if_pos hF]
        unfold f_X5_readFigures
        rw [up_j (by omega), up_same, tc_at h2 hend rfl, bd_some]
        rw [lp_figs (st := s) (n - (s + 1)) FU 1 (up (up (up C 4 2 (s : Int)) 4 3 ((s : Int) + 1)) 4 5 (t s - 48)) (TxC_u h2 (by omega)) (by rw [up_j (by omega), up_same]; omega) rfl (by omega) (by omega) (fun j q1 q2 => by rw [show j = s by omega]; exact hF) (by rw [up_same]; rfl) (by omega), ← ad_y hend hF]
        have ha1 : s + 1 ≤ ad isF t n s := by rw [ad_y hend hF]; exact ad_ge
        have ha2 : ad isF t n s ≤ n := ad_le (by omega)
        have hall : ∀ j, s ≤ j → j < s + (ad isF t n s - s) → 48 ≤ t j ∧ t j ≤ 57 := fun j q1 q2 => figs (ad_in (n := n) q1 (by omega))
        have hcr := cf_rng hall (ad isF t n s - s) (Nat.le_refl _)
        generalize hE : ad isF t n s = E at *
        have h3 : TxC (up (up (up (up (up C 4 2 (s : Int)) 4 3 ((s : Int) + 1)) 4 5 (t s - 48)) 4 5 (cf t s (E - s))) 4 3 (E : Int)) t n := TxC_u (TxC_u (TxC_u h2 (by omega)) (by omega)) (by omega)
        have v2 : (up (up (up (up (up C 4 2 (s : Int)) 4 3 ((s : Int) + 1)) 4 5 (t s - 48)) 4 5 (cf t s (E - s))) 4 3 (E : Int)) 4 2 = (s : Int) := by rw [up_j (by omega), up_j (by omega), up_j (by omega), up_j (by omega), up_same]
        have v3 : (up (up (up (up (up C 4 2 (s : Int)) 4 3 ((s : Int) + 1)) 4 5 (t s - 48)) 4 5 (cf t s (E - s))) 4 3 (E : Int)) 4 3 = (E : Int) := up_same
        have v5 : (up (up (up (up (up C 4 2 (s : Int)) 4 3 ((s : Int) + 1)) 4 5 (t s - 48)) 4 5 (cf t s (E - s))) 4 3 (E : Int)) 4 5 = cf t s (E - s) := by rw [up_j (by omega), up_same]
        have v6 : (up (up (up (up (up C 4 2 (s : Int)) 4 3 ((s : Int) + 1)) 4 5 (t s - 48)) 4 5 (cf t s (E - s))) 4 3 (E : Int)) 4 6 = C 4 6 := by rw [up_j (by omega), up_j (by omega), up_j (by omega), up_j (by omega), up_j (by omega)]
        have vo : ∀ x y, x ≠ 4 → (up (up (up (up (up C 4 2 (s : Int)) 4 3 ((s : Int) + 1)) 4 5 (t s - 48)) 4 5 (cf t s (E - s))) 4 3 (E : Int)) x y = C x y := by
          intro x y hx; rw [up_k hx, up_k hx, up_k hx, up_k hx, up_k hx]
        generalize up (up (up (up (up C 4 2 (s : Int)) 4 3 ((s : Int) + 1)) 4 5 (t s - 48)) 4 5 (cf t s (E - s))) 4 3 (E : Int) = M at *
        rw [v2, tc_at h3 hend rfl, bd_some, jn_eq]
        dsimp only
        rw [jn_eq, v3, v5, v2]
        have wrong : ¬ fo t n s → ∃ C', some (up M 4 4 4, (0 : Int)) = some (C', 0) ∧ TxC C' t n ∧ (∀ x y, x ≠ 4 → C' x y = C x y) ∧ C' 4 6 = C 4 6 ∧ C' 4 2 = (s : Int) ∧ ((n ≤ s ∧ C' 4 4 = 0 ∧ C' 4 3 = (s : Int)) ∨ (s < n ∧ ((isL (t s) = true ∧ C' 4 4 = 1 ∧ C' 4 3 = ((ad isL t n s : Nat) : Int)) ∨ (isF (t s) = true ∧ C' 4 3 = (E : Int) ∧ ((fo t n s ∧ C' 4 4 = 2 ∧ C' 4 5 = nv t s (E - s)) ∨ (¬ fo t n s ∧ C' 4 4 = 4))) ∨ (isL (t s) = false ∧ isF (t s) = false ∧ C' 4 3 = ((s + 1 : Nat) : Int) ∧ C' 4 4 = (if t s = 59 then 3 else 4))))) := by
          intro hno
          refine ⟨_, rfl, TxC_u h3 (by omega), fun x y hx => by rw [up_k hx]; exact vo x y hx, by rw [up_j (by omega)]; exact v6, by rw [up_j (by omega)]; exact v2, Or.inr ⟨hend, Or.inr (Or.inl ⟨hF, by rw [up_j (by omega)]; exact v3, Or.inr ⟨hno, up_same⟩⟩)⟩⟩
        have right : fo t n s → cf t s (E - s) = nv t s (E - s) → ∃ C', some (up M 4 4 2, (0 : Int)) = some (C', 0) ∧ TxC C' t n ∧ (∀ x y, x ≠ 4 → C' x y = C x y) ∧ C' 4 6 = C 4 6 ∧ C' 4 2 = (s : Int) ∧ ((n ≤ s ∧ C' 4 4 = 0 ∧ C' 4 3 = (s : Int)) ∨ (s < n ∧ ((isL (t s) = true ∧ C' 4 4 = 1 ∧ C' 4 3 = ((ad isL t n s : Nat) : Int)) ∨ (isF (t s) = true ∧ C' 4 3 = (E : Int) ∧ ((fo t n s ∧ C' 4 4 = 2 ∧ C' 4 5 = nv t s (E - s)) ∨ (¬ fo t n s ∧ C' 4 4 = 4))) ∨ (isL (t s) = false ∧ isF (t s) = false ∧ C' 4 3 = ((s + 1 : Nat) : Int) ∧ C' 4 4 = (if t s = 59 then 3 else 4))))) := by
          intro hyes hcv
          refine ⟨_, rfl, TxC_u h3 (by omega), fun x y hx => by rw [up_k hx]; exact vo x y hx, by rw [up_j (by omega)]; exact v6, by rw [up_j (by omega)]; exact v2, Or.inr ⟨hend, Or.inr (Or.inl ⟨hF, by rw [up_j (by omega)]; exact v3, Or.inl ⟨hyes, up_same, by rw [up_j (by omega), v5]; exact hcv⟩⟩)⟩⟩
        have h48 := figs hF
        have hfo : fo t n s ↔ 1 ≤ E - s ∧ E - s ≤ 5 ∧ ¬ (1 < E - s ∧ t s = 48) := by unfold fo; rw [hE]
        by_cases hbig : 99999 < cf t s (E - s)
        · have hno : ¬ fo t n s := by
            intro hh
            have hh := hfo.mp hh
            obtain ⟨c1, c2, c3⟩ := cf_nv hall (E - s) (by omega) (Nat.le_refl _) hh.2.1
            have c4 := (p10_le (E - s) hh.2.1).1
            omega
          by_cases hz : t s = 48
          · rw [tEq (by omega)]
            by_cases hk : 1 < (E : Int) - (s : Int)
            · rw [tLt (by omega)]
              rw [tLt (by omega)]
              exact wrong hno
            · rw [fLt (by omega)]
              rw [tLt (by omega)]
              exact wrong hno
          · rw [fEq (by omega)]
            rw [tLt (by omega)]
            exact wrong hno
        · have hsm : E - s ≤ 5 ∨ t s = 48 := by
            by_cases hz : t s = 48
            · exact Or.inr hz
            · refine Or.inl ?_
              by_cases h5 : E - s ≤ 5
              · exact h5
              · exact absurd (cf_big hall hz (E - s) (by omega) (Nat.le_refl _)).1 hbig
          by_cases hz : t s = 48
          · rw [tEq (by omega)]
            by_cases hk : 1 < (E : Int) - (s : Int)
            · rw [tLt (by omega)]
              rw [fLt (by omega), fEq (by omega)]
              exact wrong (fun hh => (hfo.mp hh).2.2 ⟨by omega, hz⟩)
            · rw [fLt (by omega)]
              rw [fLt (by omega), tEq (by omega)]
              exact right (hfo.mpr ⟨by omega, by omega, fun hh => by omega⟩) (cf_nv hall (E - s) (by omega) (Nat.le_refl _) (by omega)).1
          · rw [fEq (by omega)]
            rw [fLt (by omega), tEq (by omega)]
            have h5 : E - s ≤ 5 := by
              rcases hsm with q | q
              · exact q
              · exact absurd q hz
            exact right (hfo.mpr ⟨by omega, h5, fun hh => hz hh.2⟩) (cf_nv hall (E - s) (by omega) (Nat.le_refl _) h5).1
      · have hL' : isL (t s) = false := by cases hq : isL (t s) with | true => exact absurd hq hL | false => rfl
        have hF' : isF (t s) = false := by cases hq : isF (t s) with | true => exact absurd hq hF | false => rfl
        rw [if_neg hF, up_j (by omega), up_same, tc_at h2 hend rfl, bd_some]
        have fin : ∀ q : Int, q = (if t s = 59 then 3 else 4) → ∃ C', some (up (up (up C 4 2 (s : Int)) 4 3 ((s : Int) + 1)) 4 4 q, (0 : Int)) = some (C', 0) ∧ TxC C' t n ∧ (∀ x y, x ≠ 4 → C' x y = C x y) ∧ C' 4 6 = C 4 6 ∧ C' 4 2 = (s : Int) ∧ ((n ≤ s ∧ C' 4 4 = 0 ∧ C' 4 3 = (s : Int)) ∨ (s < n ∧ ((isL (t s) = true ∧ C' 4 4 = 1 ∧ C' 4 3 = ((ad isL t n s : Nat) : Int)) ∨ (isF (t s) = true ∧ C' 4 3 = ((ad isF t n s : Nat) : Int) ∧ ((fo t n s ∧ C' 4 4 = 2 ∧ C' 4 5 = nv t s (ad isF t n s - s)) ∨ (¬ fo t n s ∧ C' 4 4 = 4))) ∨ (isL (t s) = false ∧ isF (t s) = false ∧ C' 4 3 = ((s + 1 : Nat) : Int) ∧ C' 4 4 = (if t s = 59 then 3 else 4))))) := by
          intro q hq
          refine ⟨_, rfl, TxC_u h2 (by omega), fun x y hx => by rw [up_k hx, up_k hx, up_k hx], by rw [up_j (by omega), up_j (by omega), up_j (by omega)], by rw [up_j (by omega), up_j (by omega), up_same], Or.inr ⟨hend, Or.inr (Or.inr ⟨hL', hF', by rw [up_j (by omega), up_same]; omega, by rw [up_same]; exact hq⟩)⟩⟩
        by_cases h59 : t s = 59
        · rw [tEq (by omega)]
          exact fin 3 (by rw [if_pos h59])
        · rw [fEq (by omega)]
          exact fin 4 (by rw [if_neg h59])
  · rw [fLt (by omega), up_j (by omega), up_same]
    exact ⟨_, rfl, TxC_u (TxC_u h1 (by omega)) (by omega), fun x y hx => by rw [up_k hx, up_k hx, up_k hx], by rw [up_j (by omega), up_j (by omega), up_j (by omega)], by rw [up_j (by omega), up_j (by omega), up_same], Or.inl ⟨by omega, by rw [up_j (by omega), up_same], up_same⟩⟩
end TX
end
section
/-! THE TEXT: numbers, keys, ends, on both sides. -/
def nE (t : Nat → Int) (n e : Nat) : Nat := ad isF t n (ad isB t n e)
def nV (t : Nat → Int) (n e : Nat) : Int := nv t (ad isB t n e) (nE t n e - ad isB t n e)
def NumOk (t : Nat → Int) (n e : Nat) (lo hi : Int) : Prop := fo t n (ad isB t n e) ∧ lo ≤ nV t n e ∧ nV t n e ≤ hi
def kEn (t : Nat → Int) (n e : Nat) : Nat := ad isL t n (ad isB t n e)
def KeyOk (t : Nat → Int) (n e : Nat) : Prop := 1 ≤ kEn t n e - ad isB t n e ∧ kEn t n e - ad isB t n e ≤ 8
def sub (t : Nat → Int) (i : Nat) : Nat → List Int
  | 0 => []
  | k + 1 => sub t i k ++ [t (i + k)]
def kW (t : Nat → Int) (n e : Nat) : List Int := sub t (ad isB t n e) (kEn t n e - ad isB t n e)
def StopOk (t : Nat → Int) (n e : Nat) : Prop := ad isB t n e < n ∧ t (ad isB t n e) = 59
section T2
variable {C C' X X' : Mem} {t : Nat → Int} {n i e st k : Nat} {p : Int → Bool} {z lo hi' : Int}
theorem sub_len : ∀ k, (sub t i k).length = k
  | 0 => rfl
  | k + 1 => by show (sub t i k ++ [_]).length = _; simp [sub_len k]
theorem sub_gd : ∀ k j, j < k → (sub t i k).getD j 0 = t (i + j)
  | 0, j => by intro h; omega
  | k + 1, j => by
    intro h
    show (sub t i k ++ [t (i + k)]).getD j 0 = _
    by_cases hj : j < k
    · rw [gd_l (by rw [sub_len]; exact hj), sub_gd k j hj]
    · have : j = k := by omega
      subst this
      rw [gd_r (by rw [sub_len]; omega), sub_len, Nat.sub_self]
      rfl
theorem sub_mem : ∀ k (x : Int), x ∈ sub t i k → ∃ j, i ≤ j ∧ j < i + k ∧ x = t j
  | 0, x => by intro h; cases h
  | k + 1, x => by
    intro h
    rcases List.mem_append.mp h with h | h
    · obtain ⟨j, q1, q2, q3⟩ := sub_mem k x h
      exact ⟨j, q1, by omega, q3⟩
    · exact ⟨i + k, by omega, by omega, List.mem_singleton.mp h⟩
theorem lets (h : isL (t i) = true) : 97 ≤ t i ∧ t i ≤ 122 := by unfold isL at h; simpa using h
theorem kW_ok (h : KeyOk t n e) : LOk (kW t n e) ∧ 1 ≤ (kW t n e).length := by
  unfold kW
  rw [sub_len]
  refine ⟨⟨by rw [sub_len]; exact h.2, ?_⟩, h.1⟩
  intro x hx
  obtain ⟨j, q1, q2, q3⟩ := sub_mem _ x hx
  rw [q3]
  exact lets (ad_in (n := n) q1 (by show j < kEn t n e; omega))
theorem tx_here (h : TxX X t n) (hi : X 95 31 = (i : Int)) (hin' : i ≤ n) : f_X8_here X = some (X, if i < n then t i else -9) := by
  have hn := h.2.1
  unfold f_X8_here
  rw [hi, h.1]
  by_cases hin : i < n
  · rw [tLt (by omega), ix_t (by omega), nat2 rfl, (h.2.2 i hin).1, if_pos hin]
  · rw [fLt (by omega), if_neg hin]
theorem lm_skip {K : Mem → Option (Mem × Int)} : ∀ (m f : Nat) (i : Nat) (X : Mem), TxX X t n → X 95 31 = (i : Int) → n - i = m → i ≤ n → m < f → f_X8_skip_0 K f X = K (up X 95 31 ((ad isB t n i : Nat) : Int))
  | _, 0 => by intros; omega
  | 0, f + 1 => by
    intro i X h h2 hm hi _
    unfold f_X8_skip_0
    rw [tx_here h h2 hi, bd_some, if_neg (by omega), fEq (by omega), ad_n (by omega), up_id h2]
  | m + 1, f + 1 => by
    intro i X h h2 hm hi hf
    have hn := h.2.1
    have ht := (h.2.2 i (by omega)).2
    unfold f_X8_skip_0
    rw [tx_here h h2 hi, bd_some, if_pos (by omega)]
    by_cases hb : t i = 32
    · rw [tEq (by omega), ad_y (by omega) (by unfold isB; simpa using hb), h2, lm_skip m f (i + 1) (up X 95 31 ((i : Int) + 1)) (TxX_u h (by omega)) (by rw [up_same]; omega) (by omega) (by omega) (by omega), up_up]
    · rw [fEq (by omega), ad_n (by unfold isB; simp; intro _; exact hb), up_id h2]
theorem tx_skip (h : TxX X t n) (hi : X 95 31 = (i : Int)) (hin : i ≤ n) : f_X8_skip X = some (up X 95 31 ((ad isB t n i : Nat) : Int), 0) := by
  have hfu := FU_eq
  have hn := h.2.1
  unfold f_X8_skip
  rw [lm_skip (n - i) FU i X h hi rfl hin (by omega)]
theorem tx_inL (hz : 0 ≤ z ∧ z ≤ 255) : f_X8_in z 97 122 X = some (X, if isL z = true then 1 else 0) := by
  rw [mx_within (by simp only [R32]; omega) (by simp only [R32]; omega) (by simp only [R32]; omega)]
  unfold isL
  by_cases h : 97 ≤ z ∧ z ≤ 122
  · rw [if_pos h, if_pos (by simpa using h)]
  · rw [if_neg h, if_neg (by simpa using h)]
theorem tx_inF (hz : 0 ≤ z ∧ z ≤ 255) : f_X8_in z 48 57 X = some (X, if isF z = true then 1 else 0) := by
  rw [mx_within (by simp only [R32]; omega) (by simp only [R32]; omega) (by simp only [R32]; omega)]
  unfold isF
  by_cases h : 48 ≤ z ∧ z ≤ 57
  · rw [if_pos h, if_pos (by simpa using h)]
  · rw [if_neg h, if_neg (by simpa using h)]
theorem lm_lets {K : Int → Mem → Option (Mem × Int)} (h : TxX X t n) (hi : X 95 31 = (i : Int)) : ∀ (m f : Nat) (j : Nat) (v : Int), v = (j : Int) → n - (i + j) = m → i + j ≤ n → m < f → f_X8_lettersHere_2 K f v X = K (((ad isL t n (i + j) - i : Nat)) : Int) X
  | _, 0 => by intros; omega
  | 0, f + 1 => by
    intro j v hv hm hj _
    have hn := h.2.1
    unfold f_X8_lettersHere_2
    rw [hi, h.1, fLt (by omega), ad_n (by omega), show i + j - i = j by omega, hv]
  | m + 1, f + 1 => by
    intro j v hv hm hj hf
    have hn := h.2.1
    have ht := (h.2.2 (i + j) (by omega)).2
    unfold f_X8_lettersHere_2
    rw [hi, h.1, tLt (by omega), ix_t (by omega), show ((i : Int) + v).toNat = i + j by omega, (h.2.2 (i + j) (by omega)).1, tx_inL ht, bd_some, cEq_b]
    by_cases hb : isL (t (i + j)) = true
    · rw [if_pos hb, ad_y (by omega) hb, lm_lets h hi m f (j + 1) (v + 1) (by omega) (by omega) (by omega) (by omega), show i + (j + 1) = i + j + 1 by omega]
    · rw [if_neg hb, ad_n (fun q => hb q.2), show i + j - i = j by omega, hv]
theorem tx_letters (h : TxX X t n) (hi : X 95 31 = (i : Int)) (hin : i ≤ n) : f_X8_lettersHere X = some (X, ((ad isL t n i - i : Nat) : Int)) := by
  have hfu := FU_eq
  have hn := h.2.1
  unfold f_X8_lettersHere
  rw [lm_lets h hi (n - i) FU 0 0 rfl rfl (by omega) (by omega), Nat.add_zero]
theorem lm_num {K : Int → Int → Mem → Option (Mem × Int)} {u1 u2 : Int} (h : TxX X t n) (hi : X 95 31 = (i : Int)) : ∀ (m f : Nat) (j : Nat) (v3 v4 : Int), v3 = (j : Int) → v4 = nv t i (min j 5) → n - (i + j) = m → i + j ≤ n → (∀ q, i ≤ q → q < i + j → isF (t q) = true) → m < f → f_X8_number_9 u1 u2 K f v3 v4 X = K (((ad isF t n (i + j) - i : Nat)) : Int) (nv t i (min (ad isF t n (i + j) - i) 5)) X
  | _, 0 => by intros; omega
  | 0, f + 1 => by
    intro j v3 v4 h3 h4 hm hj _ _
    have hn := h.2.1
    unfold f_X8_number_9
    rw [hi, h.1, fLt (by omega), ad_n (by omega), show i + j - i = j by omega, h3, h4]
  | m + 1, f + 1 => by
    intro j v3 v4 h3 h4 hm hj hall hf
    have hn := h.2.1
    have ht := (h.2.2 (i + j) (by omega)).2
    unfold f_X8_number_9
    rw [hi, h.1, tLt (by omega), ix_t (by omega), show ((i : Int) + v3).toNat = i + j by omega, (h.2.2 (i + j) (by omega)).1, tx_inF ht, bd_some, cEq_b]
    by_cases hb : isF (t (i + j)) = true
    · have hall2 : ∀ q, i ≤ q → q < i + (j + 1) → isF (t q) = true := by
        intro q q1 q2
        by_cases hq : q = i + j
        · rw [hq]; exact hb
        · exact hall q q1 (by omega)
      rw [if_pos hb, ad_y (by omega) hb]
      by_cases h5 : j < 5
      · rw [tLt (by omega), hi, ix_t (by omega), show ((i : Int) + v3).toNat = i + j by omega, (h.2.2 (i + j) (by omega)).1]
        rw [lm_num h hi m f (j + 1) (v3 + 1) (10 * v4 + t (i + j) - 48) (by omega) (by rw [show min (j + 1) 5 = j + 1 by omega, h4, show min j 5 = j by omega]; rfl) (by omega) (by omega) hall2 (by omega), show i + (j + 1) = i + j + 1 by omega]
      · rw [fLt (by omega)]
        rw [lm_num h hi m f (j + 1) (v3 + 1) v4 (by omega) (by rw [h4, show min (j + 1) 5 = 5 by omega, show min j 5 = 5 by omega]) (by omega) (by omega) hall2 (by omega), show i + (j + 1) = i + j + 1 by omega]
    · rw [if_neg hb, ad_n (fun q => hb q.2), show i + j - i = j by omega, h3, h4]
theorem nv_rng (h : ∀ j, i ≤ j → j < i + k → 48 ≤ t j ∧ t j ≤ 57) (hk : k ≤ 5) : 0 ≤ nv t i k ∧ nv t i k ≤ 99999 := by
  by_cases h1 : 1 ≤ k
  · obtain ⟨_, c2, c3⟩ := cf_nv h k h1 (Nat.le_refl _) hk
    have := (p10_le k hk).1
    omega
  · have : k = 0 := by omega
    subst this
    show (0 : Int) ≤ 0 ∧ (0 : Int) ≤ 99999
    omega
/-- the model's number -/
theorem tx_number (h : TxX X t n) (hi : X 95 31 = (e : Int)) (hin : e ≤ n) (hlo : 0 ≤ lo ∧ lo ≤ 100000) (hhi : 0 ≤ hi' ∧ hi' ≤ 100000) : (NumOk t n e lo hi' ∧ f_X8_number lo hi' X = some (up (up (up X 95 31 ((ad isB t n e : Nat) : Int)) 95 32 (nV t n e)) 95 31 ((nE t n e : Nat) : Int), 1)) ∨ (¬ NumOk t n e lo hi' ∧ f_X8_number lo hi' X = some (up X 95 31 ((ad isB t n e : Nat) : Int), 0)) := by
  have hfu := FU_eq
  have hn := h.2.1
  have hge : e ≤ ad isB t n e := ad_ge
  have hle : ad isB t n e ≤ n := ad_le hin
  have h1 : TxX (up X 95 31 ((ad isB t n e : Nat) : Int)) t n := TxX_u h (by omega)
  unfold f_X8_number
  rw [tx_skip h hi hin, bd_some, lm_num (i := ad isB t n e) h1 up_same (n - ad isB t n e) FU 0 0 0 rfl rfl (by omega) (by omega) (fun q q1 q2 => by omega) (by omega), Nat.add_zero]
  unfold NumOk fo nV nE
  generalize hs : ad isB t n e = s at *
  have hFge : s ≤ ad isF t n s := ad_ge
  have hFle : ad isF t n s ≤ n := ad_le (by omega)
  have hall : ∀ j, s ≤ j → j < s + (ad isF t n s - s) → 48 ≤ t j ∧ t j ≤ 57 := fun j q1 q2 => figs (ad_in (n := n) q1 (by omega))
  generalize hE : ad isF t n s = E at *
  rw [mx_within (by simp only [R32]; omega) (by simp only [R32]; omega) (by simp only [R32]; omega), bd_some, cEq_b]
  by_cases hk : (1 : Int) ≤ ((E - s : Nat) : Int) ∧ ((E - s : Nat) : Int) ≤ 5
  · have hr := nv_rng hall (by omega)
    rw [if_pos hk, jn_eq, show min (E - s) 5 = E - s by omega]
    have hsn : s < n := by omega
    have hts := (h.2.2 s hsn).2
    have fin : ¬ (1 < E - s ∧ t s = 48) → ((((1 ≤ E - s ∧ E - s ≤ 5 ∧ ¬ (1 < E - s ∧ t s = 48)) ∧ lo ≤ nv t s (E - s) ∧ nv t s (E - s) ≤ hi') ∧ (bd (f_X8_in (nv t s (E - s)) lo hi' (up X 95 31 (s : Int))) (fun C108 r108 => (cEq (r108) 0 (some (C108, (0 : Int))) (some ((up (up C108 95 32 (nv t s (E - s))) 95 31 (((up C108 95 32 (nv t s (E - s))) 95 31) + ((E - s : Nat) : Int))), 1))))) = some (up (up (up X 95 31 (s : Int)) 95 32 (nv t s (E - s))) 95 31 (E : Int), 1)) ∨ (¬ ((1 ≤ E - s ∧ E - s ≤ 5 ∧ ¬ (1 < E - s ∧ t s = 48)) ∧ lo ≤ nv t s (E - s) ∧ nv t s (E - s) ≤ hi') ∧ (bd (f_X8_in (nv t s (E - s)) lo hi' (up X 95 31 (s : Int))) (fun C108 r108 => (cEq (r108) 0 (some (C108, (0 : Int))) (some ((up (up C108 95 32 (nv t s (E - s))) 95 31 (((up C108 95 32 (nv t s (E - s))) 95 31) + ((E - s : Nat) : Int))), 1))))) = some (up X 95 31 (s : Int), 0))) := by
      intro hz
      rw [mx_within (by simp only [R32]; omega) (by simp only [R32]; omega) (by simp only [R32]; omega), bd_some, cEq_b]
      by_cases hr2 : lo ≤ nv t s (E - s) ∧ nv t s (E - s) ≤ hi'
      · refine Or.inl ⟨⟨⟨by omega, by omega, hz⟩, hr2⟩, ?_⟩
        rw [if_pos hr2, up_j (by omega), up_same, show (s : Int) + ((E - s : Nat) : Int) = (E : Int) by omega]
      · refine Or.inr ⟨fun q => hr2 q.2, ?_⟩
        rw [if_neg hr2]
    by_cases h1k : (1 : Int) < ((E - s : Nat) : Int)
    · rw [tLt (by omega), tx_here h1 up_same (by omega), bd_some, if_pos hsn]
      by_cases hz : t s = 48
      · rw [tEq (by omega)]
        exact Or.inr ⟨fun q => q.1.2.2 ⟨by omega, hz⟩, rfl⟩
      · rw [fEq (by omega)]
        dsimp only
        exact fin (fun q => hz q.2)
    · rw [fLt (by omega)]
      dsimp only
      exact fin (fun q => by omega)
  · rw [if_neg hk]
    exact Or.inr ⟨fun q => hk (by omega), rfl⟩
end T2
end
section
/-! THE TEXT: numbers, keys, ends: class and model together. -/
section T3
variable {C C' X X' : Mem} {t : Nat → Int} {n i e st k : Nat} {p : Int → Bool} {z lo hi' : Int}
theorem both_num (h1 : TxC C t n) (h2 : TxX X t n) (hC : C 4 3 = (e : Int)) (hX : X 95 31 = (e : Int)) (he : e ≤ n) (hk : k < 3) {kz : Int} (hkz : kz = (k : Int)) (hlo : 0 ≤ lo ∧ lo ≤ 100000) (hhi : 0 ≤ hi' ∧ hi' ≤ 100000) : (NumOk t n e lo hi' ∧ ∃ C' X', f_X5_readNumber kz lo hi' C = some (C', 1) ∧ f_X8_number lo hi' X = some (X', 1) ∧ TxC C' t n ∧ TxX X' t n ∧ C' 4 3 = ((nE t n e : Nat) : Int) ∧ X' 95 31 = ((nE t n e : Nat) : Int) ∧ C' 26 k = nV t n e ∧ X' 95 32 = nV t n e ∧ (∀ x y, x ≠ 4 → ¬ (x = 26 ∧ y = k) → C' x y = C x y) ∧ C' 4 6 = C 4 6 ∧ (∀ a b, ¬ (a = 95 ∧ (b = 31 ∨ b = 32)) → X' a b = X a b) ∧ C' 4 2 = ((ad isB t n e : Nat) : Int)) ∨ (¬ NumOk t n e lo hi' ∧ ∃ C' X' q, f_X5_readNumber kz lo hi' C = some (C', 0) ∧ f_X8_number lo hi' X = some (X', 0) ∧ TxC C' t n ∧ TxX X' t n ∧ C' 4 2 = ((q : Nat) : Int) ∧ X' 95 31 = ((q : Nat) : Int) ∧ q ≤ n ∧ (∀ x y, x ≠ 4 → C' x y = C x y) ∧ (∀ a b, ¬ (a = 95 ∧ b = 31) → X' a b = X a b) ∧ q = ad isB t n e) := by
  obtain ⟨C', r1, r2, r3, r4, r5, r6⟩ := tc_tok h1 hC he
  have hn := h1.2.1
  have hsle : ad isB t n e ≤ n := ad_le he
  have kind : (fo t n (ad isB t n e) ∧ C' 4 4 = 2 ∧ C' 4 5 = nV t n e ∧ C' 4 3 = ((nE t n e : Nat) : Int)) ∨ (¬ fo t n (ad isB t n e) ∧ C' 4 4 ≠ 2 ∧ 0 ≤ C' 4 4 ∧ C' 4 4 ≤ 4) := by
    rcases r6 with ⟨q1, q2, q3⟩ | ⟨q1, q | q | q⟩
    · refine Or.inr ⟨?_, by omega, by omega, by omega⟩
      intro hf
      have := hf.1
      rw [ad_n (by omega)] at this
      omega
    · refine Or.inr ⟨?_, by omega, by omega, by omega⟩
      intro hf
      have hl := lets q.1
      have := hf.1
      rw [ad_n (by intro hh; have := figs hh.2; omega)] at this
      omega
    · obtain ⟨q2, q3, q4 | q4⟩ := q
      · exact Or.inl ⟨q4.1, q4.2.1, q4.2.2, q3⟩
      · exact Or.inr ⟨q4.1, by omega, by omega, by omega⟩
    · refine Or.inr ⟨?_, ?_, ?_, ?_⟩
      · intro hf
        have := hf.1
        rw [ad_n (by intro hh; rw [q.2.1] at hh; exact absurd hh.2 (by decide))] at this
        omega
      · rw [q.2.2.2]; split <;> omega
      · rw [q.2.2.2]; split <;> omega
      · rw [q.2.2.2]; split <;> omega
  have hmod := tx_number h2 hX he hlo hhi
  rcases kind with ⟨k1, k2, k3, k4⟩ | ⟨k1, k2, k3, k4⟩
  · have hall : ∀ j, ad isB t n e ≤ j → j < ad isB t n e + (nE t n e - ad isB t n e) → 48 ≤ t j ∧ t j ≤ 57 := fun j q1 q2 => figs (ad_in (n := n) q1 (by show j < nE t n e; omega))
    have hr : 0 ≤ nV t n e ∧ nV t n e ≤ 99999 := nv_rng hall k1.2.1
    have preC : f_X5_readNumber kz lo hi' C = (cEq (if lo ≤ nV t n e ∧ nV t n e ≤ hi' then 1 else 0) 0 (some (C', 0)) (some (up C' 26 k (nV t n e), 1))) := by
      unfold f_X5_readNumber
      rw [r1, bd_some, tEq (by omega), k3, sp_within (by simp only [R32]; omega) (by simp only [R32]; omega) (by simp only [R32]; omega), bd_some, fLt (a := kz) (by omega), tLt (a := kz) (by omega), ix_t (by omega), nat2 hkz, k3]
    rw [cEq_b] at preC
    by_cases hin : lo ≤ nV t n e ∧ nV t n e ≤ hi'
    · rw [if_pos hin] at preC
      rcases hmod with ⟨m1, m2⟩ | ⟨m1, m2⟩
      · refine Or.inl ⟨m1, _, _, preC, m2, ⟨by rw [up_k (by omega)]; exact r2.1, r2.2.1, fun j hj => by rw [up_k (by omega)]; exact r2.2.2 j hj⟩, TxX_u (TxX_u (TxX_u h2 (by omega)) (by omega)) (by omega), by rw [up_k (by omega)]; exact k4, up_same, up_same, by rw [up_j (by omega), up_same], ?_, by rw [up_k (by omega)]; exact r4, ?_, by rw [up_k (by omega)]; exact r5⟩
        · intro x y hx hy
          rw [up_ap, if_neg hy]; exact r3 x y hx
        · intro a b hab
          rw [up_ap, if_neg (by omega), up_ap, if_neg (by omega), up_ap, if_neg (by omega)]
      · exact absurd ⟨k1, hin⟩ m1
    · rw [if_neg hin] at preC
      rcases hmod with ⟨m1, m2⟩ | ⟨m1, m2⟩
      · exact absurd m1.2 hin
      · refine Or.inr ⟨m1, _, _, ad isB t n e, preC, m2, r2, TxX_u h2 (by omega), r5, up_same, hsle, r3, ?_, rfl⟩
        intro a b hab
        rw [up_ap, if_neg hab]
  · have preC : f_X5_readNumber kz lo hi' C = some (C', 0) := by
      unfold f_X5_readNumber
      rw [r1, bd_some, fEq (by omega)]
    rcases hmod with ⟨m1, m2⟩ | ⟨m1, m2⟩
    · exact absurd m1.1 k1
    · refine Or.inr ⟨m1, _, _, ad isB t n e, preC, m2, r2, TxX_u h2 (by omega), r5, up_same, hsle, r3, ?_, rfl⟩
      intro a b hab
      rw [up_ap, if_neg hab]
theorem both_stop (h1 : TxC C t n) (h2 : TxX X t n) (hC : C 4 3 = (e : Int)) (hX : X 95 31 = (e : Int)) (he : e ≤ n) : (StopOk t n e ∧ ∃ C' X', f_X5_readStop C = some (C', 1) ∧ f_X8_ends X = some (X', 1) ∧ TxC C' t n ∧ TxX X' t n ∧ C' 4 3 = ((ad isB t n e + 1 : Nat) : Int) ∧ X' 95 31 = ((ad isB t n e + 1 : Nat) : Int) ∧ (∀ x y, x ≠ 4 → C' x y = C x y) ∧ C' 4 6 = C 4 6 ∧ (∀ a b, ¬ (a = 95 ∧ b = 31) → X' a b = X a b)) ∨ (¬ StopOk t n e ∧ ∃ C' X' q, f_X5_readStop C = some (C', 0) ∧ f_X8_ends X = some (X', 0) ∧ TxC C' t n ∧ TxX X' t n ∧ C' 4 2 = ((q : Nat) : Int) ∧ X' 95 31 = ((q : Nat) : Int) ∧ q ≤ n ∧ (∀ x y, x ≠ 4 → C' x y = C x y) ∧ (∀ a b, ¬ (a = 95 ∧ b = 31) → X' a b = X a b)) := by
  obtain ⟨C', r1, r2, r3, r4, r5, r6⟩ := tc_tok h1 hC he
  have hn := h1.2.1
  have hsle : ad isB t n e ≤ n := ad_le he
  have kind : (StopOk t n e ∧ C' 4 4 = 3 ∧ C' 4 3 = ((ad isB t n e + 1 : Nat) : Int)) ∨ (¬ StopOk t n e ∧ C' 4 4 ≠ 3 ∧ 0 ≤ C' 4 4 ∧ C' 4 4 ≤ 4) := by
    rcases r6 with ⟨q1, q2, q3⟩ | ⟨q1, q | q | q⟩
    · exact Or.inr ⟨fun hh => by have := hh.1; omega, by omega, by omega, by omega⟩
    · exact Or.inr ⟨fun hh => by have := hh.2; have := lets q.1; omega, by omega, by omega, by omega⟩
    · have hf := figs q.1
      obtain ⟨q2, q3, q4 | q4⟩ := q
      · exact Or.inr ⟨fun hh => by have := hh.2; omega, by omega, by omega, by omega⟩
      · exact Or.inr ⟨fun hh => by have := hh.2; omega, by omega, by omega, by omega⟩
    · by_cases h59 : t (ad isB t n e) = 59
      · exact Or.inl ⟨⟨q1, h59⟩, by rw [q.2.2.2, if_pos h59], q.2.2.1⟩
      · have := q.2.2.2
        rw [if_neg h59] at this
        exact Or.inr ⟨fun hh => h59 hh.2, by omega, by omega, by omega⟩
  have preX : f_X8_ends X = (cEq (if ad isB t n e < n then t (ad isB t n e) else -9) (59) (some ((up (up X 95 31 ((ad isB t n e : Nat) : Int)) 95 31 ((ad isB t n e : Nat) + 1 : Int)), 1)) (some (up X 95 31 ((ad isB t n e : Nat) : Int), 0))) := by
    unfold f_X8_ends
    rw [tx_skip h2 hX he, bd_some, tx_here (TxX_u h2 (by omega)) up_same hsle, bd_some, up_same]
  rcases kind with ⟨k1, k2, k3⟩ | ⟨k1, k2, k3, k4⟩
  · refine Or.inl ⟨k1, C', _, ?_, ?_, r2, TxX_u (TxX_u h2 (y := 31) (z := ((ad isB t n e : Nat) : Int)) (by omega)) (y := 31) (z := ((ad isB t n e : Nat) : Int) + 1) (by omega), k3, ?_, r3, r4, ?_⟩
    · unfold f_X5_readStop
      rw [r1, bd_some, tEq (by omega)]
    · rw [preX, if_pos k1.1, k1.2, tEq (by omega)]
    · rw [up_same]; omega
    · intro a b hab
      rw [up_ap, if_neg hab, up_ap, if_neg hab]
  · have hX2 : f_X8_ends X = some (up X 95 31 ((ad isB t n e : Nat) : Int), 0) := by
      rw [preX]
      by_cases hlt : ad isB t n e < n
      · have ht := (h1.2.2 _ hlt).2
        rw [if_pos hlt, fEq ⟨by omega, by omega, by omega, by omega, fun hh => k1 ⟨hlt, hh⟩⟩]
      · rw [if_neg hlt, fEq (by omega)]
    refine Or.inr ⟨k1, C', _, ad isB t n e, ?_, hX2, r2, TxX_u h2 (by omega), r5, up_same, hsle, r3, ?_⟩
    · unfold f_X5_readStop
      rw [r1, bd_some, fEq (by omega)]
    · intro a b hab
      rw [up_ap, if_neg hab]
/-- letters of a key: the class -/
theorem lp_tkey {K : Int → Mem → Option (Mem × Int)} {s E : Nat} (h8 : E - s ≤ 8) : ∀ (m f : Nat) (j : Nat) (v : Int) (M : Mem), TxC M t n → M 4 3 = (E : Int) → E ≤ n → v = ((s + j : Nat) : Int) → s + j + m = E → m < f → f_X5_readKey_40 K f v (stK M 4 (sub t s j)) = K (E : Int) (stK M 4 (sub t s (E - s)))
  | _, 0 => by intros; omega
  | 0, f + 1 => by
    intro j v M h h3 hE hv hj _
    have hn := h.2.1
    unfold f_X5_readKey_40
    rw [stK_o (by omega) (by omega), h3, fLt (by omega), show E - s = j by omega, hv, show s + j = E by omega]
  | m + 1, f + 1 => by
    intro j v M h h3 hE hv hj hf
    have hn := h.2.1
    have h' : TxC (stK M 4 (sub t s j)) t n := ⟨by rw [stK_o (by omega) (by omega)]; exact h.1, hn, fun q hq => by rw [stK_o (by omega) (by omega)]; exact h.2.2 q hq⟩
    unfold f_X5_readKey_40
    rw [stK_o (by omega) (by omega), h3, tLt (by omega), tc_at h' (i := s + j) (by omega) hv, bd_some, sp_add (by rw [sub_len]; omega), bd_some]
    exact lp_tkey h8 m f (j + 1) (v + 1) M h h3 hE (by omega) (by omega) (by omega)
theorem lm_tkey {K : Int → Mem → Option (Mem × Int)} {s L : Nat} (h8 : L ≤ 8) : ∀ (m f : Nat) (v : Int) (Y : Mem), TxX Y t n → Y 95 31 = (s : Int) → s + L ≤ n → m ≤ L → v = ((L - m : Nat) : Int) → m < f → f_X8_readsKey_28 (L : Int) K f v (stI Y 101 0 (L - m) (fun q => t (s + q))) = K (L : Int) (stI Y 101 0 L (fun q => t (s + q)))
  | _, 0 => by intros; omega
  | 0, f + 1 => by
    intro v Y h h3 hE hm hv _
    unfold f_X8_readsKey_28
    rw [fLt (by omega), hv]
    rfl
  | m + 1, f + 1 => by
    intro v Y h h3 hE hm hv hf
    have hn := h.2.1
    have ih := lm_tkey (K := K) h8 m f (v + 1) Y h h3 hE (by omega) (by omega) (by omega)
    unfold f_X8_readsKey_28
    rw [tLt (by omega), stI_k (by omega), h3, ix_t (by omega), ix_t (by omega), nat2 hv, stI_k (by omega), show ((s : Int) + v).toNat = s + (L - (m + 1)) by omega, (h.2.2 _ (by omega)).1, stI_up (by omega) rfl, show L - (m + 1) + 1 = L - m by omega]
    exact ih
theorem both_tkey (h1 : TxC C t n) (h2 : TxX X t n) (hC : C 4 3 = (e : Int)) (hX : X 95 31 = (e : Int)) (he : e ≤ n) : (KeyOk t n e ∧ ∃ C' X', f_X5_readKey C = some (C', 1) ∧ f_X8_readsKey X = some (X', 1) ∧ TxC C' t n ∧ TxX X' t n ∧ C' 4 3 = ((kEn t n e : Nat) : Int) ∧ X' 95 31 = ((kEn t n e : Nat) : Int) ∧ KyC C' 4 (kW t n e) ∧ KX X' (kW t n e) ∧ (∀ x y, x ≠ 4 → x ≠ 18 → x ≠ 19 → C' x y = C x y) ∧ C' 4 6 = C 4 6 ∧ (∀ a b, a ≠ 101 → ¬ (a = 95 ∧ (b = 31 ∨ b = 12)) → X' a b = X a b)) ∨ (¬ KeyOk t n e ∧ ∃ C' X' q, f_X5_readKey C = some (C', 0) ∧ f_X8_readsKey X = some (X', 0) ∧ TxC C' t n ∧ TxX X' t n ∧ C' 4 2 = ((q : Nat) : Int) ∧ X' 95 31 = ((q : Nat) : Int) ∧ q ≤ n ∧ (∀ x y, x ≠ 4 → C' x y = C x y) ∧ (∀ a b, ¬ (a = 95 ∧ b = 31) → X' a b = X a b)) := by
  have hfu := FU_eq
  obtain ⟨C', r1, r2, r3, r4, r5, r6⟩ := tc_tok h1 hC he
  have hn := h1.2.1
  have hsle : ad isB t n e ≤ n := ad_le he
  have hkle : kEn t n e ≤ n := ad_le hsle
  have hkge : ad isB t n e ≤ kEn t n e := ad_ge
  have hT1 : TxX (up X 95 31 ((ad isB t n e : Nat) : Int)) t n := TxX_u h2 (by omega)
  have kind : (1 ≤ kEn t n e - ad isB t n e ∧ C' 4 4 = 1 ∧ C' 4 3 = ((kEn t n e : Nat) : Int)) ∨ (¬ 1 ≤ kEn t n e - ad isB t n e ∧ C' 4 4 ≠ 1 ∧ 0 ≤ C' 4 4 ∧ C' 4 4 ≤ 4) := by
    rcases r6 with ⟨q1, q2, q3⟩ | ⟨q1, q | q | q⟩
    · refine Or.inr ⟨?_, by omega, by omega, by omega⟩
      unfold kEn; rw [ad_n (by omega)]; omega
    · refine Or.inl ⟨?_, q.2.1, q.2.2⟩
      unfold kEn; rw [ad_y q1 q.1]
      have : ad isB t n e + 1 ≤ ad isL t n (ad isB t n e + 1) := ad_ge
      omega
    · have hf := figs q.1
      have hno : ¬ 1 ≤ kEn t n e - ad isB t n e := by
        unfold kEn; rw [ad_n (by intro hh; have := lets hh.2; omega)]; omega
      obtain ⟨q2, q3, q4 | q4⟩ := q
      · exact Or.inr ⟨hno, by omega, by omega, by omega⟩
      · exact Or.inr ⟨hno, by omega, by omega, by omega⟩
    · refine Or.inr ⟨?_, ?_, ?_, ?_⟩
      · unfold kEn; rw [ad_n (by intro hh; rw [q.1] at hh; exact absurd hh.2 (by decide))]; omega
      · rw [q.2.2.2]; split <;> omega
      · rw [q.2.2.2]; split <;> omega
      · rw [q.2.2.2]; split <;> omega
  have preX : f_X8_readsKey X = (cEq (if (1 : Int) ≤ ((kEn t n e - ad isB t n e : Nat) : Int) ∧ ((kEn t n e - ad isB t n e : Nat) : Int) ≤ 8 then 1 else 0) 0 (some (up X 95 31 ((ad isB t n e : Nat) : Int), 0)) (f_X8_readsKey_28 ((kEn t n e - ad isB t n e : Nat) : Int) (fun (v2_e28 : Int) (C_e28 : Mem) => (some ((up C_e28 95 31 ((C_e28 95 31) + ((kEn t n e - ad isB t n e : Nat) : Int))), 1))) FU (0) (up (up X 95 31 ((ad isB t n e : Nat) : Int)) 95 12 ((kEn t n e - ad isB t n e : Nat) : Int)))) := by
    unfold f_X8_readsKey
    rw [tx_skip h2 hX he, bd_some, tx_letters hT1 up_same hsle, bd_some]
    show bd (f_X8_in ((kEn t n e - ad isB t n e : Nat) : Int) 1 8 _) _ = _
    rw [mx_within (by simp only [R32]; omega) (by simp only [R32]; omega) (by simp only [R32]; omega), bd_some]
    rfl
  rw [cEq_b] at preX
  have fail : ¬ KeyOk t n e → f_X5_readKey C = some (C', 0) → (KeyOk t n e ∧ ∃ C' X', f_X5_readKey C = some (C', 1) ∧ f_X8_readsKey X = some (X', 1) ∧ TxC C' t n ∧ TxX X' t n ∧ C' 4 3 = ((kEn t n e : Nat) : Int) ∧ X' 95 31 = ((kEn t n e : Nat) : Int) ∧ KyC C' 4 (kW t n e) ∧ KX X' (kW t n e) ∧ (∀ x y, x ≠ 4 → x ≠ 18 → x ≠ 19 → C' x y = C x y) ∧ C' 4 6 = C 4 6 ∧ (∀ a b, a ≠ 101 → ¬ (a = 95 ∧ (b = 31 ∨ b = 12)) → X' a b = X a b)) ∨ (¬ KeyOk t n e ∧ ∃ C' X' q, f_X5_readKey C = some (C', 0) ∧ f_X8_readsKey X = some (X', 0) ∧ TxC C' t n ∧ TxX X' t n ∧ C' 4 2 = ((q : Nat) : Int) ∧ X' 95 31 = ((q : Nat) : Int) ∧ q ≤ n ∧ (∀ x y, x ≠ 4 → C' x y = C x y) ∧ (∀ a b, ¬ (a = 95 ∧ b = 31) → X' a b = X a b)) := by
    intro hno hc
    refine Or.inr ⟨hno, C', up X 95 31 ((ad isB t n e : Nat) : Int), ad isB t n e, hc, ?_, r2, hT1, r5, up_same, hsle, r3, ?_⟩
    · rw [preX, if_neg (by intro hh; exact hno ⟨by omega, by omega⟩)]
    · intro a b hab
      rw [up_ap, if_neg hab]
  rcases kind with ⟨k1, k2, k3⟩ | ⟨k1, k2, k3, k4⟩
  · by_cases h8 : kEn t n e - ad isB t n e ≤ 8
    · have hok : KeyOk t n e := ⟨k1, h8⟩
      have hw := kW_ok hok
      have hlen : (kW t n e).length = kEn t n e - ad isB t n e := sub_len _
      have q := lp_tkey (t := t) (n := n) (K := (fun (v1_e40 : Int) (C_e40 : Mem) => (some (C_e40, 1)))) (s := ad isB t n e) (E := kEn t n e) h8 (kEn t n e - ad isB t n e) FU 0 ((ad isB t n e : Nat) : Int) C' r2 k3 hkle (by omega) (by omega) (by omega)
      have q2 := lm_tkey (t := t) (n := n) (K := (fun (v2_e28 : Int) (C_e28 : Mem) => (some ((up C_e28 95 31 ((C_e28 95 31) + ((kEn t n e - ad isB t n e : Nat) : Int))), 1)))) (s := ad isB t n e) (L := kEn t n e - ad isB t n e) h8 (kEn t n e - ad isB t n e) FU 0 (up (up X 95 31 ((ad isB t n e : Nat) : Int)) 95 12 ((kEn t n e - ad isB t n e : Nat) : Int)) (TxX_u hT1 (by omega)) (by rw [up_j (by omega), up_same]) (by omega) (Nat.le_refl _) (by omega) (by omega)
      rw [Nat.sub_self, stI_nil] at q2
      refine Or.inl ⟨hok, stK C' 4 (kW t n e), up (stI (up (up X 95 31 ((ad isB t n e : Nat) : Int)) 95 12 ((kEn t n e - ad isB t n e : Nat) : Int)) 101 0 (kEn t n e - ad isB t n e) (fun q => t (ad isB t n e + q))) 95 31 ((kEn t n e : Nat) : Int), ?_, ?_, ?_, ?_, ?_, ?_, stK_KC hw.1, ⟨?_, ?_, hw.1⟩, ?_, ?_, ?_⟩
      · unfold f_X5_readKey
        rw [r1, bd_some, tEq (by omega), k3, r5, fLt (by omega), sp_empty, bd_some, stK_o (by omega) (by omega), r5]
        exact q
      · rw [preX, if_pos (by omega), q2]
        rw [stI_k (by omega), up_j (by omega), up_same, show ((ad isB t n e : Nat) : Int) + ((kEn t n e - ad isB t n e : Nat) : Int) = ((kEn t n e : Nat) : Int) by omega]
      · exact ⟨by rw [stK_o (by omega) (by omega)]; exact r2.1, hn, fun j hj => by rw [stK_o (by omega) (by omega)]; exact r2.2.2 j hj⟩
      · refine ⟨?_, hn, fun j hj => ?_⟩
        · rw [up_j (by omega), stI_k (by omega), up_j (by omega), up_j (by omega)]; exact h2.1
        · rw [up_k (by omega), stI_k (by omega), up_k (by omega), up_k (by omega)]; exact h2.2.2 j hj
      · rw [stK_o (by omega) (by omega)]; exact k3
      · rw [up_same]
      · rw [up_j (by omega), stI_k (by omega), up_same, hlen]
      · intro j hj
        rw [hlen] at hj
        rw [up_k (by omega), stI_in (by omega)]
        exact (sub_gd _ j hj).symm
      · intro x y hx h18 h19
        rw [stK_o (by omega) (by omega)]; exact r3 x y hx
      · rw [stK_o (by omega) (by omega)]; exact r4
      · intro a b ha hab
        rw [up_ap, if_neg (by omega), stI_k ha, up_ap, if_neg (by omega), up_ap, if_neg (by omega)]
    · refine fail (fun hh => h8 hh.2) ?_
      unfold f_X5_readKey
      rw [r1, bd_some, tEq (by omega), k3, r5, tLt (by omega)]
  · refine fail (fun hh => k1 hh.1) ?_
    unfold f_X5_readKey
    rw [r1, bd_some, fEq (by omega)]
end T3
end
section
/-! COMMANDS in the text. -/
def Wput (t : Nat → Int) (n s : Nat) : Prop := ad isL t n s = s + 3 ∧ t s = 112 ∧ t (s + 1) = 117 ∧ t (s + 2) = 116
def Wt (t : Nat → Int) (n s : Nat) : Prop := ad isL t n s = s + 4 ∧ t s = 116 ∧ t (s + 1) = 97 ∧ t (s + 2) = 107 ∧ t (s + 3) = 101
def Wl (t : Nat → Int) (n s : Nat) : Prop := ad isL t n s = s + 4 ∧ t s = 108 ∧ t (s + 1) = 111 ∧ t (s + 2) = 97 ∧ t (s + 3) = 100
def PutR (t : Nat → Int) (n s E : Nat) : Prop := Wput t n s ∧ KeyOk t n (s + 3) ∧ NumOk t n (kEn t n (s + 3)) 0 255 ∧ StopOk t n (nE t n (kEn t n (s + 3))) ∧ E = ad isB t n (nE t n (kEn t n (s + 3))) + 1
def TakeR (t : Nat → Int) (n s E : Nat) : Prop := Wt t n s ∧ KeyOk t n (s + 4) ∧ StopOk t n (kEn t n (s + 4)) ∧ E = ad isB t n (kEn t n (s + 4)) + 1
def LoadR (t : Nat → Int) (n s E : Nat) : Prop := Wl t n s ∧ NumOk t n (s + 4) 0 17575 ∧ NumOk t n (nE t n (s + 4)) 1 99 ∧ NumOk t n (nE t n (nE t n (s + 4))) 1 60 ∧ nV t n (s + 4) + nV t n (nE t n (s + 4)) * (nV t n (nE t n (nE t n (s + 4))) - 1) ≤ 17575 ∧ StopOk t n (nE t n (nE t n (nE t n (s + 4)))) ∧ E = ad isB t n (nE t n (nE t n (nE t n (s + 4)))) + 1
def CmdR (t : Nat → Int) (n s E : Nat) : Prop := PutR t n s E ∨ TakeR t n s E ∨ LoadR t n s E
section CM
variable {C C' X X' : Mem} {t : Nat → Int} {n i e st k s E : Nat} {z : Int}
theorem CmdR_fun {E' : Nat} (h : CmdR t n s E) (h' : CmdR t n s E') : E = E' := by
  rcases h with h | h | h <;> rcases h' with h' | h' | h'
  · rw [h.2.2.2.2, h'.2.2.2.2]
  · have := h.1.1; have := h'.1.1; omega
  · have := h.1.1; have := h'.1.1; omega
  · have := h.1.1; have := h'.1.1; omega
  · rw [h.2.2.2, h'.2.2.2]
  · have := h.1.2.1; have := h'.1.2.1; omega
  · have := h.1.1; have := h'.1.1; omega
  · have := h.1.2.1; have := h'.1.2.1; omega
  · rw [h.2.2.2.2.2.2, h'.2.2.2.2.2.2]
def wc (a j : Nat) : Int := ((txB.getD a []).getD j 0).toInt
def wl (a : Nat) : Nat := txL.getD a 0
theorem lp_word {K : Int → Mem → Option (Mem × Int)} {a : Nat} (h : TxC C t n) (h2 : C 4 2 = (s : Int)) (hs : s + wl a ≤ n) (hwl : wl a ≤ 4) (hwc : ∀ j, j < wl a → 97 ≤ wc a j ∧ wc a j ≤ 122) (hK : ∀ v, K v C = some (C, 1)) : ∀ (m f j : Nat) (v : Int), v = (j : Int) → j + m = wl a → m < f → ((∀ q, j ≤ q → q < wl a → t (s + q) = wc a q) ∧ f_X5_isWord_28 a K f v C = some (C, 1)) ∨ (¬ (∀ q, j ≤ q → q < wl a → t (s + q) = wc a q) ∧ f_X5_isWord_28 a K f v C = some (C, 0))
  | _, 0 => by intros; omega
  | 0, f + 1 => by
    intro j v hv hj _
    refine Or.inl ⟨fun q q1 q2 => by omega, ?_⟩
    unfold f_X5_isWord_28 f_s_len
    rw [bd_some]
    show cLt v ((wl a : Nat) : Int) _ _ = _
    rw [fLt (by omega), hK]
  | m + 1, f + 1 => by
    intro j v hv hj hf
    have hn := h.2.1
    have hw := hwc j (by omega)
    have ht := (h.2.2 (s + j) (by omega)).2
    have ih := lp_word (K := K) h h2 hs hwl hwc hK m f (j + 1) (v + 1) (by omega) (by omega) (by omega)
    have e1 : f_X5_isWord_28 a K (f + 1) v C = cEq (t (s + j)) (wc a j) (f_X5_isWord_28 a K f (v + 1) C) (some (C, 0)) := by
      rw [f_X5_isWord_28]
      unfold f_s_len f_s_cha
      rw [bd_some]
      show cLt v ((wl a : Nat) : Int) _ _ = _
      rw [tLt (by omega), h2, tc_at h (i := s + j) (by omega) (by omega), bd_some]
      show bd (ix v (wl a) _) _ = _
      rw [ix_t (by omega), bd_some, nat2 hv]
      rfl
    rw [e1]
    by_cases hq : t (s + j) = wc a j
    · rw [tEq (by omega)]
      rcases ih with ⟨i1, i2⟩ | ⟨i1, i2⟩
      · refine Or.inl ⟨?_, i2⟩
        intro q q1 q2
        by_cases hqj : q = j
        · rw [hqj]; exact hq
        · exact i1 q (by omega) q2
      · exact Or.inr ⟨fun hh => i1 (fun q q1 q2 => hh q (by omega) q2), i2⟩
    · rw [fEq (by omega)]
      exact Or.inr ⟨fun hh => hq (hh j (by omega) (by omega)), rfl⟩
/-- how the class stands when it has read a command's first token -/
def Tok1 (C : Mem) (t : Nat → Int) (n s : Nat) : Prop := C 4 2 = (s : Int) ∧ s < n ∧ ((isL (t s) = true ∧ C 4 4 = 1 ∧ C 4 3 = ((ad isL t n s : Nat) : Int)) ∨ (isL (t s) = false ∧ C 4 4 ≠ 1 ∧ 0 ≤ C 4 4 ∧ C 4 4 ≤ 4))
theorem sp_word {a : Nat} (h : TxC C t n) (hk : Tok1 C t n s) (hwl1 : 1 ≤ wl a) (hwl : wl a ≤ 4) (hwc : ∀ j, j < wl a → 97 ≤ wc a j ∧ wc a j ≤ 122) : ((ad isL t n s = s + wl a ∧ ∀ q, q < wl a → t (s + q) = wc a q) ∧ f_X5_isWord a C = some (C, 1)) ∨ (¬ (ad isL t n s = s + wl a ∧ ∀ q, q < wl a → t (s + q) = wc a q) ∧ f_X5_isWord a C = some (C, 0)) := by
  have hfu := FU_eq
  have hn := h.2.1
  obtain ⟨k2, ksn, k | k⟩ := hk
  · have hle : ad isL t n s ≤ n := ad_le (by omega)
    have hge : s ≤ ad isL t n s := ad_ge
    have e1 : f_X5_isWord a C = cEq (((ad isL t n s : Nat) : Int) - (s : Int)) ((wl a : Nat) : Int) (f_X5_isWord_28 a (fun (v2_e28 : Int) (C_e28 : Mem) => (some (C_e28, 1))) FU (0) C) (some (C, 0)) := by
      unfold f_X5_isWord
      rw [tEq (by omega), k.2.2, k2]
      rfl
    rw [e1]
    by_cases hl : ad isL t n s = s + wl a
    · rw [tEq (by omega)]
      rcases lp_word (K := (fun (v2_e28 : Int) (C_e28 : Mem) => (some (C_e28, 1)))) h k2 (by omega) hwl hwc (fun _ => rfl) (wl a) FU 0 0 rfl (by omega) (by omega) with ⟨i1, i2⟩ | ⟨i1, i2⟩
      · exact Or.inl ⟨⟨hl, fun q hq => i1 q (by omega) hq⟩, i2⟩
      · exact Or.inr ⟨fun hh => i1 (fun q _ hq => hh.2 q hq), i2⟩
    · rw [fEq (by omega)]
      exact Or.inr ⟨fun hh => hl hh.1, rfl⟩
  · refine Or.inr ⟨?_, ?_⟩
    · intro hh
      have := hh.1
      rw [ad_n (by intro q; rw [k.1] at q; exact absurd q.2 (by decide))] at this
      omega
    · unfold f_X5_isWord
      rw [fEq (by omega)]
theorem sp_put (h : TxC C t n) (hk : Tok1 C t n s) : (Wput t n s ∧ f_X5_isWord 0 C = some (C, 1)) ∨ (¬ Wput t n s ∧ f_X5_isWord 0 C = some (C, 0)) := by
  have hl : wl 0 = 3 := rfl
  have hc : ∀ j, j < wl 0 → 97 ≤ wc 0 j ∧ wc 0 j ≤ 122 := by
    intro j hj
    have : j = 0 ∨ j = 1 ∨ j = 2 := by omega
    rcases this with q | q | q <;> subst q <;> decide
  rcases sp_word (a := 0) h hk (by omega) (by omega) hc with ⟨⟨q1, q2⟩, q3⟩ | ⟨q1, q3⟩
  · exact Or.inl ⟨⟨q1, q2 0 (by omega), q2 1 (by omega), q2 2 (by omega)⟩, q3⟩
  · refine Or.inr ⟨fun hh => q1 ⟨hh.1, ?_⟩, q3⟩
    intro q hq
    have : q = 0 ∨ q = 1 ∨ q = 2 := by omega
    rcases this with p | p | p <;> subst p
    · exact hh.2.1
    · exact hh.2.2.1
    · exact hh.2.2.2
theorem sp_take (h : TxC C t n) (hk : Tok1 C t n s) : (Wt t n s ∧ f_X5_isWord 1 C = some (C, 1)) ∨ (¬ Wt t n s ∧ f_X5_isWord 1 C = some (C, 0)) := by
  have hl : wl 1 = 4 := rfl
  have hc : ∀ j, j < wl 1 → 97 ≤ wc 1 j ∧ wc 1 j ≤ 122 := by
    intro j hj
    have : j = 0 ∨ j = 1 ∨ j = 2 ∨ j = 3 := by omega
    rcases this with q | q | q | q <;> subst q <;> decide
  rcases sp_word (a := 1) h hk (by omega) (by omega) hc with ⟨⟨q1, q2⟩, q3⟩ | ⟨q1, q3⟩
  · exact Or.inl ⟨⟨q1, q2 0 (by omega), q2 1 (by omega), q2 2 (by omega), q2 3 (by omega)⟩, q3⟩
  · refine Or.inr ⟨fun hh => q1 ⟨hh.1, ?_⟩, q3⟩
    intro q hq
    have : q = 0 ∨ q = 1 ∨ q = 2 ∨ q = 3 := by omega
    rcases this with p | p | p | p <;> subst p
    · exact hh.2.1
    · exact hh.2.2.1
    · exact hh.2.2.2.1
    · exact hh.2.2.2.2
theorem sp_load (h : TxC C t n) (hk : Tok1 C t n s) : (Wl t n s ∧ f_X5_isWord 2 C = some (C, 1)) ∨ (¬ Wl t n s ∧ f_X5_isWord 2 C = some (C, 0)) := by
  have hl : wl 2 = 4 := rfl
  have hc : ∀ j, j < wl 2 → 97 ≤ wc 2 j ∧ wc 2 j ≤ 122 := by
    intro j hj
    have : j = 0 ∨ j = 1 ∨ j = 2 ∨ j = 3 := by omega
    rcases this with q | q | q | q <;> subst q <;> decide
  rcases sp_word (a := 2) h hk (by omega) (by omega) hc with ⟨⟨q1, q2⟩, q3⟩ | ⟨q1, q3⟩
  · exact Or.inl ⟨⟨q1, q2 0 (by omega), q2 1 (by omega), q2 2 (by omega), q2 3 (by omega)⟩, q3⟩
  · refine Or.inr ⟨fun hh => q1 ⟨hh.1, ?_⟩, q3⟩
    intro q hq
    have : q = 0 ∨ q = 1 ∨ q = 2 ∨ q = 3 := by omega
    rcases this with p | p | p | p <;> subst p
    · exact hh.2.1
    · exact hh.2.2.1
    · exact hh.2.2.2.1
    · exact hh.2.2.2.2
theorem tx_letter (h : TxX X t n) (hi : X 95 31 = (s : Int)) {j : Nat} (hj : s + j < n) (hz : z = (j : Int)) : f_X8_letterAt z X = some (X, t (s + j)) := by
  have hn := h.2.1
  unfold f_X8_letterAt
  rw [hi, ix_t (by omega), show ((s : Int) + z).toNat = s + j by omega, (h.2.2 _ hj).1]
/-- the model: which command -/
theorem tx_cmd (h : TxX X t n) (hi : X 95 31 = (s : Int)) (hs : s ≤ n) : (Wput t n s ∧ f_X8_commandHere X = some (X, 1)) ∨ (Wt t n s ∧ f_X8_commandHere X = some (X, 2)) ∨ (Wl t n s ∧ f_X8_commandHere X = some (X, 3)) ∨ (¬ Wput t n s ∧ ¬ Wt t n s ∧ ¬ Wl t n s ∧ f_X8_commandHere X = some (X, 0)) := by
  have hn := h.2.1
  have hle : ad isL t n s ≤ n := ad_le hs
  have hge : s ≤ ad isL t n s := ad_ge
  unfold f_X8_commandHere
  rw [tx_letters h hi hs, bd_some]
  by_cases h3 : ad isL t n s = s + 3
  · have hno : ¬ Wt t n s ∧ ¬ Wl t n s := ⟨fun hh => by have := hh.1; omega, fun hh => by have := hh.1; omega⟩
    have r0 := (h.2.2 s (by omega)).2
    have r1 := (h.2.2 (s + 1) (by omega)).2
    have r2 := (h.2.2 (s + 2) (by omega)).2
    rw [tEq (by omega), tx_letter h hi (j := 0) (by omega) (by rfl), bd_some, Nat.add_zero]
    by_cases c0 : t s = 112
    · rw [tEq (by omega), tx_letter h hi (j := 1) (by omega) (by rfl), bd_some]
      by_cases c1 : t (s + 1) = 117
      · rw [tEq (by omega), tx_letter h hi (j := 2) (by omega) (by rfl), bd_some]
        by_cases c2 : t (s + 2) = 116
        · rw [tEq (by omega)]
          exact Or.inl ⟨⟨h3, c0, c1, c2⟩, rfl⟩
        · rw [fEq (by omega)]
          exact Or.inr (Or.inr (Or.inr ⟨fun hh => c2 hh.2.2.2, hno.1, hno.2, rfl⟩))
      · rw [fEq (by omega)]
        exact Or.inr (Or.inr (Or.inr ⟨fun hh => c1 hh.2.2.1, hno.1, hno.2, rfl⟩))
    · rw [fEq (by omega)]
      exact Or.inr (Or.inr (Or.inr ⟨fun hh => c0 hh.2.1, hno.1, hno.2, rfl⟩))
  · rw [fEq (by omega)]
    have hnp : ¬ Wput t n s := fun hh => h3 hh.1
    by_cases h4 : ad isL t n s = s + 4
    · have r0 := (h.2.2 s (by omega)).2
      have r1 := (h.2.2 (s + 1) (by omega)).2
      have r2 := (h.2.2 (s + 2) (by omega)).2
      have r3 := (h.2.2 (s + 3) (by omega)).2
      have ldc : ¬ Wt t n s → ((Wl t n s ∧ (bd (f_X8_letterAt (0) X) (fun C97 r97 => (cEq (r97) (108) (bd (f_X8_letterAt (1) C97) (fun C107 r107 => (cEq (r107) (111) (bd (f_X8_letterAt (2) C107) (fun C117 r117 => (cEq (r117) (97) (bd (f_X8_letterAt (3) C117) (fun C127 r127 => (cEq (r127) (100) (some (C127, (3 : Int))) (some (C127, 0))))) (some (C117, 0))))) (some (C107, 0))))) (some (C97, 0))))) = some (X, 3)) ∨ (¬ Wl t n s ∧ (bd (f_X8_letterAt (0) X) (fun C97 r97 => (cEq (r97) (108) (bd (f_X8_letterAt (1) C97) (fun C107 r107 => (cEq (r107) (111) (bd (f_X8_letterAt (2) C107) (fun C117 r117 => (cEq (r117) (97) (bd (f_X8_letterAt (3) C117) (fun C127 r127 => (cEq (r127) (100) (some (C127, (3 : Int))) (some (C127, 0))))) (some (C117, 0))))) (some (C107, 0))))) (some (C97, 0))))) = some (X, 0))) := by
        intro _
        rw [tx_letter h hi (j := 0) (by omega) (by rfl), bd_some, Nat.add_zero]
        by_cases c0 : t s = 108
        · rw [tEq (by omega), tx_letter h hi (j := 1) (by omega) (by rfl), bd_some]
          by_cases c1 : t (s + 1) = 111
          · rw [tEq (by omega), tx_letter h hi (j := 2) (by omega) (by rfl), bd_some]
            by_cases c2 : t (s + 2) = 97
            · rw [tEq (by omega), tx_letter h hi (j := 3) (by omega) (by rfl), bd_some]
              by_cases c3 : t (s + 3) = 100
              · rw [tEq (by omega)]
                exact Or.inl ⟨⟨h4, c0, c1, c2, c3⟩, rfl⟩
              · rw [fEq (by omega)]
                exact Or.inr ⟨fun hh => c3 hh.2.2.2.2, rfl⟩
            · rw [fEq (by omega)]
              exact Or.inr ⟨fun hh => c2 hh.2.2.2.1, rfl⟩
          · rw [fEq (by omega)]
            exact Or.inr ⟨fun hh => c1 hh.2.2.1, rfl⟩
        · rw [fEq (by omega)]
          exact Or.inr ⟨fun hh => c0 hh.2.1, rfl⟩
      rw [tEq (by omega), tx_letter h hi (j := 0) (by omega) (by rfl), bd_some, Nat.add_zero, jn_eq]
      have fin : ¬ Wt t n s → (Wput t n s ∧ (fun (C_95 : Mem) => (bd (f_X8_letterAt (0) C_95) (fun C97 r97 => (cEq (r97) (108) (bd (f_X8_letterAt (1) C97) (fun C107 r107 => (cEq (r107) (111) (bd (f_X8_letterAt (2) C107) (fun C117 r117 => (cEq (r117) (97) (bd (f_X8_letterAt (3) C117) (fun C127 r127 => (cEq (r127) (100) (some (C127, (3 : Int))) (some (C127, 0))))) (some (C117, 0))))) (some (C107, 0))))) (some (C97, 0)))))) X = some (X, 1)) ∨ (Wt t n s ∧ (fun (C_95 : Mem) => (bd (f_X8_letterAt (0) C_95) (fun C97 r97 => (cEq (r97) (108) (bd (f_X8_letterAt (1) C97) (fun C107 r107 => (cEq (r107) (111) (bd (f_X8_letterAt (2) C107) (fun C117 r117 => (cEq (r117) (97) (bd (f_X8_letterAt (3) C117) (fun C127 r127 => (cEq (r127) (100) (some (C127, (3 : Int))) (some (C127, 0))))) (some (C117, 0))))) (some (C107, 0))))) (some (C97, 0)))))) X = some (X, 2)) ∨ (Wl t n s ∧ (fun (C_95 : Mem) => (bd (f_X8_letterAt (0) C_95) (fun C97 r97 => (cEq (r97) (108) (bd (f_X8_letterAt (1) C97) (fun C107 r107 => (cEq (r107) (111) (bd (f_X8_letterAt (2) C107) (fun C117 r117 => (cEq (r117) (97) (bd (f_X8_letterAt (3) C117) (fun C127 r127 => (cEq (r127) (100) (some (C127, (3 : Int))) (some (C127, 0))))) (some (C117, 0))))) (some (C107, 0))))) (some (C97, 0)))))) X = some (X, 3)) ∨ (¬ Wput t n s ∧ ¬ Wt t n s ∧ ¬ Wl t n s ∧ (fun (C_95 : Mem) => (bd (f_X8_letterAt (0) C_95) (fun C97 r97 => (cEq (r97) (108) (bd (f_X8_letterAt (1) C97) (fun C107 r107 => (cEq (r107) (111) (bd (f_X8_letterAt (2) C107) (fun C117 r117 => (cEq (r117) (97) (bd (f_X8_letterAt (3) C117) (fun C127 r127 => (cEq (r127) (100) (some (C127, (3 : Int))) (some (C127, 0))))) (some (C117, 0))))) (some (C107, 0))))) (some (C97, 0)))))) X = some (X, 0)) := by
        intro hnt
        rcases ldc hnt with ⟨q1, q2⟩ | ⟨q1, q2⟩
        · exact Or.inr (Or.inr (Or.inl ⟨q1, q2⟩))
        · exact Or.inr (Or.inr (Or.inr ⟨hnp, hnt, q1, q2⟩))
      by_cases c0 : t s = 116
      · rw [tEq (by omega), tx_letter h hi (j := 1) (by omega) (by rfl), bd_some]
        by_cases c1 : t (s + 1) = 97
        · rw [tEq (by omega), tx_letter h hi (j := 2) (by omega) (by rfl), bd_some]
          by_cases c2 : t (s + 2) = 107
          · rw [tEq (by omega), tx_letter h hi (j := 3) (by omega) (by rfl), bd_some]
            by_cases c3 : t (s + 3) = 101
            · rw [tEq (by omega)]
              exact Or.inr (Or.inl ⟨⟨h4, c0, c1, c2, c3⟩, rfl⟩)
            · rw [fEq (by omega)]
              exact fin (fun hh => c3 hh.2.2.2.2)
          · rw [fEq (by omega)]
            exact fin (fun hh => c2 hh.2.2.2.1)
        · rw [fEq (by omega)]
          exact fin (fun hh => c1 hh.2.2.1)
      · rw [fEq (by omega)]
        exact fin (fun hh => c0 hh.2.1)
    · rw [fEq (by omega)]
      exact Or.inr (Or.inr (Or.inr ⟨hnp, fun hh => h4 hh.1, fun hh => h4 hh.1, rfl⟩))
end CM
end
section
/-! COMMANDS, whole; run. -/
def FrC (C C' : Mem) : Prop := ∀ x y, x ≠ 4 → x ≠ 18 → x ≠ 19 → x ≠ 26 → C' x y = C x y
def FrX (X X' : Mem) : Prop := ∀ a b, a ≠ 101 → ¬ (a = 95 ∧ (b = 12 ∨ b = 31 ∨ b = 32 ∨ b = 33 ∨ b = 34)) → X' a b = X a b
/-- what a command tells, in both memories -/
def Told (C X : Mem) (c : Int) : Prop := (c = 1 ∧ C 4 6 = 0 ∧ ∃ w, KyC C 4 w ∧ KX X w ∧ 1 ≤ w.length ∧ C 26 0 = X 95 32 ∧ 0 ≤ X 95 32 ∧ X 95 32 ≤ 255) ∨ (c = 2 ∧ C 4 6 = 1 ∧ ∃ w, KyC C 4 w ∧ KX X w ∧ 1 ≤ w.length) ∨ (c = 3 ∧ C 4 6 = 2 ∧ C 26 0 = X 95 33 ∧ C 26 1 = X 95 34 ∧ C 26 2 = X 95 32 ∧ 0 ≤ X 95 32 ∧ LdOk (X 95 33) (X 95 34) (X 95 32).toNat)
def CmdRes (t : Nat → Int) (n s : Nat) (C X : Mem) (o1 o2 : Option (Mem × Int)) : Prop := (∃ (C' X' : Mem) (q : Nat), (∀ E, ¬ CmdR t n s E) ∧ o1 = some (C', 0) ∧ o2 = some (X', 0) ∧ C' 4 2 = (q : Int) ∧ X' 95 31 = (q : Int) ∧ q ≤ n ∧ TxC C' t n ∧ TxX X' t n ∧ FrC C C' ∧ FrX X X') ∨ (∃ (C' X' : Mem) (E : Nat) (c : Int), CmdR t n s E ∧ o1 = some (C', 1) ∧ o2 = some (X', c) ∧ s < E ∧ E ≤ n ∧ C' 4 3 = (E : Int) ∧ X' 95 31 = (E : Int) ∧ TxC C' t n ∧ TxX X' t n ∧ FrC C C' ∧ FrX X X' ∧ Told C' X' c)
section RU
variable {C C' X X' : Mem} {t : Nat → Int} {n i e st k s E : Nat} {z : Int}
theorem FrC_refl : FrC C C := fun _ _ _ _ _ _ => rfl
theorem FrX_refl : FrX X X := fun _ _ _ _ => rfl
theorem FrC_tr {C2 : Mem} (h1 : FrC C C') (h2 : FrC C' C2) : FrC C C2 := fun x y q1 q2 q3 q4 => by rw [h2 x y q1 q2 q3 q4, h1 x y q1 q2 q3 q4]
theorem FrX_tr {X2 : Mem} (h1 : FrX X X') (h2 : FrX X' X2) : FrX X X2 := fun a b q1 q2 => by rw [h2 a b q1 q2, h1 a b q1 q2]
theorem ad_idem {p : Int → Bool} : ad p t n (ad p t n i) = ad p t n i := by
  refine ad_n ?_
  intro h
  have := ad_end h.1
  rw [this] at h
  exact absurd h.2 (by decide)
theorem NumOk_sk {lo hi' : Int} : NumOk t n (ad isB t n e) lo hi' ↔ NumOk t n e lo hi' := by
  unfold NumOk nV nE
  rw [ad_idem]
theorem both_cmd (h1 : TxC C t n) (h2 : TxX X t n) (hk : Tok1 C t n s) (hX : X 95 31 = (s : Int)) : CmdRes t n s C X (f_X5_readCommand C) (f_X8_readsCommand X) := by
  have hn := h1.2.1
  have hs := hk.2.1
  have hC2 := hk.1
  have hend : ∀ m : Nat, 1 ≤ m → ad isL t n s = s + m → C 4 3 = ((s + m : Nat) : Int) ∧ s + m ≤ n := by
    intro m hm1 hm
    have hle : ad isL t n s ≤ n := ad_le (by omega)
    rcases hk.2.2 with q | q
    · exact ⟨by rw [q.2.2, hm], by omega⟩
    · have : ad isL t n s = s := ad_n (by intro hh; rw [q.1] at hh; exact absurd hh.2 (by decide))
      omega
  unfold f_X5_readCommand f_X8_readsCommand
  rcases sp_put h1 hk with ⟨w1, w2⟩ | ⟨w1, w2⟩
  · -- put
    have hm : f_X8_commandHere X = some (X, 1) := by
      rcases tx_cmd h2 hX (by omega) with q | q | q | q
      · exact q.2
      · have := q.1.1; have := w1.1; omega
      · have := q.1.1; have := w1.1; omega
      · exact absurd w1 q.1
    obtain ⟨e1, e2⟩ := hend 3 (by omega) w1.1
    have hoE : ∀ E, CmdR t n s E → PutR t n s E := by
      intro E hE
      rcases hE with q | q | q
      · exact q
      · have := q.1.1; have := w1.1; omega
      · have := q.1.1; have := w1.1; omega
    rw [w2, bd_some, fEq (by omega), hm, bd_some, fEq (by omega), jn_eq, tEq (by omega)]
    dsimp only
    have T1 : TxC (up C 4 6 0) t n := TxC_u h1 (by omega)
    have T2 : TxX (up X 95 31 (X 95 31 + 3)) t n := TxX_u h2 (by omega)
    have fc0 : FrC C (up C 4 6 0) := fun x y q1 _ _ _ => up_k q1
    have fx0 : FrX X (up X 95 31 (X 95 31 + 3)) := fun a b _ q => by rw [up_ap, if_neg (by omega)]
    unfold f_X8_readsRest
    rcases both_tkey T1 T2 (e := s + 3) (by rw [up_j (by omega)]; exact e1) (by rw [up_same, hX]; omega) e2 with ⟨k1, Ca, Xa, a1, a2, a3, a4, a5, a6, a7, a8, a9, a10, a11⟩ | ⟨k1, Ca, Xa, q, a1, a2, a3, a4, a5, a6, a7, a8, a9⟩
    · have fca : FrC C Ca := FrC_tr fc0 (fun x y q1 q2 q3 _ => a9 x y q1 q2 q3)
      have fxa : FrX X Xa := FrX_tr fx0 (fun a b q1 q2 => a11 a b q1 (by omega))
      have hkn : kEn t n (s + 3) ≤ n := ad_le (ad_le e2)
      have hkg : s + 3 ≤ kEn t n (s + 3) := Nat.le_trans ad_ge ad_ge
      rw [a1, bd_some, fEq (by omega), fEq (by omega), a2, bd_some, fEq (by omega), fEq (by omega)]
      rcases both_num (k := 0) a3 a4 a5 a6 hkn (by omega) (kz := 0) rfl (lo := 0) (hi' := 255) (by omega) (by omega) with ⟨k2, Cb, Xb, b1, b2, b3, b4, b5, b6, b7, b8, b9, b10, b11, b12⟩ | ⟨k2, Cb, Xb, q, b1, b2, b3, b4, b5, b6, b7, b8, b9, _⟩
      · have fcb : FrC C Cb := FrC_tr fca (fun x y q1 q2 q3 q4 => b9 x y q1 (by omega))
        have fxb : FrX X Xb := FrX_tr fxa (fun a b q1 q2 => b11 a b (by omega))
        have hnn : nE t n (kEn t n (s + 3)) ≤ n := ad_le (ad_le hkn)
        have hng : kEn t n (s + 3) ≤ nE t n (kEn t n (s + 3)) := Nat.le_trans ad_ge ad_ge
        rw [b1, bd_some, fEq (by omega), b2, bd_some, fEq (by omega), bd_some, fEq (by omega)]
        rcases both_stop b3 b4 b5 b6 hnn with ⟨k3, Cc, Xc, c1, c2, c3, c4, c5, c6, c7, c8, c9⟩ | ⟨k3, Cc, Xc, q, c1, c2, c3, c4, c5, c6, c7, c8, c9⟩
        · have hsg : nE t n (kEn t n (s + 3)) ≤ ad isB t n (nE t n (kEn t n (s + 3))) := ad_ge
          have hx32 : Xc 95 32 = nV t n (kEn t n (s + 3)) := by rw [c9 _ _ (by omega)]; exact b8
          rw [c1, bd_some, fEq (by omega), c2, bd_some, fEq (by omega)]
          refine Or.inr ⟨Cc, Xc, _, 1, Or.inl ⟨w1, k1, k2, k3, rfl⟩, rfl, rfl, by omega, by have := k3.1; omega, c5, c6, c3, c4, FrC_tr fcb (fun x y q1 _ _ _ => c7 x y q1), FrX_tr fxb (fun a b q1 q2 => c9 a b (by omega)), Or.inl ⟨rfl, ?_, kW t n (s + 3), ⟨?_, ?_, a7.2.2⟩, ⟨?_, ?_, a8.2.2⟩, (kW_ok k1).2, ?_, ?_, ?_⟩⟩
          · rw [c8, b10, a10, up_same]
          · rw [c7 _ _ (by omega), b9 _ _ (by omega) (by omega)]; exact a7.1
          · intro j hj; rw [c7 _ _ (by omega), b9 _ _ (by omega) (by omega)]; exact a7.2.1 j hj
          · rw [c9 _ _ (by omega), b11 _ _ (by omega)]; exact a8.1
          · intro j hj; rw [c9 _ _ (by omega), b11 _ _ (by omega)]; exact a8.2.1 j hj
          · rw [c7 _ _ (by omega), b7, hx32]
          · rw [hx32]; exact k2.2.1
          · rw [hx32]; exact k2.2.2
        · rw [c1, bd_some, tEq (by omega), c2, bd_some, tEq (by omega)]
          exact Or.inl ⟨Cc, Xc, q, fun E hE => k3 (hoE E hE).2.2.2.1, rfl, rfl, c5, c6, c7, c3, c4, FrC_tr fcb (fun x y q1 _ _ _ => c8 x y q1), FrX_tr fxb (fun a b q1 q2 => c9 a b (by omega))⟩
      · rw [b1, bd_some, tEq (by omega), b2, bd_some, tEq (by omega), bd_some, tEq (by omega)]
        exact Or.inl ⟨Cb, Xb, q, fun E hE => k2 (hoE E hE).2.2.1, rfl, rfl, b5, b6, b7, b3, b4, FrC_tr fca (fun x y q1 _ _ _ => b8 x y q1), FrX_tr fxa (fun a b q1 q2 => b9 a b (by omega))⟩
    · rw [a1, bd_some, tEq (by omega), fEq (by omega), a2, bd_some, tEq (by omega), bd_some, tEq (by omega)]
      exact Or.inl ⟨Ca, Xa, q, fun E hE => k1 (hoE E hE).2.1, rfl, rfl, a5, a6, a7, a3, a4, FrC_tr fc0 (fun x y q1 _ _ _ => a8 x y q1), FrX_tr fx0 (fun a b q1 q2 => a9 a b (by omega))⟩
  · rw [w2, bd_some, tEq (by omega)]
    rcases sp_take h1 hk with ⟨v1, v2⟩ | ⟨v1, v2⟩
    · -- take
      have hm : f_X8_commandHere X = some (X, 2) := by
        rcases tx_cmd h2 hX (by omega) with q | q | q | q
        · exact absurd q.1 w1
        · exact q.2
        · have := q.1.2.1; have := v1.2.1; omega
        · exact absurd v1 q.2.1
      obtain ⟨e1, e2⟩ := hend 4 (by omega) v1.1
      have hoE : ∀ E, CmdR t n s E → TakeR t n s E := by
        intro E hE
        rcases hE with q | q | q
        · exact absurd q.1 w1
        · exact q
        · have := q.1.2.1; have := v1.2.1; omega
      rw [v2, bd_some, fEq (by omega), hm, bd_some, fEq (by omega), jn_eq, fEq (by omega)]
      dsimp only
      have T1 : TxC (up C 4 6 1) t n := TxC_u h1 (by omega)
      have T2 : TxX (up X 95 31 (X 95 31 + 4)) t n := TxX_u h2 (by omega)
      have fc0 : FrC C (up C 4 6 1) := fun x y q1 _ _ _ => up_k q1
      have fx0 : FrX X (up X 95 31 (X 95 31 + 4)) := fun a b _ q => by rw [up_ap, if_neg (by omega)]
      unfold f_X8_readsRest
      rcases both_tkey T1 T2 (e := s + 4) (by rw [up_j (by omega)]; exact e1) (by rw [up_same, hX]; omega) e2 with ⟨k1, Ca, Xa, a1, a2, a3, a4, a5, a6, a7, a8, a9, a10, a11⟩ | ⟨k1, Ca, Xa, q, a1, a2, a3, a4, a5, a6, a7, a8, a9⟩
      · have fca : FrC C Ca := FrC_tr fc0 (fun x y q1 q2 q3 _ => a9 x y q1 q2 q3)
        have fxa : FrX X Xa := FrX_tr fx0 (fun a b q1 q2 => a11 a b q1 (by omega))
        have hkn : kEn t n (s + 4) ≤ n := ad_le (ad_le e2)
        have hkg : s + 4 ≤ kEn t n (s + 4) := Nat.le_trans ad_ge ad_ge
        rw [a1, bd_some, fEq (by omega), fEq (by omega), a2, bd_some, fEq (by omega), tEq (by omega), bd_some, fEq (by omega)]
        rcases both_stop a3 a4 a5 a6 hkn with ⟨k3, Cc, Xc, c1, c2, c3, c4, c5, c6, c7, c8, c9⟩ | ⟨k3, Cc, Xc, q, c1, c2, c3, c4, c5, c6, c7, c8, c9⟩
        · have hsg : kEn t n (s + 4) ≤ ad isB t n (kEn t n (s + 4)) := ad_ge
          rw [c1, bd_some, fEq (by omega), c2, bd_some, fEq (by omega)]
          refine Or.inr ⟨Cc, Xc, _, 2, Or.inr (Or.inl ⟨v1, k1, k3, rfl⟩), rfl, rfl, by omega, by have := k3.1; omega, c5, c6, c3, c4, FrC_tr fca (fun x y q1 _ _ _ => c7 x y q1), FrX_tr fxa (fun a b q1 q2 => c9 a b (by omega)), Or.inr (Or.inl ⟨rfl, ?_, kW t n (s + 4), ⟨?_, ?_, a7.2.2⟩, ⟨?_, ?_, a8.2.2⟩, (kW_ok k1).2⟩)⟩
          · rw [c8, a10, up_same]
          · rw [c7 _ _ (by omega)]; exact a7.1
          · intro j hj; rw [c7 _ _ (by omega)]; exact a7.2.1 j hj
          · rw [c9 _ _ (by omega)]; exact a8.1
          · intro j hj; rw [c9 _ _ (by omega)]; exact a8.2.1 j hj
        · rw [c1, bd_some, tEq (by omega), c2, bd_some, tEq (by omega)]
          exact Or.inl ⟨Cc, Xc, q, fun E hE => k3 (hoE E hE).2.2.1, rfl, rfl, c5, c6, c7, c3, c4, FrC_tr fca (fun x y q1 _ _ _ => c8 x y q1), FrX_tr fxa (fun a b q1 q2 => c9 a b (by omega))⟩
      · rw [a1, bd_some, tEq (by omega), fEq (by omega), a2, bd_some, tEq (by omega), bd_some, tEq (by omega)]
        exact Or.inl ⟨Ca, Xa, q, fun E hE => k1 (hoE E hE).2.1, rfl, rfl, a5, a6, a7, a3, a4, FrC_tr fc0 (fun x y q1 _ _ _ => a8 x y q1), FrX_tr fx0 (fun a b q1 q2 => a9 a b (by omega))⟩
    · rw [v2, bd_some, tEq (by omega)]
      have T0 : TxC (up C 4 6 2) t n := TxC_u h1 (by omega)
      have hk' : Tok1 (up C 4 6 2) t n s := ⟨by rw [up_j (by omega)]; exact hk.1, hk.2.1, by rw [up_j (by omega), up_j (by omega)]; exact hk.2.2⟩
      have fc0 : FrC C (up C 4 6 2) := fun x y q1 _ _ _ => up_k q1
      rcases sp_load T0 hk' with ⟨u1, u2⟩ | ⟨u1, u2⟩
      · -- load
        have hm : f_X8_commandHere X = some (X, 3) := by
          rcases tx_cmd h2 hX (by omega) with q | q | q | q
          · exact absurd q.1 w1
          · exact absurd q.1 v1
          · exact q.2
          · exact absurd u1 q.2.2.1
        obtain ⟨e1, e2⟩ := hend 4 (by omega) u1.1
        have hoE : ∀ E, CmdR t n s E → LoadR t n s E := by
          intro E hE
          rcases hE with q | q | q
          · exact absurd q.1 w1
          · exact absurd q.1 v1
          · exact q
        rw [u2, bd_some, fEq (by omega), hm, bd_some, fEq (by omega), jn_eq, fEq (by omega)]
        dsimp only
        have T2 : TxX (up X 95 31 (X 95 31 + 4)) t n := TxX_u h2 (by omega)
        have fx0 : FrX X (up X 95 31 (X 95 31 + 4)) := fun a b _ q => by rw [up_ap, if_neg (by omega)]
        unfold f_X8_readsRest f_X8_readsLoad
        rw [tEq (a := 3) (by omega)]
        rcases both_num (k := 0) T0 T2 (e := s + 4) (by rw [up_j (by omega)]; exact e1) (by rw [up_same, hX]; omega) e2 (by omega) (kz := 0) rfl (lo := 0) (hi' := 17575) (by omega) (by omega) with ⟨k1, Ca, Xa, a1, a2, a3, a4, a5, a6, a7, a8, a9, a10, a11, a12⟩ | ⟨k1, Ca, Xa, q, a1, a2, a3, a4, a5, a6, a7, a8, a9, _⟩
        · have fca : FrC C Ca := FrC_tr fc0 (fun x y q1 q2 q3 q4 => a9 x y q1 (by omega))
          have fxa : FrX X (up Xa 95 33 (Xa 95 32)) := FrX_tr (FrX_tr fx0 (fun a b q1 q2 => a11 a b (by omega))) (fun a b _ q => by rw [up_ap, if_neg (by omega)])
          have hn1 : nE t n (s + 4) ≤ n := ad_le (ad_le e2)
          have hg1 : s + 4 ≤ nE t n (s + 4) := Nat.le_trans ad_ge ad_ge
          rw [a1, bd_some, fEq (by omega), a2, bd_some, fEq (by omega)]
          rcases both_num (k := 1) a3 (TxX_u a4 (y := 33) (z := Xa 95 32) (by omega)) a5 (by rw [up_j (by omega)]; exact a6) hn1 (by omega) (kz := 1) rfl (lo := 1) (hi' := 99) (by omega) (by omega) with ⟨k2, Cb, Xb, b1, b2, b3, b4, b5, b6, b7, b8, b9, b10, b11, b12⟩ | ⟨k2, Cb, Xb, q, b1, b2, b3, b4, b5, b6, b7, b8, b9, _⟩
          · have fcb : FrC C Cb := FrC_tr fca (fun x y q1 q2 q3 q4 => b9 x y q1 (by omega))
            have fxb : FrX X (up Xb 95 34 (Xb 95 32)) := FrX_tr (FrX_tr fxa (fun a b q1 q2 => b11 a b (by omega))) (fun a b _ q => by rw [up_ap, if_neg (by omega)])
            have hn2 : nE t n (nE t n (s + 4)) ≤ n := ad_le (ad_le hn1)
            have hg2 : nE t n (s + 4) ≤ nE t n (nE t n (s + 4)) := Nat.le_trans ad_ge ad_ge
            have T3 : TxX (up Xb 95 34 (Xb 95 32)) t n := TxX_u b4 (by omega)
            have hsk := tx_skip (i := nE t n (nE t n (s + 4))) T3 (by rw [up_j (by omega)]; exact b6) hn2
            rw [b1, bd_some, fEq (by omega), b2, bd_some, fEq (by omega), hsk, bd_some]
            generalize hXs : up (up Xb 95 34 (Xb 95 32)) 95 31 ((ad isB t n (nE t n (nE t n (s + 4))) : Nat) : Int) = Xs
            have Ts : TxX Xs t n := by rw [← hXs]; exact TxX_u T3 (by omega)
            have hXs31 : Xs 95 31 = ((ad isB t n (nE t n (nE t n (s + 4))) : Nat) : Int) := by rw [← hXs]; exact up_same
            have fxs : FrX X Xs := FrX_tr fxb (fun a b _ q => by rw [← hXs, up_ap, if_neg (by omega)])
            have hskn : ad isB t n (nE t n (nE t n (s + 4))) ≤ n := ad_le hn2
            have hv33 : Xs 95 33 = nV t n (s + 4) := by rw [← hXs, up_j (by omega), up_j (by omega), b11 _ _ (by omega), up_same, a8]
            have hv34 : Xs 95 34 = nV t n (nE t n (s + 4)) := by rw [← hXs, up_j (by omega), up_same, b8]
            have hnum := tx_number (lo := 1) (hi' := 60) Ts hXs31 hskn (by omega) (by omega)
            have hen : nE t n (ad isB t n (nE t n (nE t n (s + 4)))) = nE t n (nE t n (nE t n (s + 4))) := by unfold nE; rw [ad_idem]
            have hvn : nV t n (ad isB t n (nE t n (nE t n (s + 4)))) = nV t n (nE t n (nE t n (s + 4))) := by unfold nV; rw [hen, ad_idem]
            rw [hen, hvn, ad_idem] at hnum
            have hn3 : nE t n (nE t n (nE t n (s + 4))) ≤ n := ad_le (ad_le hn2)
            have hg3 : nE t n (nE t n (s + 4)) ≤ nE t n (nE t n (nE t n (s + 4))) := Nat.le_trans ad_ge ad_ge
            rcases both_num (k := 2) b3 (TxX_u b4 (y := 31) (z := ((nE t n (nE t n (s + 4)) : Nat) : Int)) (by omega)) b5 up_same hn2 (by omega) (kz := 2) rfl (lo := 1) (hi' := 60) (by omega) (by omega) with ⟨k3, Cc, _, c1, _, c3, _, c5, _, c7, _, c9, c10, _, c12⟩ | ⟨k3, Cc, _, q, c1, _, c3, _, c5, _, c7, c8, _, c10⟩
            · have fcc : FrC C Cc := FrC_tr fcb (fun x y q1 q2 q3 q4 => c9 x y q1 (by omega))
              rcases hnum with ⟨m1, m2⟩ | ⟨m1, m2⟩
              · have e26_0 : Cc 26 0 = nV t n (s + 4) := by rw [c9 _ _ (by omega) (by omega), b9 _ _ (by omega) (by omega)]; exact a7
                have e26_1 : Cc 26 1 = nV t n (nE t n (s + 4)) := by rw [c9 _ _ (by omega) (by omega)]; exact b7
                have r1 := k1.2
                have r2 := k2.2
                have r3 := k3.2
                generalize hXc : up (up (up Xs 95 31 ((ad isB t n (nE t n (nE t n (s + 4))) : Nat) : Int)) 95 32 (nV t n (nE t n (nE t n (s + 4))))) 95 31 ((nE t n (nE t n (nE t n (s + 4))) : Nat) : Int) = Xc at m2
                have Tc : TxX Xc t n := by rw [← hXc]; exact TxX_u (TxX_u (TxX_u Ts (by omega)) (by omega)) (by omega)
                have xc33 : Xc 95 33 = nV t n (s + 4) := by rw [← hXc, up_j (by omega), up_j (by omega), up_j (by omega)]; exact hv33
                have xc34 : Xc 95 34 = nV t n (nE t n (s + 4)) := by rw [← hXc, up_j (by omega), up_j (by omega), up_j (by omega)]; exact hv34
                have xc32 : Xc 95 32 = nV t n (nE t n (nE t n (s + 4))) := by rw [← hXc, up_j (by omega), up_same]
                have xc31 : Xc 95 31 = ((nE t n (nE t n (nE t n (s + 4))) : Nat) : Int) := by rw [← hXc]; exact up_same
                have fxc : FrX X Xc := FrX_tr fxs (fun a b _ q => by rw [← hXc, up_ap, if_neg (by omega), up_ap, if_neg (by omega), up_ap, if_neg (by omega)])
                have hm1 : 0 ≤ nV t n (nE t n (s + 4)) * (nV t n (nE t n (nE t n (s + 4))) - 1) := Int.mul_nonneg (by omega) (by omega)
                have hm2 : nV t n (nE t n (s + 4)) * (nV t n (nE t n (nE t n (s + 4))) - 1) ≤ 99 * (nV t n (nE t n (nE t n (s + 4))) - 1) := Int.mul_le_mul_of_nonneg_right (by omega) (by omega)
                unfold f_X5_number f_X7_endsInTime f_X8_isLoad
                rw [c1, bd_some, fEq (by omega), m2, bd_some, fEq (by omega), fLt (a := 0) (b := 0) (by omega), tLt (a := 0) (by omega), ix_t (by omega), bd_some, fLt (a := 1) (b := 0) (by omega), tLt (a := 1) (by omega), ix_t (by omega), bd_some, fLt (a := 2) (b := 0) (by omega), tLt (a := 2) (by omega), ix_t (by omega), bd_some, xc33, xc34, xc32]
                show CmdRes t n s C X (bd (cLt 17575 (Cc 26 0 + Cc 26 1 * (Cc 26 2 - 1)) _ _) _) _
                rw [e26_0, e26_1, c7, mx_within (by simp only [R32]; omega) (by simp only [R32]; omega) (by simp only [R32]; omega), bd_some, if_pos (by omega), fEq (by omega), mx_within (by simp only [R32]; omega) (by simp only [R32]; omega) (by simp only [R32]; omega), bd_some, if_pos (by omega), fEq (by omega), mx_within (by simp only [R32]; omega) (by simp only [R32]; omega) (by simp only [R32]; omega), bd_some, if_pos (by omega), fEq (by omega)]
                by_cases hsum : 17575 < nV t n (s + 4) + nV t n (nE t n (s + 4)) * (nV t n (nE t n (nE t n (s + 4))) - 1)
                · rw [tLt (by omega), tLt (by omega), bd_some, bd_some, tEq (by omega), tEq (by omega), hXs31, bd_some, bo_t (by omega), bd_some, tEq (by omega)]
                  refine Or.inl ⟨Cc, _, ad isB t n (nE t n (nE t n (s + 4))), fun E hE => absurd (hoE E hE).2.2.2.2.1 (by omega), rfl, rfl, c12, up_same, hskn, c3, TxX_u Tc (by omega), fcc, FrX_tr fxc (fun a b _ q => by rw [up_ap, if_neg (by omega)])⟩
                · rw [fLt (by omega), fLt (by omega), bd_some, bd_some, fEq (by omega), fEq (by omega), bd_some, bo_t (by omega), bd_some, fEq (by omega)]
                  rcases both_stop c3 Tc c5 xc31 hn3 with ⟨k4, Cd, Xd, d1, d2, d3, d4, d5, d6, d7, d8, d9⟩ | ⟨k4, Cd, Xd, q, d1, d2, d3, d4, d5, d6, d7, d8, d9⟩
                  · have hsg : nE t n (nE t n (nE t n (s + 4))) ≤ ad isB t n (nE t n (nE t n (nE t n (s + 4)))) := ad_ge
                    rw [d1, bd_some, fEq (by omega), d2, bd_some, fEq (by omega)]
                    have y33 : Xd 95 33 = nV t n (s + 4) := by rw [d9 _ _ (by omega)]; exact xc33
                    have y34 : Xd 95 34 = nV t n (nE t n (s + 4)) := by rw [d9 _ _ (by omega)]; exact xc34
                    have y32 : Xd 95 32 = nV t n (nE t n (nE t n (s + 4))) := by rw [d9 _ _ (by omega)]; exact xc32
                    refine Or.inr ⟨Cd, Xd, _, 3, Or.inr (Or.inr ⟨u1, k1, k2, k3, by omega, k4, rfl⟩), rfl, rfl, by omega, by have := k4.1; omega, d5, d6, d3, d4, FrC_tr fcc (fun x y q1 _ _ _ => d7 x y q1), FrX_tr fxc (fun a b q1 q2 => d9 a b (by omega)), Or.inr (Or.inr ⟨rfl, ?_, ?_, ?_, ?_, ?_, ?_⟩)⟩
                    · rw [d8, c10, b10, a10, up_same]
                    · rw [d7 _ _ (by omega), e26_0, y33]
                    · rw [d7 _ _ (by omega), e26_1, y34]
                    · rw [d7 _ _ (by omega), c7, y32]
                    · rw [y32]; omega
                    · rw [y33, y34, y32]
                      have : ((nV t n (nE t n (nE t n (s + 4)))).toNat : Int) = nV t n (nE t n (nE t n (s + 4))) := by omega
                      exact ⟨r1.1, r2.1, r2.2, by omega, by omega, by rw [this]; omega⟩
                  · rw [d1, bd_some, tEq (by omega), d2, bd_some, tEq (by omega)]
                    exact Or.inl ⟨Cd, Xd, q, fun E hE => k4 (hoE E hE).2.2.2.2.2.1, rfl, rfl, d5, d6, d7, d3, d4, FrC_tr fcc (fun x y q1 _ _ _ => d8 x y q1), FrX_tr fxc (fun a b q1 q2 => d9 a b (by omega))⟩
              · exact absurd (NumOk_sk.mpr k3) m1
            · rcases hnum with ⟨m1, m2⟩ | ⟨m1, m2⟩
              · exact absurd (NumOk_sk.mp m1) k3
              · have hq : (q : Int) = ((ad isB t n (nE t n (nE t n (s + 4))) : Nat) : Int) := by rw [c10]
                rw [c1, bd_some, tEq (by omega), m2, bd_some, tEq (by omega), bd_some, bo_t (by omega), bd_some, tEq (by omega)]
                exact Or.inl ⟨Cc, _, q, fun E hE => k3 (hoE E hE).2.2.2.1, rfl, rfl, c5, by rw [up_same, hq], c7, c3, TxX_u Ts (by omega), FrC_tr fcb (fun x y q1 _ _ _ => c8 x y q1), FrX_tr fxs (fun a b _ q => by rw [up_ap, if_neg (by omega)])⟩
          · rw [b1, bd_some, tEq (by omega), b2, bd_some, tEq (by omega), bd_some, bo_t (by omega), bd_some, tEq (by omega)]
            exact Or.inl ⟨Cb, Xb, q, fun E hE => k2 (hoE E hE).2.2.1, rfl, rfl, b5, b6, b7, b3, b4, FrC_tr fca (fun x y q1 _ _ _ => b8 x y q1), FrX_tr fxa (fun a b q1 q2 => b9 a b (by omega))⟩
        · rw [a1, bd_some, tEq (by omega), a2, bd_some, tEq (by omega), bd_some, bo_t (by omega), bd_some, tEq (by omega)]
          exact Or.inl ⟨Ca, Xa, q, fun E hE => k1 (hoE E hE).2.1, rfl, rfl, a5, a6, a7, a3, a4, FrC_tr fc0 (fun x y q1 _ _ _ => a8 x y q1), FrX_tr fx0 (fun a b q1 q2 => a9 a b (by omega))⟩
      · -- none
        have hm : f_X8_commandHere X = some (X, 0) := by
          rcases tx_cmd h2 hX (by omega) with q | q | q | q
          · exact absurd q.1 w1
          · exact absurd q.1 v1
          · exact absurd q.1 u1
          · exact q.2.2.2
        rw [u2, bd_some, tEq (by omega), hm, bd_some, tEq (by omega)]
        refine Or.inl ⟨_, X, s, ?_, rfl, rfl, by rw [up_j (by omega)]; exact hC2, hX, by omega, T0, h2, fc0, FrX_refl⟩
        intro E hE
        rcases hE with q | q | q
        · exact w1 q.1
        · exact v1 q.1
        · exact u1 q.1
end RU
end
section
/-! RUN. -/
def AllOk (t : Nat → Int) (n : Nat) : Nat → Nat → Prop
  | 0, e => n ≤ ad isB t n e
  | m + 1, e => ad isB t n e < n → ∃ E, CmdR t n (ad isB t n e) E ∧ AllOk t n m E
section R3
variable {C C' X X' : Mem} {t : Nat → Int} {n i e st k s E : Nat} {z a b c : Int}
theorem Inv_fr (h : Inv C X) (h1 : FrC C C') (h2 : FrX X X') (h3 : C' 4 1 = C 4 1) : Inv C' X' := by
  refine ⟨Tree_kp h.1 (fun x y hx => h1 x y (by omega) (by omega) (by omega) (by omega)) (fun a b hab => h2 a b (by omega) (by omega)), ?_, ?_, ?_⟩
  · obtain ⟨n, n1, n2, n3, n4⟩ := h.2.1
    refine ⟨n, n1, by rw [h3]; exact n2, by rw [h2 _ _ (by omega) (by omega)]; exact n3, fun j hj => ?_⟩
    rw [h1 _ _ (by omega) (by omega) (by omega) (by omega), h2 _ _ (by omega) (by omega)]; exact n4 j hj
  · rcases h.2.2.1 with ⟨q1, q2⟩ | ⟨q1, P, root, L, g1, g2, g3, g4, g5, g6, g7⟩
    · exact Or.inl ⟨by rw [h1 _ _ (by omega) (by omega) (by omega) (by omega)]; exact q1, by rw [h2 _ _ (by omega) (by omega)]; exact q2⟩
    · exact Or.inr ⟨by rw [h1 _ _ (by omega) (by omega) (by omega) (by omega)]; exact q1, P, root, L, g1, by rw [h1 _ _ (by omega) (by omega) (by omega) (by omega)]; exact g2, by rw [h1 _ _ (by omega) (by omega) (by omega) (by omega)]; exact g3, by rw [h2 _ _ (by omega) (by omega)]; exact g4, by rw [h2 _ _ (by omega) (by omega)]; exact g5, fun i hi j hj => by rw [h1 _ _ (by omega) (by omega) (by omega) (by omega)]; exact g6 i hi j hj, fun i hi j hj => by rw [h2 _ _ (by omega) (by omega)]; exact g7 i hi j hj⟩
  · rcases h.2.2.2 with ⟨q1, q2⟩ | ⟨q1, P, root, L, g1, g2, g3, g4, g5, g6, g7⟩
    · exact Or.inl ⟨by rw [h1 _ _ (by omega) (by omega) (by omega) (by omega)]; exact q1, by rw [h2 _ _ (by omega) (by omega)]; exact q2⟩
    · exact Or.inr ⟨by rw [h1 _ _ (by omega) (by omega) (by omega) (by omega)]; exact q1, P, root, L, g1, by rw [h1 _ _ (by omega) (by omega) (by omega) (by omega)]; exact g2, by rw [h1 _ _ (by omega) (by omega) (by omega) (by omega)]; exact g3, by rw [h2 _ _ (by omega) (by omega)]; exact g4, by rw [h2 _ _ (by omega) (by omega)]; exact g5, fun i hi j hj => by rw [h1 _ _ (by omega) (by omega) (by omega) (by omega)]; exact g6 i hi j hj, fun i hi j hj => by rw [h2 _ _ (by omega) (by omega)]; exact g7 i hi j hj⟩
/-- is there more: the class has read the next token -/
theorem sp_more (h : TxC C t n) (he : C 4 3 = (e : Int)) (hen : e ≤ n) : ∃ C', TxC C' t n ∧ FrC C C' ∧ ((n ≤ ad isB t n e ∧ f_X5_hasMore C = some (C', 0)) ∨ (ad isB t n e < n ∧ f_X5_hasMore C = some (C', 1) ∧ Tok1 C' t n (ad isB t n e))) := by
  obtain ⟨C', r1, r2, r3, r4, r5, r6⟩ := tc_tok h he hen
  refine ⟨C', r2, fun x y q _ _ _ => r3 x y q, ?_⟩
  unfold f_X5_hasMore
  rw [r1, bd_some]
  rcases r6 with ⟨q1, q2, q3⟩ | ⟨q1, q | q | q⟩
  · exact Or.inl ⟨q1, by rw [tEq (by omega)]⟩
  · exact Or.inr ⟨q1, by rw [fEq (by omega)], r5, q1, Or.inl q⟩
  · have hnl : isL (t (ad isB t n e)) = false := by
      have hf := figs q.1
      unfold isL
      simp
      omega
    obtain ⟨q2, q3, q4 | q4⟩ := q
    · exact Or.inr ⟨q1, by rw [fEq (by omega)], r5, q1, Or.inr ⟨hnl, by omega, by omega, by omega⟩⟩
    · exact Or.inr ⟨q1, by rw [fEq (by omega)], r5, q1, Or.inr ⟨hnl, by omega, by omega, by omega⟩⟩
  · have h4 : C' 4 4 = 3 ∨ C' 4 4 = 4 := by rw [q.2.2.2]; split <;> omega
    exact Or.inr ⟨q1, by rw [fEq (by omega)], r5, q1, Or.inr ⟨q.1, by omega, by omega, by omega⟩⟩
theorem pass1 {K' : Mem → Option (Mem × Int)} : ∀ (m f f' e : Nat) (v1 : Int) (C X : Mem), TxC C t n → TxX X t n → C 4 3 = (e : Int) → X 95 31 = ((ad isB t n e : Nat) : Int) → e ≤ n → 0 ≤ v1 → v1 ≤ (e : Int) → n - e ≤ m → m < f → m < f' → (∃ (C' X' : Mem) (q : Nat), q ≤ n ∧ f_X5_firstFault_6 (fun (v1_e6 : Int) (C_e6 : Mem) => (some (C_e6, -1))) f v1 C = some (C', (q : Int)) ∧ f_X8_run_9 K' f' X = some (X', (-10) - (q : Int)) ∧ TxC C' t n ∧ TxX X' t n ∧ FrC C C' ∧ FrX X X') ∨ (∃ (C' X' : Mem), f_X5_firstFault_6 (fun (v1_e6 : Int) (C_e6 : Mem) => (some (C_e6, -1))) f v1 C = some (C', -1) ∧ f_X8_run_9 K' f' X = K' X' ∧ AllOk t n m e ∧ TxC C' t n ∧ TxX X' t n ∧ FrC C C' ∧ FrX X X')
  | _, 0, _ => by intros; omega
  | _, _, 0 => by intros; omega
  | m, f + 1, f' + 1 => by
    intro e v1 C X h1 h2 hC hX he hv0 hv hm hf hf'
    have hn := h1.2.1
    obtain ⟨C1, t1, t2, t3⟩ := sp_more h1 hC he
    have hsge : e ≤ ad isB t n e := ad_ge
    have hsle : ad isB t n e ≤ n := ad_le he
    unfold f_X5_firstFault_6 f_X8_run_9
    rw [fLt (by omega), hX, h2.1]
    rcases t3 with ⟨q1, q2⟩ | ⟨q1, q2, q3⟩
    · rw [q2, bd_some, tEq (by omega), fLt (by omega)]
      refine Or.inr ⟨C1, X, rfl, rfl, ?_, t1, h2, t2, FrX_refl⟩
      cases m with
      | zero => exact q1
      | succ m => intro hh; omega
    · rw [q2, bd_some, fEq (by omega), tLt (by omega)]
      rcases both_cmd t1 h2 q3 hX with ⟨C2, X2, q, g1, g2, g3, g4, g5, g6, g7, g8, g9, g10⟩ | ⟨C2, X2, E, c, g1, g2, g3, g4, g5, g6, g7, g8, g9, g10, g11, g12⟩
      · rw [g2, bd_some, tEq (by omega), g3, bd_some, tEq (by omega), g4, g5]
        exact Or.inl ⟨C2, X2, q, g6, rfl, rfl, g7, g8, FrC_tr t2 g9, g10⟩
      · have hc : c = 1 ∨ c = 2 ∨ c = 3 := by
          rcases g12 with q | q | q
          · exact Or.inl q.1
          · exact Or.inr (Or.inl q.1)
          · exact Or.inr (Or.inr q.1)
        have hsk := tx_skip g9 g7 g5
        rw [g2, bd_some, fEq (by omega), g3, bd_some, fEq (by omega), hsk, bd_some]
        cases m with
        | zero => omega
        | succ m =>
          rcases pass1 (K' := K') m f f' E (v1 + 1) C2 (up X2 95 31 ((ad isB t n E : Nat) : Int)) g8 (TxX_u g9 (by omega)) g6 up_same g5 (by omega) (by omega) (by omega) (by omega) (by omega) with ⟨C3, X3, q, i0, i1, i2, i3, i4, i5, i6⟩ | ⟨C3, X3, i1, i2, i3, i4, i5, i6, i7⟩
          · exact Or.inl ⟨C3, X3, q, i0, i1, i2, i3, i4, FrC_tr (FrC_tr t2 g10) i5, FrX_tr (FrX_tr g11 (fun a b _ q => by rw [up_ap, if_neg (by omega)])) i6⟩
          · exact Or.inr ⟨C3, X3, i1, i2, fun _ => ⟨E, g1, i3⟩, i4, i5, FrC_tr (FrC_tr t2 g10) i6, FrX_tr (FrX_tr g11 (fun a b _ q => by rw [up_ap, if_neg (by omega)])) i7⟩
theorem TxC_kp (h : TxC C t n) (h1 : KpC C C') : TxC C' t n := ⟨by rw [h1 _ _ (by omega) (by omega) (by omega)]; exact h.1, h.2.1, fun j hj => by rw [h1 _ _ (by omega) (by omega) (by omega)]; exact h.2.2 j hj⟩
theorem TxX_kp (h : TxX X t n) (h1 : KpX X X') : TxX X' t n := ⟨by rw [h1 _ _ (by omega)]; exact h.1, h.2.1, fun j hj => by rw [h1 _ _ (by omega)]; exact h.2.2 j hj⟩
/-- what was read is done, on both sides alike -/
theorem both_do (h : Inv C X) (ht : Told C X c) : ∃ (C' X' : Mem) (z d : Int), KpC C C' ∧ KpX X X' ∧ Inv C' X' ∧ (d = 0 ∨ d = 1) ∧ f_X8_does c X = some (X', d) ∧ ((c = 1 ∧ f_X0_putKey 4 (C 26 0) C = some (C', z) ∧ -9 ≤ z ∧ z ≤ 255 ∧ (z = -3 ↔ d = 0)) ∨ (c = 2 ∧ f_X0_takeKey 4 C = some (C', z) ∧ -9 ≤ z ∧ z ≤ 255 ∧ (z = -9 ↔ d = 0)) ∨ (c = 3 ∧ f_X0_loadRow (C 26 0) (C 26 1) (C 26 2) C = some (C', z) ∧ d = 1)) := by
  obtain ⟨P, root, L, d1, d2, d3, r1, r2, r3⟩ := h.1
  rcases ht with ⟨c1, c2, w, k1, k2, k3, k4, k5, k6⟩ | ⟨c1, c2, w, k1, k2, k3⟩ | ⟨c1, c2, k1, k2, k3, k4, k5⟩
  · obtain ⟨y, y1, y2, hf⟩ := put_key (z := X 95 32) r3 r1 r2 k1 (by omega) (by omega) k2 k3 ⟨k5, k6⟩
    obtain ⟨C', X', P', root', L', e1, e2, e3, g1, g2, g3, g4, g5, g6, g7⟩ := hf
    refine ⟨C', X', y, if y = -3 then 0 else 1, g6, g7, Inv_kp h ⟨P', root', L', e1, e2, e3, g3, g4, g5⟩ g6 g7, ?_, ?_, Or.inl ⟨c1, by rw [k4]; exact g1, y1, y2, ?_⟩⟩
    · split
      · exact Or.inl rfl
      · exact Or.inr rfl
    · unfold f_X8_does
      rw [c1, tEq (by omega), g2, bd_some]
      by_cases h3 : y = -3
      · rw [tEq (by omega), if_pos h3]
      · rw [fEq (by omega), if_neg h3]
    · by_cases h3 : y = -3
      · rw [if_pos h3]; simp [h3]
      · rw [if_neg h3]
        constructor
        · intro q; exact absurd q h3
        · intro q; omega
  · obtain ⟨y, y1, y2, hf⟩ := take_key r3 r1 r2 k1 (by omega) k2
    obtain ⟨C', X', P', root', L', e1, e2, e3, g1, g2, g3, g4, g5, g6, g7⟩ := hf
    refine ⟨C', X', y, if y = -9 then 0 else 1, g6, g7, Inv_kp h ⟨P', root', L', e1, e2, e3, g3, g4, g5⟩ g6 g7, ?_, ?_, Or.inr (Or.inl ⟨c1, g1, y1, y2, ?_⟩)⟩
    · split
      · exact Or.inl rfl
      · exact Or.inr rfl
    · unfold f_X8_does
      rw [c1, fEq (by omega), tEq (by omega), g2, bd_some]
      by_cases h3 : y = -9
      · rw [tEq (by omega), if_pos h3]
      · rw [fEq (by omega), if_neg h3]
    · by_cases h3 : y = -9
      · rw [if_pos h3]; simp [h3]
      · rw [if_neg h3]
        constructor
        · intro q; exact absurd q h3
        · intro q; omega
  · have hcz : X 95 32 = (((X 95 32).toNat : Nat) : Int) := by omega
    obtain ⟨C', X', P', root', L', q1, q2, q3, q4, q5, q6, q7, q8, q9⟩ := ld_all k5 r1 r2
    rw [← hcz] at q1 q2
    refine ⟨C', X', 0, 1, q8, q9, Inv_kp h ⟨P', root', L', d1, d2, d3, q5, q6, q7⟩ q8 q9, Or.inr rfl, ?_, Or.inr (Or.inr ⟨c1, by rw [k1, k2, k3]; exact q1, rfl⟩)⟩
    unfold f_X8_does
    rw [c1, fEq (by omega), fEq (by omega), q2, bd_some, tLt (by omega)]
theorem pass2 : ∀ (m f f' e : Nat) (v2 v3 : Int) (C X : Mem), Inv C X → TxC C t n → TxX X t n → C 4 3 = (e : Int) → X 95 31 = ((ad isB t n e : Nat) : Int) → e ≤ n → 0 ≤ v3 → v3 ≤ (e : Int) → n - e ≤ m → AllOk t n m e → m < f → m < f' → Agree Inv (f_X7_run_28 (fun (v2_e28 : Int) (v3_e28 : Int) (C_e28 : Mem) => (some ((up C_e28 4 1 (0)), v2_e28))) f v2 v3 C) (f_X8_run_53 (fun (v1_e53 : Int) (C_e53 : Mem) => (some ((up C_e53 95 30 (0)), v1_e53))) f' v2 X)
  | _, 0, _ => by intros; omega
  | _, _, 0 => by intros; omega
  | m, f + 1, f' + 1 => by
    intro e v2 v3 C X hI h1 h2 hC hX he hv0 hv hm hok hf hf'
    have hn := h1.2.1
    have hsge : e ≤ ad isB t n e := ad_ge
    have hsle : ad isB t n e ≤ n := ad_le he
    obtain ⟨C1, t1, t2, t3⟩ := sp_more h1 hC he
    unfold f_X7_run_28 f_X8_run_53
    rw [hX, h2.1]
    by_cases h120 : v3 < 120
    · rw [tLt (a := v3) (by omega)]
      rcases t3 with ⟨q1, q2⟩ | ⟨q1, q2, q3⟩
      · rw [q2, bd_some, tEq (by omega), fLt (by omega)]
        exact ⟨_, _, _, rfl, rfl, Inv_clear (Inv_fr hI t2 FrX_refl (by rw [t1.1, h1.1]))⟩
      · rw [q2, bd_some, fEq (by omega), tLt (by omega)]
        have hI1 : Inv C1 X := Inv_fr hI t2 FrX_refl (by rw [t1.1, h1.1])
        cases m with
        | zero => omega
        | succ m =>
        obtain ⟨E0, hE0, hok2⟩ := hok q1
        rcases both_cmd t1 h2 q3 hX with ⟨C2, X2, q, g1, _⟩ | ⟨C2, X2, E, c, g1, g2, g3, g4, g5, g6, g7, g8, g9, g10, g11, g12⟩
        · exact absurd hE0 (g1 E0)
        · have hEE : E = E0 := CmdR_fun g1 hE0
          subst hEE
          have hI2 : Inv C2 X2 := Inv_fr hI1 g10 g11 (by rw [g8.1, t1.1])
          obtain ⟨C3, X3, z, d, p1, p2, p3, p4, p5, p6⟩ := both_do hI2 g12
          have e43 : C3 4 3 = (E : Int) := by rw [p1 _ _ (by omega) (by omega) (by omega)]; exact g6
          have e31 : X3 95 31 = (E : Int) := by rw [p2 _ _ (by omega)]; exact g7
          have T3 := TxC_kp g8 p1
          have S3 := TxX_kp g9 p2
          have hsk := tx_skip S3 e31 g5
          have hI4 : Inv C3 (up X3 95 31 ((ad isB t n E : Nat) : Int)) := Inv_fr p3 FrC_refl (fun a b _ q => by rw [up_ap, if_neg (by omega)]) rfl
          have ih := fun v => pass2 m f f' E v (v3 + 1) C3 (up X3 95 31 ((ad isB t n E : Nat) : Int)) hI4 T3 (TxX_u S3 (by omega)) e43 up_same g5 (by omega) (by omega) (by omega) hok2 (by omega) (by omega)
          have modl : ∀ K : Int → Mem → Option (Mem × Int), (bd (f_X8_readsCommand X) (fun C67 r67 => (bd (f_X8_does (r67) C67) (fun C70 r70 => (jn ((fun (s1_81 : Int) => (bd (f_X8_skip C70) (fun C84 _ => (f_X8_run_53 K f' (v2 + s1_81) C84)))) : Int → Option (Mem × Int)) (fun j81 => (cEq (r70) 0 (j81 (0)) (j81 (1))))))))) = f_X8_run_53 K f' (v2 + d) (up X3 95 31 ((ad isB t n E : Nat) : Int)) := by
            intro K
            rw [g3, bd_some, p5, bd_some, jn_eq]
            rcases p4 with hd | hd
            · subst hd
              rw [tEq (by omega)]
              dsimp only
              rw [hsk, bd_some]
            · subst hd
              rw [fEq (by omega)]
              dsimp only
              rw [hsk, bd_some]
          rw [modl, g2, bd_some, fEq (by omega), jn_eq]
          unfold f_X5_number
          rcases p6 with ⟨c1, c2, c3, c4, c5⟩ | ⟨c1, c2, c3, c4, c5⟩ | ⟨c1, c2, c3⟩
          · have e46 : C2 4 6 = 0 := by
              rcases g12 with q | q | q
              · exact q.2.1
              · have := q.1; omega
              · have := q.1; omega
            rw [tEq (by omega), fLt (a := 0) (b := 0) (by omega), tLt (a := 0) (by omega), ix_t (by omega), bd_some]
            show Agree Inv (bd (f_X0_putKey 4 (C2 26 0) C2) _) _
            rw [c2, bd_some, jn_eq]
            by_cases hz : z = -3
            · rw [tEq (by omega)]
              dsimp only
              rw [fEq (by omega), show d = 0 from c5.mp hz]
              exact ih _
            · rw [fEq (by omega)]
              dsimp only
              have : d = 1 := by
                rcases p4 with q | q
                · exact absurd (c5.mpr q) hz
                · exact q
              rw [tEq (by omega), this]
              exact ih _
          · have e46 : C2 4 6 = 1 := by
              rcases g12 with q | q | q
              · have := q.1; omega
              · exact q.2.1
              · have := q.1; omega
            rw [fEq (by omega), tEq (by omega), c2, bd_some, jn_eq]
            by_cases hz : z = -9
            · rw [tEq (by omega)]
              dsimp only
              rw [fEq (by omega), show d = 0 from c5.mp hz]
              exact ih _
            · rw [fEq (by omega)]
              dsimp only
              have : d = 1 := by
                rcases p4 with q | q
                · exact absurd (c5.mpr q) hz
                · exact q
              rw [tEq (by omega), this]
              exact ih _
          · have e46 : C2 4 6 = 2 := by
              rcases g12 with q | q | q
              · have := q.1; omega
              · have := q.1; omega
              · exact q.2.1
            rw [fEq (a := C2 4 6) (b := 0) (by omega), fEq (a := C2 4 6) (b := 1) (by omega), fLt (a := 0) (b := 0) (by omega), tLt (a := 0) (by omega), ix_t (by omega), bd_some, fLt (a := 1) (b := 0) (by omega), tLt (a := 1) (by omega), ix_t (by omega), bd_some, fLt (a := 2) (b := 0) (by omega), tLt (a := 2) (by omega), ix_t (by omega), bd_some]
            show Agree Inv (bd (f_X0_loadRow (C2 26 0) (C2 26 1) (C2 26 2) C2) _) _
            rw [c2, bd_some]
            dsimp only
            rw [tEq (by omega), c3]
            exact ih _
    · rw [fLt (a := v3) (by omega), fLt (by omega)]
      exact ⟨_, _, _, rfl, rfl, Inv_clear hI⟩
theorem ag_run (h : Inv C X) : Agree Inv (f_X7_run C) (f_X8_run X) := by
  have hfu := FU_eq
  obtain ⟨n, n1, n2, n3, n4⟩ := h.2.1
  have T : TxC C (fun j => C 25 j) n := ⟨n2, n1, fun j hj => ⟨rfl, (n4 j hj).2⟩⟩
  have S : TxX X (fun j => C 25 j) n := ⟨n3, n1, fun j hj => ⟨(n4 j hj).1.symm, (n4 j hj).2⟩⟩
  generalize (fun j => C 25 j) = t at T S
  have T0 : TxC (up C 4 3 0) t n := TxC_u T (by omega)
  have S0 : TxX (up X 95 31 0) t n := TxX_u S (by omega)
  have sk := tx_skip (i := 0) S0 up_same (by omega)
  rw [up_up] at sk
  have S1 : TxX (up X 95 31 ((ad isB t n 0 : Nat) : Int)) t n := TxX_u S (by omega)
  have fc0 : FrC C (up C 4 3 0) := fun x y q _ _ _ => up_k q
  have fx0 : FrX X (up X 95 31 ((ad isB t n 0 : Nat) : Int)) := fun a b _ q => by rw [up_ap, if_neg (by omega)]
  unfold f_X7_run f_X8_run f_X5_firstFault f_X5_rewind
  rw [bd_some, sk, bd_some]
  rcases pass1 (K' := (fun (C_e9 : Mem) => (bd (f_X8_skip (up C_e9 95 31 (0))) (fun C48 _ => (f_X8_run_53 (fun (v1_e53 : Int) (C_e53 : Mem) => (some ((up C_e53 95 30 (0)), v1_e53))) FU (0) C48))))) n FU FU 0 0 (up C 4 3 0) (up X 95 31 ((ad isB t n 0 : Nat) : Int)) T0 S1 up_same up_same (by omega) (by omega) (by omega) (by omega) (by omega) (by omega) with ⟨C', X', q, i0, i1, i2, i3, i4, i5, i6⟩ | ⟨C', X', i1, i2, i3, i4, i5, i6, i7⟩
  · rw [i1, i2, bd_some, fLt (by omega)]
    exact ⟨C', X', _, rfl, rfl, Inv_fr h (FrC_tr fc0 i5) (FrX_tr fx0 i6) (by rw [i3.1, n2])⟩
  · rw [i1, i2, bd_some, tLt (by omega), bd_some]
    have hI : Inv C' X' := Inv_fr h (FrC_tr fc0 i6) (FrX_tr fx0 i7) (by rw [i4.1, n2])
    have sk2 := tx_skip (i := 0) (TxX_u i5 (y := 31) (z := 0) (by omega)) up_same (by omega)
    rw [up_up] at sk2
    rw [sk2, bd_some]
    exact pass2 n FU FU 0 0 0 (up C' 4 3 0) (up X' 95 31 ((ad isB t n 0 : Nat) : Int)) (Inv_fr hI (fun x y q _ _ _ => up_k q) (fun a b _ q => by rw [up_ap, if_neg (by omega)]) (by rw [up_j (by omega)])) (TxC_u i4 (by omega)) (TxX_u i5 (by omega)) up_same up_same (by omega) (by omega) (by omega) (by omega) i3 (by omega) (by omega)
end R3
end
section
/-! CHECK 1: what a page's bytes say; is it readable. -/
abbrev By : Type := Nat → Nat → Int
def RdC (C : Mem) (B : By) : Prop := ∀ p, p < 32 → ∀ j, j < 64 → C (61 + p) j = B p j
def RdX (X : Mem) (B : By) : Prop := ∀ p : Nat, p < 32 → ∀ j : Nat, j < 64 → ∀ a b : Int, a = (p : Int) → b = (j : Int) → f_X8_as a b X = some (X, B p j)
def ByOk (B : By) : Prop := ∀ p j, 0 ≤ B p j ∧ B p j ≤ 255
def Rb (B : By) (p : Nat) (es : List Ent) : Prop := (∀ j, j < 64 → B p j = enc (B p 0) (B p 2) es j) ∧ EsOk es ∧ szs es ≤ 61
section K1
variable {C X : Mem} {B : By} {p : Nat} {es a b : List Ent} {e : Ent} {z : Int}
theorem ck_at (h : RdC C B) (hp : p < 32) {j : Nat} (hj : j < 64) (hz : z = (j : Int)) : f_X4_at p z C = some (C, B p j) := by
  have h2 := pl_32 hp
  unfold f_X4_at
  rw [h2, fLt (by omega), tLt (by omega), ix_t (by omega), nat2 hz, h p hp j hj]
theorem ck_at0 (hp : p < 32) (hz : 64 ≤ z) (hz2 : z < 2147483648) : f_X4_at p z C = some (C, 0) := by
  have h2 := pl_32 hp
  unfold f_X4_at
  rw [h2, fLt (by omega), fLt (by omega)]
theorem ck_ent (h : RdC C B) (hp : p < 32) : f_X4_entries p C = some (C, B p 1) := by
  have h2 := pl_32 hp
  unfold f_X4_entries
  rw [h2, ix_t (by omega), h p hp 1 (by omega)]
theorem ck_sort (h : RdC C B) (hp : p < 32) : f_X4_sort p C = some (C, B p 0) := by
  have h2 := pl_32 hp
  unfold f_X4_sort
  rw [h2, ix_t (by omega), h p hp 0 (by omega)]
theorem ck_link (h : RdC C B) (hp : p < 32) : f_X4_link p C = some (C, B p 2) := by
  have h2 := pl_32 hp
  unfold f_X4_link
  rw [h2, ix_t (by omega), h p hp 2 (by omega)]
theorem ck_pg (h : RdC C B) (hB : ByOk B) (hp : p < 32) (hr : Rb B p es) : PgC C p (B p 0) (B p 2) es := by
  have h2 := pl_32 hp
  refine ⟨fun j hj => ?_, hr.2.1, by have := hr.2.2; omega, hB p 0, hB p 2⟩
  rw [h2] at hj
  rw [h p hp j hj]
  exact hr.1 j hj
/-- the letters of one entry, both sides -/
theorem ck_letters (h : RdC C B) (hx : RdX X B) (hB : ByOk B) (hp : p < 32) {v r : Nat} (hv : v + r + 2 ≤ 64) {u2 u3 u5 : Int} {K : Int → Mem → Option (Mem × Int)} {K' : Int → Mem → Option (Mem × Int)} {pz vz rz : Int} (hpz : pz = (p : Int)) (hvz : vz = (v : Int)) (hrz : rz = (r : Int)) : ∀ (m n n' : Nat) (w w' : Int), m ≤ r → w = ((r - m + 1 : Nat) : Int) → w' = ((r - m : Nat) : Int) → m < n → m < n' → (∀ t, t < r - m → 97 ≤ B p (v + 1 + t) ∧ B p (v + 1 + t) ≤ 122) → ((∀ t, t < r → 97 ≤ B p (v + 1 + t) ∧ B p (v + 1 + t) ≤ 122) ∧ f_X1_isReadable_43 p vz u2 rz K n w C = K (rz + 1) C ∧ f_X8_isRead_91 pz u3 vz u5 rz K' n' w' X = K' rz X) ∨ (f_X1_isReadable_43 p vz u2 rz K n w C = some (C, 0) ∧ f_X8_isRead_91 pz u3 vz u5 rz K' n' w' X = some (X, 0))
  | _, 0, _ => by intros; omega
  | _, _, 0 => by intros; omega
  | 0, n + 1, n' + 1 => by
    intro w w' _ hw hw' _ _ hl
    refine Or.inl ⟨fun t ht => hl t (by omega), ?_, ?_⟩
    · unfold f_X1_isReadable_43
      rw [tLt (by omega), show w = rz + 1 by omega]
    · unfold f_X8_isRead_91
      rw [fLt (by omega), show w' = rz by omega]
  | m + 1, n + 1, n' + 1 => by
    intro w w' hm hw hw' hn hn' hl
    have hb := hB p (v + 1 + (r - (m + 1)))
    have e1 : f_X4_at p (vz + w) C = some (C, B p (v + 1 + (r - (m + 1)))) := ck_at h hp (by omega) (by omega)
    have e2 : f_X8_as pz (vz + 1 + w') X = some (X, B p (v + 1 + (r - (m + 1)))) := hx p hp _ (by omega) _ _ hpz (by omega)
    unfold f_X1_isReadable_43 f_X8_isRead_91
    rw [fLt (by omega), tLt (by omega), e1, e2, bd_some, bd_some]
    unfold f_X7_isLetter
    rw [mx_within (by constructor <;> omega) (by constructor <;> omega) (by constructor <;> omega), bd_some, cEq_b]
    by_cases c : 97 ≤ B p (v + 1 + (r - (m + 1))) ∧ B p (v + 1 + (r - (m + 1))) ≤ 122
    · rw [fLt (a := B p (v + 1 + (r - (m + 1)))) (b := 97) (by omega), fLt (a := 122) (by omega), bd_some, fEq (by omega), if_pos c]
      exact ck_letters h hx hB hp hv hpz hvz hrz m n n' (w + 1) (w' + 1) (by omega) (by omega) (by omega) (by omega) (by omega) (fun t ht => by
        by_cases q : t = r - (m + 1)
        · rw [q]; exact c
        · exact hl t (by omega))
    · refine Or.inr ⟨?_, by rw [if_neg c]⟩
      by_cases c1 : B p (v + 1 + (r - (m + 1))) < 97
      · rw [tLt (a := B p (v + 1 + (r - (m + 1)))) (b := 97) (by omega), bd_some, tEq (by omega)]
      · rw [fLt (a := B p (v + 1 + (r - (m + 1)))) (b := 97) (by omega), tLt (a := 122) (by omega), bd_some, tEq (by omega)]
/-- the end of a page is empty, both sides -/
theorem ck_flag0 (hx : RdX X B) (hp : p < 32) {K' : Int → Int → Mem → Option (Mem × Int)} {pz : Int} (hpz : pz = (p : Int)) : ∀ (m n : Nat) (w : Int), m ≤ 64 → w = ((64 - m : Nat) : Int) → m < n → f_X8_isRead_150 pz K' n 0 w X = K' 0 64 X
  | _, 0 => by intros; omega
  | 0, n + 1 => by
    intro w _ hw _
    unfold f_X8_isRead_150
    rw [fLt (by omega), show w = 64 by omega]
  | m + 1, n + 1 => by
    intro w _ hw _
    unfold f_X8_isRead_150
    rw [tLt (by omega), tEq (by omega)]
    exact ck_flag0 hx hp hpz m n (w + 1) (by omega) (by omega) (by omega)
theorem ck_zeros (h : RdC C B) (hx : RdX X B) (hB : ByOk B) (hp : p < 32) {pz : Int} (hpz : pz = (p : Int)) : ∀ (m n n' : Nat) (w : Int), m ≤ 64 → w = ((64 - m : Nat) : Int) → m < n → m < n' → ((∀ j, 64 - m ≤ j → j < 64 → B p j = 0) ∧ f_X1_isReadable_85 p (fun (v2_e85 : Int) (C_e85 : Mem) => (cLt (v2_e85) (64) (some (C_e85, 0)) (some (C_e85, 1)))) n w C = some (C, 1) ∧ f_X8_isRead_150 pz (fun (v5_e150 : Int) (v6_e150 : Int) (C_e150 : Mem) => (bo (v5_e150) (some (C_e150, v5_e150)))) n' 1 w X = some (X, 1)) ∨ (f_X1_isReadable_85 p (fun (v2_e85 : Int) (C_e85 : Mem) => (cLt (v2_e85) (64) (some (C_e85, 0)) (some (C_e85, 1)))) n w C = some (C, 0) ∧ f_X8_isRead_150 pz (fun (v5_e150 : Int) (v6_e150 : Int) (C_e150 : Mem) => (bo (v5_e150) (some (C_e150, v5_e150)))) n' 1 w X = some (X, 0))
  | _, 0, _ => by intros; omega
  | _, _, 0 => by intros; omega
  | 0, n + 1, n' + 1 => by
    intro w _ hw _ _
    refine Or.inl ⟨fun j _ _ => by omega, ?_, ?_⟩
    · unfold f_X1_isReadable_85
      rw [fLt (by omega)]
      rw [fLt (by omega)]
    · unfold f_X8_isRead_150
      rw [fLt (by omega)]
      rw [bo_t (by omega)]
  | m + 1, n + 1, n' + 1 => by
    intro w hm hw hn hn'
    have hb := hB p (64 - (m + 1))
    have e1 : f_X4_at p w C = some (C, B p (64 - (m + 1))) := ck_at h hp (by omega) (by omega)
    have e2 : f_X8_as pz w X = some (X, B p (64 - (m + 1))) := hx p hp _ (by omega) _ _ hpz (by omega)
    unfold f_X1_isReadable_85 f_X8_isRead_150
    rw [tLt (by omega), tLt (by omega), fEq (a := 1) (by omega), e1, e2, bd_some, bd_some]
    by_cases c : B p (64 - (m + 1)) = 0
    · rw [tEq (by omega), tEq (by omega)]
      rcases ck_zeros h hx hB hp hpz m n n' (w + 1) (by omega) (by omega) (by omega) (by omega) with ⟨q1, q2, q3⟩ | q
      · refine Or.inl ⟨fun j h1 h2 => ?_, q2, q3⟩
        by_cases q : j = 64 - (m + 1)
        · rw [q]; exact c
        · exact q1 j (by omega) h2
      · exact Or.inr q
    · rw [fEq (by omega), fEq (by omega), ck_flag0 hx hp hpz m n' (w + 1) (by omega) (by omega) (by omega)]
      refine Or.inr ⟨?_, ?_⟩
      · skip
        rw [tLt (by omega)]
      · skip
        rw [bo_t (by omega)]
def mkE (B : By) (p v r : Nat) : Ent := ((List.range r).map (fun t => B p (v + 1 + t)), B p (v + r + 1))
theorem mkE_len {v r : Nat} : (mkE B p v r).1.length = r := by unfold mkE; simp
theorem mkE_gd {v r t : Nat} (h : t < r) : (mkE B p v r).1.getD t 0 = B p (v + 1 + t) := by
  unfold mkE
  rw [List.getD_eq_getElem?_getD, List.getElem?_map, List.getElem?_range h]
  rfl
theorem mkE_ok (hB : ByOk B) {v r : Nat} (h1 : 1 ≤ r) (h8 : r ≤ 8) (hl : ∀ t, t < r → 97 ≤ B p (v + 1 + t) ∧ B p (v + 1 + t) ≤ 122) : EOk (mkE B p v r) := by
  refine ⟨by rw [mkE_len]; exact h1, by rw [mkE_len]; exact h8, ?_, hB p (v + r + 1)⟩
  intro x hx
  unfold mkE at hx
  obtain ⟨t, ht, e⟩ := List.mem_map.mp hx
  rw [← e]
  exact hl t (List.mem_range.mp ht)
theorem flat_ext {v r : Nat} (hv : v = 3 + szs a) (hr : B p v = (r : Int)) (h : ∀ j, j < szs a → (flat a).getD j 0 = B p (3 + j)) : ∀ j, j < szs (a ++ [mkE B p v r]) → (flat (a ++ [mkE B p v r])).getD j 0 = B p (3 + j) := by
  intro j hj
  rw [szs_app, szs_cons, szs_nil, mkE_len] at hj
  rw [flat_app]
  by_cases c : j < szs a
  · rw [gd_l (by rw [flat_len]; exact c)]
    exact h j c
  · rw [gd_r (by rw [flat_len]; omega), flat_len, flat_cons, flat_nil, List.append_nil]
    by_cases c0 : j = szs a
    · rw [c0, Nat.sub_self, e1_0, mkE_len, ← hv, hr]
    · by_cases c1 : j - szs a = 1 + r
      · have q := e1_t (mkE B p v r)
        rw [mkE_len] at q
        rw [c1, q]
        show B p (v + r + 1) = _
        rw [show v + r + 1 = 3 + j by omega]
      · have q := e1_l (mkE B p v r) (j := j - szs a - 1) (by rw [mkE_len]; omega)
        rw [show j - szs a = 1 + (j - szs a - 1) by omega, q, mkE_gd (by omega), show v + 1 + (j - szs a - 1) = 3 + j by omega]
def kRc (p : Nat) : Int → Int → Mem → Option (Mem × Int) := (fun (v1_e4 : Int) (v2_e4 : Int) (C_e4 : Mem) => (f_X1_isReadable_85 p (fun (v2_e85 : Int) (C_e85 : Mem) => (cLt (v2_e85) (64) (some (C_e85, 0)) (some (C_e85, 1)))) FU (v1_e4) C_e4))
def kRx (a1 : Int) : Int → Int → Mem → Option (Mem × Int) := (fun (v4_e37 : Int) (v5_e37 : Int) (C_e37 : Mem) => (f_X8_isRead_150 (a1) (fun (v5_e150 : Int) (v6_e150 : Int) (C_e150 : Mem) => (bo (v5_e150) (some (C_e150, v5_e150)))) FU (1) (v4_e37) C_e37))
theorem ck_rows (h : RdC C B) (hx : RdX X B) (hB : ByOk B) (hp : p < 32) {pz : Int} (hpz : pz = (p : Int)) : ∀ (m n n' : Nat) (a : List Ent) (v w : Int), EsOk a → szs a ≤ 61 → v = ((3 + szs a : Nat) : Int) → w = (a.length : Int) → (a.length : Int) + m = B p 1 → m < n → m < n' → (∀ j, j < szs a → (flat a).getD j 0 = B p (3 + j)) → (∃ es, Rb B p es ∧ f_X1_isReadable_4 p (kRc p) n v w C = some (C, 1) ∧ f_X8_isRead_37 pz (B p 1) (kRx pz) n' v w X = some (X, 1)) ∨ (f_X1_isReadable_4 p (kRc p) n v w C = some (C, 0) ∧ f_X8_isRead_37 pz (B p 1) (kRx pz) n' v w X = some (X, 0))
  | _, 0, _ => by intros; omega
  | _, _, 0 => by intros; omega
  | 0, n + 1, n' + 1 => by
    intro a v w ha hs hv hw hm _ _ hfl
    have hb := hB p 1
    have hf := FU_eq
    rw [f_X1_isReadable_4, f_X8_isRead_37]
    rw [ck_ent h hp, bd_some, fLt (by omega), fLt (by omega)]
    show (∃ es, Rb B p es ∧ f_X1_isReadable_85 p _ FU v C = _ ∧ f_X8_isRead_150 pz _ FU 1 v X = _) ∨ (f_X1_isReadable_85 p _ FU v C = _ ∧ f_X8_isRead_150 pz _ FU 1 v X = _)
    rcases ck_zeros h hx hB hp hpz (64 - (3 + szs a)) FU FU v (by omega) (by omega) (by omega) (by omega) with ⟨q1, q2, q3⟩ | q
    · refine Or.inl ⟨a, ⟨fun j hj => ?_, ha, hs⟩, q2, q3⟩
      by_cases c0 : j = 0
      · rw [c0, enc_0]
      · by_cases c1 : j = 1
        · rw [c1, enc_1]; omega
        · by_cases c2 : j = 2
          · rw [c2, enc_2]
          · rw [enc_g (by omega)]
            by_cases c3 : j - 3 < szs a
            · rw [hfl _ c3, show 3 + (j - 3) = j by omega]
            · rw [gd_out (by rw [flat_len]; omega)]
              exact q1 j (by omega) hj
    · exact Or.inr q
  | m + 1, n + 1, n' + 1 => by
    intro a v w ha hs hv hw hm hn hn' hfl
    have hb := hB p 1
    have hf := FU_eq
    obtain ⟨r, hr, ec, ex⟩ : ∃ r : Int, (0 ≤ r ∧ r ≤ 255 ∧ (v < 64 → r = B p (3 + szs a)) ∧ (64 ≤ v → r = 0)) ∧ f_X4_at p v C = some (C, r) ∧ (∀ j61 : Int → Mem → Option (Mem × Int), cLt v 64 (bd (f_X8_as pz v X) (fun C54 r54 => j61 r54 C54)) (j61 0 X) = j61 r X) := by
      by_cases c : v < 64
      · have hb2 := hB p (3 + szs a)
        refine ⟨B p (3 + szs a), ⟨hb2.1, hb2.2, fun _ => rfl, fun q => by omega⟩, ck_at h hp (by omega) hv, fun j61 => ?_⟩
        rw [tLt (by omega), hx p hp (3 + szs a) (by omega) _ _ hpz hv, bd_some]
      · refine ⟨0, ⟨by omega, by omega, fun q => by omega, fun _ => rfl⟩, ck_at0 hp (by omega) (by omega), fun j61 => ?_⟩
        rw [fLt (by omega)]
    rw [f_X1_isReadable_4, f_X8_isRead_37]
    rw [ck_ent h hp, bd_some, tLt (by omega), tLt (by omega), ec, bd_some, jn_eq]
    dsimp only
    rw [ex, sp_within (by constructor <;> omega) (by constructor <;> omega) (by constructor <;> omega), mx_within (by constructor <;> omega) (by constructor <;> omega) (by constructor <;> omega), bd_some, bd_some, cEq_b, cEq_b]
    by_cases c : 1 ≤ r ∧ r ≤ 8
    · rw [if_pos c, if_pos c]
      by_cases c2 : 64 < v + r + 2
      · rw [tLt (by omega), tLt (by omega)]
        exact Or.inr ⟨rfl, rfl⟩
      · rw [fLt (by omega), fLt (by omega)]
        have hr3 := hr.2.2.1 (by omega)
        have hrn : r = ((r.toNat : Nat) : Int) := by omega
        rcases ck_letters (u2 := w) (u3 := B p 1) (u5 := w) (K := (fun (v4_e43 : Int) (C_e43 : Mem) => (f_X1_isReadable_4 p (kRc p) n (v + (r + 2)) (w + 1) C_e43))) (K' := (fun (v7_e91 : Int) (C_e91 : Mem) => (f_X8_isRead_37 pz (B p 1) (kRx pz) n' (v + (r + 2)) (w + 1) C_e91))) h hx hB hp (v := 3 + szs a) (r := r.toNat) (by omega) hpz hv hrn r.toNat FU FU 1 0 (by omega) (by omega) (by omega) (by omega) (by omega) (fun t ht => by omega) with ⟨q1, q2, q3⟩ | q
        · rw [q2, q3]
          have hs2 : szs (a ++ [mkE B p (3 + szs a) r.toNat]) = szs a + (r.toNat + 2) := by rw [szs_app, szs_cons, szs_nil, mkE_len]
          exact ck_rows h hx hB hp hpz m n n' (a ++ [mkE B p (3 + szs a) r.toNat]) (v + (r + 2)) (w + 1) (EsOk_app.mpr ⟨ha, fun x hx => by rw [List.mem_singleton.mp hx]; exact mkE_ok hB (by omega) (by omega) q1⟩) (by omega) (by omega) (by simp; omega) (by simp; omega) (by omega) (by omega) (flat_ext rfl (by omega) hfl)
        · exact Or.inr q
    · rw [if_neg c, if_neg c]
      exact Or.inr ⟨rfl, rfl⟩
theorem ck_readable (h : RdC C B) (hx : RdX X B) (hB : ByOk B) (hp : p < 32) {pz : Int} (hpz : pz = (p : Int)) : (∃ es, Rb B p es ∧ f_X1_isReadable p C = some (C, 1) ∧ f_X8_isRead_37 pz (B p 1) (kRx pz) FU 3 0 X = some (X, 1)) ∨ (f_X1_isReadable p C = some (C, 0) ∧ f_X8_isRead_37 pz (B p 1) (kRx pz) FU 3 0 X = some (X, 0)) := by
  have hf := FU_eq
  have hb := hB p 1
  have hm : B p 1 = (((B p 1).toNat : Nat) : Int) := by omega
  exact ck_rows h hx hB hp hpz (B p 1).toNat FU FU [] 3 0 (fun _ q => absurd q List.not_mem_nil) (by rw [szs_nil]; omega) rfl rfl (by simp; omega) (by omega) (by omega) (fun j hj => by rw [szs_nil] at hj; omega)
end K1
end
section
/-! CHECK 2: the model compares two entries; keys that rise; keys within bounds. -/
section K2
variable {C X : Mem} {B : By} {p q : Nat} {es a b a' b' : List Ent} {e f : Ent} {z pz qz : Int}
theorem ca_len (h : RdX X B) (hp : p < 32) (hr : Rb B p (a ++ e :: b)) (hpz : pz = (p : Int)) (hz : z = ((3 + szs a : Nat) : Int)) : f_X8_as pz z X = some (X, (e.1.length : Int)) := by
  have h1 := hr.2.2
  rw [szs_app, szs_cons] at h1
  rw [h p hp (3 + szs a) (by omega) _ _ hpz hz, hr.1 _ (by omega), enc_len rfl]
theorem ca_let (h : RdX X B) (hp : p < 32) (hr : Rb B p (a ++ e :: b)) (hpz : pz = (p : Int)) {j : Nat} (hj : j < e.1.length) (hz : z = ((3 + szs a + 1 + j : Nat) : Int)) : f_X8_as pz z X = some (X, e.1.getD j 0) := by
  have h1 := hr.2.2
  rw [szs_app, szs_cons] at h1
  rw [h p hp (3 + szs a + 1 + j) (by omega) _ _ hpz hz, hr.1 _ (by omega), enc_let hj rfl]
theorem ca_tail (h : RdX X B) (hp : p < 32) (hr : Rb B p (a ++ e :: b)) (hpz : pz = (p : Int)) (hz : z = ((3 + szs a + 1 + e.1.length : Nat) : Int)) : f_X8_as pz z X = some (X, e.2) := by
  have h1 := hr.2.2
  rw [szs_app, szs_cons] at h1
  rw [h p hp (3 + szs a + 1 + e.1.length) (by omega) _ _ hpz hz, hr.1 _ (by omega), enc_tail rfl]
theorem ca_1 (h : RdX X B) (hp : p < 32) (hr : Rb B p es) (hpz : pz = (p : Int)) : f_X8_as pz 1 X = some (X, (es.length : Int)) := by
  rw [h p hp 1 (by omega) pz 1 hpz (by rfl), hr.1 1 (by omega), enc_1]
theorem Rb_len (hr : Rb B p es) : 3 * es.length ≤ 61 := by
  have := len_szs3 es hr.2.1
  have := hr.2.2
  omega
theorem lm_cmp {K : Int → Mem → Option (Mem × Int)} (h : RdX X B) (hp : p < 32) (hq : q < 32) (hr : Rb B p (a ++ e :: b)) (hr' : Rb B q (a' ++ f :: b')) {u1 u2 : Int} (h1 : u1 = ((64 * p + (3 + szs a) : Nat) : Int)) (h2 : u2 = ((64 * q + (3 + szs a') : Nat) : Int)) : ∀ (m n : Nat) (v : Int), v = ((8 - m : Nat) : Int) → m ≤ 8 → m < n → ∃ j : Nat, f_X8_compares_37 u1 u2 (u1 / 64) (u2 / 64) (e.1.length : Int) (f.1.length : Int) K n v X = K (j : Int) X ∧ cmp (e.1.drop (8 - m)) (f.1.drop (8 - m)) = cmp (e.1.drop j) (f.1.drop j) ∧ j ≤ 8 ∧ (e.1.length ≤ j ∨ f.1.length ≤ j ∨ e.1.getD j 0 ≠ f.1.getD j 0)
  | _, 0 => by intros; omega
  | 0, n + 1 => by
    intro v hv _ _
    have he := (EsOk_mid hr.2.1).2.1
    refine ⟨8, ?_, rfl, by omega, Or.inl he⟩
    unfold f_X8_compares_37
    rw [fLt (by omega), hv]
  | m + 1, n + 1 => by
    intro v hv hm hn
    have he := EsOk_mid hr.2.1
    have hf := EsOk_mid hr'.2.1
    have he2 := he.2.1
    have hf2 := hf.2.1
    have s1 := hr.2.2
    rw [szs_app, szs_cons] at s1
    have s2 := hr'.2.2
    rw [szs_app, szs_cons] at s2
    have hkl := LOk_gd (EOk_L he) (8 - (m + 1))
    have hel := LOk_gd (EOk_L hf) (8 - (m + 1))
    obtain ⟨j, q1, q2, q3, q4⟩ := lm_cmp (K := K) h hp hq hr hr' h1 h2 m n (v + 1) (by omega) (by omega) (by omega)
    have hstep := cmp_drop (LOk_pos (EOk_L he)) (LOk_pos (EOk_L hf)) (8 - (m + 1))
    rw [show 8 - (m + 1) + 1 = 8 - m by omega] at hstep
    unfold f_X8_compares_37
    by_cases c1 : 8 - (m + 1) < e.1.length
    · rw [tLt (by omega)]
      by_cases c2 : 8 - (m + 1) < f.1.length
      · rw [tLt (by omega), dv_t (by omega), ca_let h hp hr (by omega) c1 (by omega), bd_some, dv_t (by omega), ca_let h hq hr' (by omega) c2 (by omega), bd_some]
        by_cases c3 : e.1.getD (8 - (m + 1)) 0 = f.1.getD (8 - (m + 1)) 0
        · rw [tEq (by omega)]
          rw [if_pos c3] at hstep
          exact ⟨j, q1, by rw [hstep]; exact q2, q3, q4⟩
        · rw [fEq (by omega)]
          exact ⟨8 - (m + 1), by rw [hv], rfl, by omega, Or.inr (Or.inr c3)⟩
      · rw [fLt (by omega)]
        exact ⟨8 - (m + 1), by rw [hv], rfl, by omega, Or.inr (Or.inl (by omega))⟩
    · rw [fLt (by omega)]
      exact ⟨8 - (m + 1), by rw [hv], rfl, by omega, Or.inl (by omega)⟩
theorem ca_cmp (h : RdX X B) (hp : p < 32) (hq : q < 32) (hr : Rb B p (a ++ e :: b)) (hr' : Rb B q (a' ++ f :: b')) {u1 u2 : Int} (h1 : u1 = ((64 * p + (3 + szs a) : Nat) : Int)) (h2 : u2 = ((64 * q + (3 + szs a') : Nat) : Int)) : ∃ r, f_X8_compares u1 u2 X = some (X, r) ∧ Sg r (cmp e.1 f.1) := by
  have hfu := FU_eq
  have he := EsOk_mid hr.2.1
  have hf := EsOk_mid hr'.2.1
  have he2 := he.2.1
  have hf2 := hf.2.1
  have s1 := hr.2.2
  rw [szs_app, szs_cons] at s1
  have s2 := hr'.2.2
  rw [szs_app, szs_cons] at s2
  unfold f_X8_compares
  rw [dv_t (by omega), dv_t (by omega), dv_t (by omega), ca_len h hp hr (by omega) (by omega), bd_some, dv_t (by omega), ca_len h hq hr' (by omega) (by omega), bd_some]
  obtain ⟨j, q1, q2, q3, q4⟩ := lm_cmp (K := (fun (v7_e37 : Int) (C_e37 : Mem) => (cLt (v7_e37) (e.1.length : Int) (cLt (v7_e37) (f.1.length : Int) (dv (u1) (bd (f_X8_as (u1 / 64) (((u1 % 64) + 1) + v7_e37) C_e37) (fun C114 r114 => (dv (u2) (bd (f_X8_as (u2 / 64) (((u2 % 64) + 1) + v7_e37) C114) (fun C129 r129 => (some (C129, r114 - r129)))))))) (some (C_e37, (e.1.length : Int) - (f.1.length : Int)))) (some (C_e37, (e.1.length : Int) - (f.1.length : Int)))))) h hp hq hr hr' h1 h2 8 FU 0 rfl (by omega) (by omega)
  rw [q1]
  rw [Nat.sub_self, List.drop_zero, List.drop_zero] at q2
  have hkl := LOk_gd (EOk_L he) j
  have hel := LOk_gd (EOk_L hf) j
  have hstep := cmp_drop (LOk_pos (EOk_L he)) (LOk_pos (EOk_L hf)) j
  by_cases c1 : j < e.1.length
  · rw [tLt (by omega)]
    by_cases c2 : j < f.1.length
    · rw [tLt (by omega), dv_t (by omega), ca_let h hp hr (by omega) c1 (by omega), bd_some, dv_t (by omega), ca_let h hq hr' (by omega) c2 (by omega), bd_some]
      refine ⟨_, rfl, by omega, by omega, ?_⟩
      have c3 : e.1.getD j 0 ≠ f.1.getD j 0 := by rcases q4 with q | q | q <;> omega
      rw [q2, hstep, if_neg c3]
      by_cases c4 : e.1.getD j 0 < f.1.getD j 0
      · rw [if_pos c4]; exact Or.inl ⟨by omega, rfl⟩
      · rw [if_neg c4]; exact Or.inr (Or.inr ⟨by omega, rfl⟩)
    · rw [fLt (by omega)]
      refine ⟨_, rfl, by omega, by omega, ?_⟩
      rw [q2, List.drop_eq_nil_of_le (show f.1.length ≤ j by omega), List.drop_eq_getElem_cons c1]
      exact Or.inr (Or.inr ⟨by omega, rfl⟩)
  · rw [fLt (by omega)]
    refine ⟨_, rfl, by omega, by omega, ?_⟩
    by_cases c2 : j < f.1.length
    · rw [q2, List.drop_eq_nil_of_le (show e.1.length ≤ j by omega), List.drop_eq_getElem_cons c2]
      exact Or.inl ⟨by omega, rfl⟩
    · have hq2 : cmp e.1 f.1 = 0 := by
        rw [q2, List.drop_eq_nil_of_le (show e.1.length ≤ j by omega), List.drop_eq_nil_of_le (show f.1.length ≤ j by omega)]; rfl
      have hq3 := (cmp_eq e.1 f.1).mp hq2
      rw [hq2, hq3]
      exact Or.inr (Or.inl ⟨by omega, rfl⟩)
/-- neighbours rise -/
def Up : List Ent → Prop
  | [] => True
  | e :: r => (∀ f r', r = f :: r' → cmp e.1 f.1 < 0) ∧ Up r
/-- only the checker's key changes -/
def F3 (C C' : Mem) : Prop := ∀ x y, x ≠ 16 → x ≠ 17 → C' x y = C x y
theorem F3_refl : F3 C C := fun _ _ _ _ => rfl
theorem F3_tr {C1 C2 : Mem} (h1 : F3 C C1) (h2 : F3 C1 C2) : F3 C C2 := fun x y a b => by rw [h2 x y a b, h1 x y a b]
theorem F3_stK {w : List Int} : F3 C (stK C 3 w) := fun x y a b => stK_o (by omega) (by omega)
theorem F3_Rd {C' : Mem} (h : RdC C B) (hf : F3 C C') : RdC C' B := fun p hp j hj => by rw [hf _ _ (by omega) (by omega)]; exact h p hp j hj
theorem cx_rises (hB : ByOk B) (hp : p < 32) (hr : Rb B p es) : ∀ (b a : List Ent) (e : Ent) (n : Nat) (v : Int) (C : Mem), RdC C B → es = a ++ e :: b → v = (a.length : Int) + 1 → b.length < n → ∃ C', F3 C C' ∧ ((Up (e :: b) ∧ f_X1_rises_2 p (fun (v2_e2 : Int) (C_e2 : Mem) => (some (C_e2, 1))) n v C = some (C', 1)) ∨ (¬ Up (e :: b) ∧ f_X1_rises_2 p (fun (v2_e2 : Int) (C_e2 : Mem) => (some (C_e2, 1))) n v C = some (C', 0)))
  | _, _, _, 0 => by intros; omega
  | [], a, e, n + 1 => by
    intro v C h h1 hv hn
    have hl := Rb_len hr
    have h9 : es.length = a.length + 1 := by rw [h1]; simp
    have hpg := ck_pg h hB hp hr
    refine ⟨C, F3_refl, Or.inl ⟨⟨fun f r' q => by simp at q, trivial⟩, ?_⟩⟩
    unfold f_X1_rises_2
    rw [sp_entries hpg, bd_some, fLt (by omega)]
  | f :: b, a, e, n + 1 => by
    intro v C h h1 hv hn
    have hl := Rb_len hr
    have h9 : es.length = a.length + (b.length + 2) := by rw [h1]; simp
    have hpg := ck_pg h hB hp hr
    have hpg1 : PgC C p (B p 0) (B p 2) (a ++ e :: (f :: b)) := by rw [← h1]; exact hpg
    have h1' : es = (a ++ [e]) ++ f :: b := by rw [h1]; simp
    have h2 : RdC (stK C 3 e.1) B := F3_Rd h F3_stK
    have hpg2 : PgC (stK C 3 e.1) p (B p 0) (B p 2) ((a ++ [e]) ++ f :: b) := by rw [← h1']; exact ck_pg h2 hB hp hr
    have hk : KyC (stK C 3 e.1) 3 e.1 := stK_KC (EOk_L (EsOk_mid hpg1.2.1))
    have hc := cmp_rng f.1 e.1
    have ha := cmp_anti e.1 f.1
    obtain ⟨C', hf, ih⟩ := cx_rises hB hp hr b (a ++ [e]) f n (v + 1) (stK C 3 e.1) h2 h1' (by simp; omega) (by simp at hn; omega)
    unfold f_X1_rises_2
    rw [sp_entries hpg, bd_some, tLt (by omega), sp_readKey (by omega) hpg1 (by omega), bd_some, sp_compare hpg2 hk (by simp; omega), bd_some]
    by_cases c : cmp e.1 f.1 < 0
    · rw [tLt (by omega)]
      refine ⟨C', F3_tr F3_stK hf, ?_⟩
      rcases ih with ⟨u, i⟩ | ⟨u, i⟩
      · exact Or.inl ⟨⟨fun g r' q => by injection q with q1 q2; rw [← q1]; exact c, u⟩, i⟩
      · exact Or.inr ⟨fun q => u q.2, i⟩
    · rw [fLt (by omega)]
      exact ⟨_, F3_stK, Or.inr ⟨fun q => c (q.1 f b rfl), rfl⟩⟩
theorem ck_rises (h : RdC C B) (hB : ByOk B) (hp : p < 32) (hr : Rb B p es) : ∃ C', F3 C C' ∧ ((Up es ∧ f_X1_rises p C = some (C', 1)) ∨ (¬ Up es ∧ f_X1_rises p C = some (C', 0))) := by
  have hf := FU_eq
  have hl := Rb_len hr
  cases es with
  | nil =>
    refine ⟨C, F3_refl, Or.inl ⟨trivial, ?_⟩⟩
    have hpg := ck_pg h hB hp hr
    unfold f_X1_rises
    rw [show FU = 4999 + 1 from rfl, f_X1_rises_2, sp_entries hpg, bd_some, fLt (by simp)]
  | cons e b =>
    exact cx_rises hB hp hr b [] e FU 1 C h rfl rfl (by simp at hl; omega)
theorem cm_flag0 (h : RdX X B) (hp : p < 32) (hr : Rb B p es) (hpz : pz = (p : Int)) {K : Int → Int → Int → Mem → Option (Mem × Int)} : ∀ (b a : List Ent) (n : Nat) (v3 v4 : Int), es = a ++ b → v3 = ((3 + szs a : Nat) : Int) → v4 = (a.length : Int) → b.length < n → ∃ z1 z2, f_X8_rises_7 pz K n 0 v3 v4 X = K 0 z1 z2 X
  | _, _, 0 => by intros; omega
  | [], a, n + 1 => by
    intro v3 v4 h1 h3 h4 _
    have hl := Rb_len hr
    have h9 : es.length = a.length := by rw [h1]; simp
    unfold f_X8_rises_7
    rw [ca_1 h hp hr hpz, bd_some, fLt (by omega)]
    exact ⟨_, _, rfl⟩
  | e :: b, a, n + 1 => by
    intro v3 v4 h1 h3 h4 hn
    have hl := Rb_len hr
    have h9 : es.length = a.length + (b.length + 1) := by rw [h1]; simp
    have hr1 : Rb B p (a ++ e :: b) := by rw [← h1]; exact hr
    unfold f_X8_rises_7
    rw [ca_1 h hp hr hpz, bd_some]
    by_cases c : v4 + 1 < (es.length : Int)
    · rw [tLt (by omega), ca_len h hp hr1 hpz h3, bd_some, tEq (by omega)]
      exact cm_flag0 h hp hr hpz b (a ++ [e]) n _ _ (by rw [h1]; simp) (by rw [szs_app, szs_cons, szs_nil]; omega) (by simp; omega) (by simp at hn; omega)
    · rw [fLt (by omega)]
      exact ⟨_, _, rfl⟩
theorem cm_rises (h : RdX X B) (hp : p < 32) (hr : Rb B p es) (hpz : pz = (p : Int)) {K : Int → Int → Int → Mem → Option (Mem × Int)} : ∀ (b a : List Ent) (e : Ent) (n : Nat) (v3 v4 : Int), es = a ++ e :: b → v3 = ((3 + szs a : Nat) : Int) → v4 = (a.length : Int) → b.length + 1 < n → ∃ z1 z2, (Up (e :: b) ∧ f_X8_rises_7 pz K n 1 v3 v4 X = K 1 z1 z2 X) ∨ (¬ Up (e :: b) ∧ f_X8_rises_7 pz K n 1 v3 v4 X = K 0 z1 z2 X)
  | _, _, _, 0 => by intros; omega
  | [], a, e, n + 1 => by
    intro v3 v4 h1 h3 h4 _
    have hl := Rb_len hr
    have h9 : es.length = a.length + 1 := by rw [h1]; simp
    unfold f_X8_rises_7
    rw [ca_1 h hp hr hpz, bd_some, fLt (by omega)]
    exact ⟨_, _, Or.inl ⟨⟨fun f r' q => by simp at q, trivial⟩, rfl⟩⟩
  | f :: b, a, e, n + 1 => by
    intro v3 v4 h1 h3 h4 hn
    have hl := Rb_len hr
    have h9 : es.length = a.length + (b.length + 2) := by rw [h1]; simp
    have h1' : es = (a ++ [e]) ++ f :: b := by rw [h1]; simp
    have hr1 : Rb B p (a ++ e :: (f :: b)) := by rw [← h1]; exact hr
    have hr2 : Rb B p ((a ++ [e]) ++ f :: b) := by rw [← h1']; exact hr
    have hs : szs (a ++ [e]) = szs a + (e.1.length + 2) := by rw [szs_app, szs_cons, szs_nil]
    obtain ⟨r, r1, r2, r3, r4⟩ := ca_cmp h hp hp hr1 hr2 (u1 := 64 * pz + v3) (u2 := 64 * pz + (v3 + (e.1.length : Int) + 2)) (by omega) (by omega)
    unfold f_X8_rises_7
    rw [ca_1 h hp hr hpz, bd_some, tLt (by omega), ca_len h hp hr1 hpz h3, bd_some, fEq (by omega), r1, bd_some]
    by_cases c : cmp e.1 f.1 < 0
    · rw [tLt (by omega)]
      obtain ⟨z1, z2, ih⟩ := cm_rises h hp hr hpz (K := K) b (a ++ [e]) f n (v3 + (e.1.length : Int) + 2) (v4 + 1) h1' (by omega) (by simp; omega) (by simp at hn; omega)
      refine ⟨z1, z2, ?_⟩
      rcases ih with ⟨u, i⟩ | ⟨u, i⟩
      · exact Or.inl ⟨⟨fun g r' q => by injection q with q1 q2; rw [← q1]; exact c, u⟩, i⟩
      · exact Or.inr ⟨fun q => u q.2, i⟩
    · rw [fLt (by omega)]
      obtain ⟨z1, z2, ih⟩ := cm_flag0 h hp hr hpz (K := K) (f :: b) (a ++ [e]) n (v3 + (e.1.length : Int) + 2) (v4 + 1) h1' (by omega) (by simp; omega) (by simp at hn ⊢; omega)
      exact ⟨z1, z2, Or.inr ⟨fun q => c (q.1 f b rfl), ih⟩⟩
theorem ca_rises (h : RdX X B) (hp : p < 32) (hr : Rb B p es) (hpz : pz = (p : Int)) : (Up es ∧ f_X8_rises pz X = some (X, 1)) ∨ (¬ Up es ∧ f_X8_rises pz X = some (X, 0)) := by
  have hf := FU_eq
  have hl := Rb_len hr
  unfold f_X8_rises
  cases es with
  | nil =>
    refine Or.inl ⟨trivial, ?_⟩
    rw [show FU = 4999 + 1 from rfl, f_X8_rises_7, ca_1 h hp hr hpz, bd_some, fLt (by simp), bo_t (by omega)]
  | cons e b =>
    obtain ⟨z1, z2, ih⟩ := cm_rises h hp hr hpz (K := (fun (v2_e7 : Int) (v3_e7 : Int) (v4_e7 : Int) (C_e7 : Mem) => (bo (v2_e7) (some (C_e7, v2_e7))))) b [] e FU 3 0 rfl rfl rfl (by simp at hl; omega)
    rcases ih with ⟨u, i⟩ | ⟨u, i⟩
    · refine Or.inl ⟨u, ?_⟩
      rw [i]
      rw [bo_t (by omega)]
    · refine Or.inr ⟨u, ?_⟩
      rw [i]
      rw [bo_t (by omega)]
end K2
end
section
/-! CHECK 3: keys within bounds; children. -/
def Bnd (B : By) (o : Option (List Int)) (c m : Int) : Prop := (o = none ∧ c = -1 ∧ m = -9) ∨ ∃ (q : Nat) (a : List Ent) (e : Ent) (b : List Ent), o = some e.1 ∧ q < 32 ∧ Rb B q (a ++ e :: b) ∧ c = ((64 * q + a.length : Nat) : Int) ∧ m = ((64 * q + (3 + szs a) : Nat) : Int)
def InB (lo hi : Option (List Int)) (e : Ent) : Prop := (∀ w, lo = some w → ¬ cmp e.1 w < 0) ∧ (∀ w, hi = some w → cmp e.1 w < 0)
section K3
variable {C X : Mem} {B : By} {p q : Nat} {es a b r0 r1 : List Ent} {e f e0 eL : Ent} {z pz cl ch ml mh : Int} {lo hi : Option (List Int)}
theorem Up_all : ∀ (r : List Ent) (e : Ent), Up (e :: r) → ∀ f ∈ r, cmp e.1 f.1 < 0
  | [], _ => by intro _ f hf; exact absurd hf List.not_mem_nil
  | g :: r, e => by
    intro h f hf
    have h1 := h.1 g r rfl
    rcases List.mem_cons.mp hf with q | q
    · rw [q]; exact h1
    · exact cmp_trans _ _ _ h1 (Up_all r g h.2 f q)
theorem Up_last : ∀ (r : List Ent) (e : Ent), Up (r ++ [e]) → ∀ f ∈ r, cmp f.1 e.1 < 0
  | [], _ => by intro _ f hf; exact absurd hf List.not_mem_nil
  | g :: r, e => by
    intro h f hf
    rcases List.mem_cons.mp hf with q | q
    · rw [q]; exact Up_all (r ++ [e]) g h e (by simp)
    · exact Up_last r e h.2 f q
theorem InB_all (hu : Up es) (h0 : es = e0 :: r0) (h1 : es = r1 ++ [eL]) : ((∀ w, lo = some w → ¬ cmp e0.1 w < 0) ∧ (∀ w, hi = some w → cmp eL.1 w < 0)) ↔ ∀ e ∈ es, InB lo hi e := by
  constructor
  · rintro ⟨g1, g2⟩ e he
    constructor
    · intro w hw hc
      rw [h0] at he hu
      rcases List.mem_cons.mp he with q | q
      · rw [q] at hc; exact g1 w hw hc
      · exact g1 w hw (cmp_trans _ _ _ (Up_all r0 e0 hu e q) hc)
    · intro w hw
      rw [h1] at he hu
      rcases List.mem_append.mp he with q | q
      · exact cmp_trans _ _ _ (Up_last r1 eL hu e q) (g2 w hw)
      · rw [List.mem_singleton.mp q]; exact g2 w hw
  · intro h
    exact ⟨fun w hw => (h e0 (by rw [h0]; simp)).1 w hw, fun w hw => (h eL (by rw [h1]; simp)).2 w hw⟩
theorem ck_between (h : RdC C B) (hB : ByOk B) (hp : p < 32) (hr : Rb B p es) (h0 : es = e0 :: r0) (h1 : es = r1 ++ [eL]) (hlo : Bnd B lo cl ml) (hhi : Bnd B hi ch mh) : ∃ C', F3 C C' ∧ ((((∀ w, lo = some w → ¬ cmp e0.1 w < 0) ∧ (∀ w, hi = some w → cmp eL.1 w < 0)) ∧ f_X1_isBetween p cl ch C = some (C', 1)) ∨ (¬ ((∀ w, lo = some w → ¬ cmp e0.1 w < 0) ∧ (∀ w, hi = some w → cmp eL.1 w < 0)) ∧ f_X1_isBetween p cl ch C = some (C', 0))) := by
  have hl := Rb_len hr
  have hl1 : es.length = r1.length + 1 := by rw [h1]; simp
  have hj : ∀ C1, RdC C1 B → ∃ C', F3 C1 C' ∧ (((∀ w, hi = some w → cmp eL.1 w < 0) ∧ (cEq (ch) (-1) (some (C1, (1 : Int))) (dv (ch) (bd (f_X6_pageOf (ch / 64) C1) (fun C54 r54 => (dv (ch) (bd (f_X4_readKey r54 (ch % 64) 3 C54) (fun C65 _ => (bd (f_X4_entries p C65) (fun C70 r70 => (bd (f_X4_compare p (r70 - 1) 3 C70) (fun C79 r79 => (cLt (r79) 0 (some (C79, 1)) (some (C79, 0)))))))))))))) = some (C', 1)) ∨ (¬ (∀ w, hi = some w → cmp eL.1 w < 0) ∧ (cEq (ch) (-1) (some (C1, (1 : Int))) (dv (ch) (bd (f_X6_pageOf (ch / 64) C1) (fun C54 r54 => (dv (ch) (bd (f_X4_readKey r54 (ch % 64) 3 C54) (fun C65 _ => (bd (f_X4_entries p C65) (fun C70 r70 => (bd (f_X4_compare p (r70 - 1) 3 C70) (fun C79 r79 => (cLt (r79) 0 (some (C79, 1)) (some (C79, 0)))))))))))))) = some (C', 0))) := by
    intro C1 hC
    rcases hhi with ⟨g1, g2, _⟩ | ⟨q, a, e, b, g1, g2, g3, g4, _⟩
    · refine ⟨C1, F3_refl, Or.inl ⟨fun w hw => by rw [g1] at hw; exact absurd hw (by simp), ?_⟩⟩
      rw [tEq (by omega)]
    · have gl := Rb_len g3
      have gl2 : (a ++ e :: b).length = a.length + (b.length + 1) := by simp
      have hC2 : RdC (stK C1 3 e.1) B := F3_Rd hC F3_stK
      have pg := ck_pg hC2 hB hp hr
      have pg1 : PgC (stK C1 3 e.1) p (B p 0) (B p 2) (r1 ++ eL :: []) := by rw [← h1]; exact pg
      have hc := cmp_rng eL.1 e.1
      refine ⟨stK C1 3 e.1, F3_stK, ?_⟩
      rw [fEq (by omega), dv_t (by omega), sp_pageOf (i := q) (by omega) g2, bd_some, dv_t (by omega), sp_readKey (by omega) (ck_pg hC hB g2 g3) (by omega), bd_some, sp_entries pg, bd_some, sp_compare pg1 (stK_KC (EOk_L (EsOk_mid g3.2.1))) (by omega), bd_some]
      by_cases c : cmp eL.1 e.1 < 0
      · rw [tLt (by omega)]
        exact Or.inl ⟨fun w hw => by rw [g1] at hw; injection hw with hw; rw [← hw]; exact c, rfl⟩
      · rw [fLt (by omega)]
        exact Or.inr ⟨fun k => c (k e.1 g1), rfl⟩
  unfold f_X1_isBetween
  simp only [jn_eq]
  rcases hlo with ⟨g1, g2, _⟩ | ⟨q, a, e, b, g1, g2, g3, g4, _⟩
  · rw [tEq (a := cl) (by omega)]
    obtain ⟨C', f1, f2⟩ := hj C h
    refine ⟨C', f1, ?_⟩
    rcases f2 with ⟨k, f2⟩ | ⟨k, f2⟩
    · exact Or.inl ⟨⟨fun w hw => by rw [g1] at hw; exact absurd hw (by simp), k⟩, f2⟩
    · exact Or.inr ⟨fun k' => k k'.2, f2⟩
  · have gl := Rb_len g3
    have gl2 : (a ++ e :: b).length = a.length + (b.length + 1) := by simp
    have hC2 : RdC (stK C 3 e.1) B := F3_Rd h F3_stK
    have pg := ck_pg hC2 hB hp hr
    have pg1 : PgC (stK C 3 e.1) p (B p 0) (B p 2) ([] ++ e0 :: r0) := by rw [List.nil_append, ← h0]; exact pg
    have hc := cmp_rng e0.1 e.1
    rw [fEq (a := cl) (by omega), dv_t (a := cl) (by omega), sp_pageOf (i := q) (z := cl / 64) (by omega) g2, bd_some, dv_t (a := cl) (by omega), sp_readKey (by omega) (ck_pg h hB g2 g3) (z := cl % 64) (by omega), bd_some, sp_compare pg1 (stK_KC (EOk_L (EsOk_mid g3.2.1))) (by rfl), bd_some]
    by_cases c : cmp e0.1 e.1 < 0
    · rw [tLt (a := cmp e0.1 e.1) (by omega)]
      exact ⟨_, F3_stK, Or.inr ⟨fun k => k.1 e.1 g1 c, rfl⟩⟩
    · rw [fLt (a := cmp e0.1 e.1) (by omega)]
      obtain ⟨C', f1, f2⟩ := hj _ hC2
      refine ⟨C', F3_tr F3_stK f1, ?_⟩
      rcases f2 with ⟨k, f2⟩ | ⟨k, f2⟩
      · exact Or.inl ⟨⟨fun w hw => by rw [g1] at hw; injection hw with hw; rw [← hw]; exact c, k⟩, f2⟩
      · exact Or.inr ⟨fun k' => k k'.2, f2⟩
theorem cm_within (h : RdX X B) (hp : p < 32) (hr : Rb B p es) (hpz : pz = (p : Int)) (hlo : Bnd B lo cl ml) (hhi : Bnd B hi ch mh) {K : Int → Int → Int → Mem → Option (Mem × Int)} : ∀ (b a : List Ent) (n : Nat) (v4 v5 v6 : Int), es = a ++ b → v5 = ((3 + szs a : Nat) : Int) → v6 = (a.length : Int) → v4 = 0 ∨ v4 = 1 → b.length < n → ∃ z1 z2, ((v4 = 1 ∧ ∀ e ∈ b, InB lo hi e) ∧ f_X8_isWithin_9 pz ml mh K n v4 v5 v6 X = K 1 z1 z2 X) ∨ (¬ (v4 = 1 ∧ ∀ e ∈ b, InB lo hi e) ∧ f_X8_isWithin_9 pz ml mh K n v4 v5 v6 X = K 0 z1 z2 X)
  | _, _, 0 => by intros; omega
  | [], a, n + 1 => by
    intro v4 v5 v6 h1 h3 h4 h5 _
    have hl := Rb_len hr
    have h9 : es.length = a.length := by rw [h1]; simp
    unfold f_X8_isWithin_9
    rw [ca_1 h hp hr hpz, bd_some, fLt (by omega)]
    rcases h5 with h5 | h5
    · exact ⟨_, _, Or.inr ⟨fun q => by omega, by rw [h5]⟩⟩
    · exact ⟨_, _, Or.inl ⟨⟨h5, fun e he => absurd he List.not_mem_nil⟩, by rw [h5]⟩⟩
  | e :: b, a, n + 1 => by
    intro v4 v5 v6 h1 h3 h4 h5 hn
    have hl := Rb_len hr
    have h9 : es.length = a.length + (b.length + 1) := by rw [h1]; simp
    have hr1 : Rb B p (a ++ e :: b) := by rw [← h1]; exact hr
    have ih : ∀ s : Int, s = 0 ∨ s = 1 → ∃ z1 z2, ((s = 1 ∧ ∀ e ∈ b, InB lo hi e) ∧ bd (f_X8_as pz v5 X) (fun C79 r79 => f_X8_isWithin_9 pz ml mh K n s (v5 + (r79 + 2)) (v6 + 1) C79) = K 1 z1 z2 X) ∨ (¬ (s = 1 ∧ ∀ e ∈ b, InB lo hi e) ∧ bd (f_X8_as pz v5 X) (fun C79 r79 => f_X8_isWithin_9 pz ml mh K n s (v5 + (r79 + 2)) (v6 + 1) C79) = K 0 z1 z2 X) := by
      intro s hs
      rw [ca_len h hp hr1 hpz h3, bd_some]
      exact cm_within h hp hr hpz hlo hhi b (a ++ [e]) n s (v5 + ((e.1.length : Int) + 2)) (v6 + 1) (by rw [h1]; simp) (by rw [szs_app, szs_cons, szs_nil]; omega) (by simp; omega) hs (by simp at hn; omega)
    have ih0 : ¬ (v4 = 1 ∧ InB lo hi e) → ∃ z1 z2, ((v4 = 1 ∧ ∀ e' ∈ e :: b, InB lo hi e') ∧ bd (f_X8_as pz v5 X) (fun C79 r79 => f_X8_isWithin_9 pz ml mh K n 0 (v5 + (r79 + 2)) (v6 + 1) C79) = K 1 z1 z2 X) ∨ (¬ (v4 = 1 ∧ ∀ e' ∈ e :: b, InB lo hi e') ∧ bd (f_X8_as pz v5 X) (fun C79 r79 => f_X8_isWithin_9 pz ml mh K n 0 (v5 + (r79 + 2)) (v6 + 1) C79) = K 0 z1 z2 X) := by
      intro hne
      obtain ⟨z1, z2, q⟩ := ih 0 (Or.inl rfl)
      rcases q with ⟨q, _⟩ | ⟨_, q⟩
      · exact absurd q.1 (by omega)
      · exact ⟨z1, z2, Or.inr ⟨fun k => hne ⟨k.1, k.2 e (by simp)⟩, q⟩⟩
    have ih1 : v4 = 1 → InB lo hi e → ∃ z1 z2, ((v4 = 1 ∧ ∀ e' ∈ e :: b, InB lo hi e') ∧ bd (f_X8_as pz v5 X) (fun C79 r79 => f_X8_isWithin_9 pz ml mh K n 1 (v5 + (r79 + 2)) (v6 + 1) C79) = K 1 z1 z2 X) ∨ (¬ (v4 = 1 ∧ ∀ e' ∈ e :: b, InB lo hi e') ∧ bd (f_X8_as pz v5 X) (fun C79 r79 => f_X8_isWithin_9 pz ml mh K n 1 (v5 + (r79 + 2)) (v6 + 1) C79) = K 0 z1 z2 X) := by
      intro hv hin
      obtain ⟨z1, z2, q⟩ := ih 1 (Or.inr rfl)
      rcases q with ⟨q1, q⟩ | ⟨q1, q⟩
      · exact ⟨z1, z2, Or.inl ⟨⟨hv, fun e' he' => by
          rcases List.mem_cons.mp he' with k | k
          · rw [k]; exact hin
          · exact q1.2 e' k⟩, q⟩⟩
      · exact ⟨z1, z2, Or.inr ⟨fun k => q1 ⟨rfl, fun e' he' => k.2 e' (List.mem_cons_of_mem _ he')⟩, q⟩⟩
    unfold f_X8_isWithin_9
    rw [ca_1 h hp hr hpz, bd_some, tLt (by omega)]
    simp only [jn_eq]
    rcases h5 with h5 | h5
    · rw [tEq (a := v4) (by omega)]
      exact ih0 (fun q => by omega)
    · rw [fEq (a := v4) (by omega)]
      have hhi2 : (∀ w, lo = some w → ¬ cmp e.1 w < 0) → ∃ z1 z2, ((v4 = 1 ∧ ∀ e' ∈ e :: b, InB lo hi e') ∧ (cEq mh (-9) (bd (f_X8_as pz v5 X) (fun C79 r79 => f_X8_isWithin_9 pz ml mh K n 1 (v5 + (r79 + 2)) (v6 + 1) C79)) (bd (f_X8_compares (64 * pz + v5) mh X) (fun C60 r60 => cLt r60 0 (bd (f_X8_as pz v5 C60) (fun C79 r79 => f_X8_isWithin_9 pz ml mh K n 1 (v5 + (r79 + 2)) (v6 + 1) C79)) (bd (f_X8_as pz v5 C60) (fun C79 r79 => f_X8_isWithin_9 pz ml mh K n 0 (v5 + (r79 + 2)) (v6 + 1) C79))))) = K 1 z1 z2 X) ∨ (¬ (v4 = 1 ∧ ∀ e' ∈ e :: b, InB lo hi e') ∧ (cEq mh (-9) (bd (f_X8_as pz v5 X) (fun C79 r79 => f_X8_isWithin_9 pz ml mh K n 1 (v5 + (r79 + 2)) (v6 + 1) C79)) (bd (f_X8_compares (64 * pz + v5) mh X) (fun C60 r60 => cLt r60 0 (bd (f_X8_as pz v5 C60) (fun C79 r79 => f_X8_isWithin_9 pz ml mh K n 1 (v5 + (r79 + 2)) (v6 + 1) C79)) (bd (f_X8_as pz v5 C60) (fun C79 r79 => f_X8_isWithin_9 pz ml mh K n 0 (v5 + (r79 + 2)) (v6 + 1) C79))))) = K 0 z1 z2 X) := by
        intro hlo1
        rcases hhi with ⟨g1, _, g2⟩ | ⟨q, a2, e2, b2, g1, g2, g3, _, g4⟩
        · rw [tEq (a := mh) (by omega)]
          exact ih1 h5 ⟨hlo1, fun w hw => by rw [g1] at hw; exact absurd hw (by simp)⟩
        · obtain ⟨r, r1, r2, r3, r4⟩ := ca_cmp h hp g2 hr1 g3 (u1 := 64 * pz + v5) (by omega) g4
          have gz := g3.2.2
          rw [szs_app] at gz
          rw [fEq (a := mh) (by omega), r1, bd_some]
          by_cases c : cmp e.1 e2.1 < 0
          · rw [tLt (a := r) (by omega)]
            exact ih1 h5 ⟨hlo1, fun w hw => by rw [g1] at hw; injection hw with hw; rw [← hw]; exact c⟩
          · rw [fLt (a := r) (by omega)]
            exact ih0 (fun k => c (k.2.2 e2.1 g1))
      rcases hlo with ⟨g1, _, g2⟩ | ⟨q, a2, e2, b2, g1, g2, g3, _, g4⟩
      · rw [tEq (a := ml) (by omega)]
        exact hhi2 (fun w hw => by rw [g1] at hw; exact absurd hw (by simp))
      · obtain ⟨r, r1, r2, r3, r4⟩ := ca_cmp h hp g2 hr1 g3 (u1 := 64 * pz + v5) (by omega) g4
        have gz := g3.2.2
        rw [szs_app] at gz
        rw [fEq (a := ml) (by omega), r1, bd_some]
        by_cases c : cmp e.1 e2.1 < 0
        · rw [tLt (a := r) (by omega)]
          exact ih0 (fun k => k.2.1 e2.1 g1 c)
        · rw [fLt (a := r) (by omega)]
          exact hhi2 (fun w hw => by rw [g1] at hw; injection hw with hw; rw [← hw]; exact c)
theorem ca_within (h : RdX X B) (hp : p < 32) (hr : Rb B p es) (hpz : pz = (p : Int)) (hlo : Bnd B lo cl ml) (hhi : Bnd B hi ch mh) : ((∀ e ∈ es, InB lo hi e) ∧ f_X8_isWithin pz ml mh X = some (X, 1)) ∨ (¬ (∀ e ∈ es, InB lo hi e) ∧ f_X8_isWithin pz ml mh X = some (X, 0)) := by
  have hf := FU_eq
  have hl := Rb_len hr
  unfold f_X8_isWithin
  obtain ⟨z1, z2, q⟩ := cm_within h hp hr hpz hlo hhi (K := (fun (v4_e9 : Int) (v5_e9 : Int) (v6_e9 : Int) (C_e9 : Mem) => (bo (v4_e9) (some (C_e9, v4_e9))))) es [] FU 1 3 0 rfl rfl rfl (Or.inr rfl) (by omega)
  rcases q with ⟨q1, q⟩ | ⟨q1, q⟩
  · exact Or.inl ⟨q1.2, by rw [q, bo_t (by omega)]⟩
  · exact Or.inr ⟨fun k => q1 ⟨rfl, k⟩, by rw [q, bo_t (by omega)]⟩
end K3
end
section
/-! CHECK 4: children; why a page is wrong. -/
def GoodCh (S : Nat → Int) (R : List Ent) : Prop := (∀ c ∈ R, 0 ≤ c.2 ∧ c.2 < 32 ∧ S c.2.toNat = 0) ∧ (R.map Prod.snd).Nodup
section K4
variable {C X : Mem} {B : By} {p q : Nat} {es a b r0 r1 d r : List Ent} {e f c : Ent} {z pz cl ch ml mh l s : Int} {lo hi : Option (List Int)} {S : Nat → Int}
theorem chd_at (h : ([], l) :: es = d ++ c :: r) : chd (s, l, es) d.length = c.2 := by
  unfold chd
  show ((([], l) :: es).getD d.length ([], 0)).2 = c.2
  rw [h, List.getD_eq_getElem?_getD, List.getElem?_append_right (by omega), Nat.sub_self]
  rfl
theorem chd_le (h : ([], l) :: es = d ++ c :: r) : es.length = d.length + r.length := by
  have := congrArg List.length h
  simp at this
  omega
theorem cm_child (h : RdX X B) (hp : p < 32) (hr : Rb B p es) (hpz : pz = (p : Int)) {K : Int → Int → Mem → Option (Mem × Int)} {u : Int} : ∀ (b a c : List Ent) (n : Nat) (v2 v3 : Int), es = a ++ b ++ c → u = ((a ++ b).length : Int) + 1 → b.length < n → v2 = (3 + szs a : Nat) → v3 = (a.length : Int) + 1 → f_X8_childAs_16 pz u K n v2 v3 X = K ((3 + szs (a ++ b) : Nat) : Int) u X
  | _, _, _, 0 => by intros; omega
  | [], a, c, n + 1 => by
    intro v2 v3 h1 h2 h3 h4 h5
    have h6 := Rb_len hr
    rw [List.append_nil] at h2 ⊢
    have h7 : a.length ≤ es.length := by rw [h1]; simp
    unfold f_X8_childAs_16
    rw [fLt (by omega), h4, h5, h2]
  | e :: b, a, c, n + 1 => by
    intro v2 v3 h1 h2 h3 h4 h5
    have h6 := Rb_len hr
    have h9 : es.length = a.length + (b.length + 1) + c.length := by rw [h1]; simp; omega
    have hu : u = ((a.length + (b.length + 1) : Nat) : Int) + 1 := by rw [h2]; simp
    have h' : Rb B p (a ++ e :: (b ++ c)) := by rw [h1, List.append_assoc] at hr; exact hr
    unfold f_X8_childAs_16
    rw [tLt (by omega), ca_len h hp h' hpz h4, bd_some]
    have q := cm_child h hp hr hpz (K := K) (u := u) b (a ++ [e]) c n (v2 + ((e.1.length : Int) + 2)) (v3 + 1) (by rw [h1]; simp) (by rw [h2]; simp) (by simp at h3; omega) (by rw [szs_app, szs_cons, szs_nil]; omega) (by simp; omega)
    rw [q, List.append_assoc]
    rfl
theorem ca_child (h : RdX X B) (hp : p < 32) (hr : Rb B p es) (hpz : pz = (p : Int)) (hd : ([], B p 2) :: es = d ++ c :: r) (hz : z = (d.length : Int)) : f_X8_childAs pz z X = some (X, c.2) := by
  have hf := FU_eq
  have hl := Rb_len hr
  have hle := chd_le hd
  unfold f_X8_childAs
  cases d with
  | nil =>
    rw [tEq (by simp at hz; omega), h p hp 2 (by omega) pz 2 hpz (by rfl), bd_some]
    rw [List.nil_append] at hd
    injection hd with q1 q2
    rw [← q1]
  | cons g d =>
    rw [List.cons_append] at hd
    injection hd with q1 q2
    simp at hz hle
    have hr1 : Rb B p (d ++ c :: r) := by rw [← q2]; exact hr
    rw [fEq (by omega), cm_child h hp hr hpz d [] (c :: r) FU 3 1 (by rw [q2]; simp) (by rw [hz]; simp) (by omega) (by rw [szs_nil]; rfl) (by rfl)]
    rw [List.nil_append, ca_len h hp hr1 hpz (by rfl), bd_some, ca_tail h hp hr1 hpz (by omega), bd_some]
theorem ck_child (h : RdC C B) (hB : ByOk B) (hp : p < 32) (hr : Rb B p es) (hd : ([], B p 2) :: es = d ++ c :: r) (hz : z = (d.length : Int)) : f_X4_child p z C = some (C, c.2) := by
  have hle := chd_le hd
  rw [sp_child (ck_pg h hB hp hr) (n := d.length) (by omega) hz, chd_at hd]
/-- a child that stands there before -/
theorem cx_same (h : RdC C B) (hB : ByOk B) (hp : p < 32) (hr : Rb B p es) (hd : ([], B p 2) :: es = d ++ r) {u2 u3 : Int} (h2 : u2 = (d.length : Int)) (h3 : 0 ≤ u3 ∧ u3 ≤ 255) {K : Int → Mem → Option (Mem × Int)} : ∀ (d2 d1 : List Ent) (n : Nat) (v : Int), d = d1 ++ d2 → v = (d1.length : Int) → d2.length < n → (u3 ∉ d2.map Prod.snd ∧ f_X1_hasWrongChild_43 p u2 u3 K n v C = K u2 C) ∨ (u3 ∈ d2.map Prod.snd ∧ f_X1_hasWrongChild_43 p u2 u3 K n v C = some (C, 1))
  | _, _, 0 => by intros; omega
  | [], d1, n + 1 => by
    intro v h1 hv _
    have hl := Rb_len hr
    have h9 : d.length = d1.length := by rw [h1]; simp
    have h8 := congrArg List.length hd
    simp at h8
    refine Or.inl ⟨by simp, ?_⟩
    unfold f_X1_hasWrongChild_43
    rw [fLt (by omega), show v = u2 by omega]
  | g :: d2, d1, n + 1 => by
    intro v h1 hv hn
    have hl := Rb_len hr
    have h9 : d.length = d1.length + (d2.length + 1) := by rw [h1]; simp
    have h8 := congrArg List.length hd
    simp at h8
    have hd1 : ([], B p 2) :: es = d1 ++ g :: (d2 ++ r) := by rw [hd, h1]; simp
    have hg : 0 ≤ g.2 ∧ g.2 ≤ 255 := by
      have hm : g ∈ ([], B p 2) :: es := by rw [hd1]; simp
      rcases List.mem_cons.mp hm with q | q
      · rw [q]; exact hB p 2
      · exact (hr.2.1 g q).2.2.2
    unfold f_X1_hasWrongChild_43
    rw [tLt (by omega), ck_child h hB hp hr hd1 hv, bd_some]
    by_cases k : g.2 = u3
    · rw [tEq (by omega)]
      exact Or.inr ⟨by simp [k], rfl⟩
    · rw [fEq (by omega)]
      rcases cx_same h hB hp hr hd h2 h3 (K := K) d2 (d1 ++ [g]) n (v + 1) (by rw [h1]; simp) (by simp; omega) (by simp at hn; omega) with ⟨q1, q2⟩ | ⟨q1, q2⟩
      · refine Or.inl ⟨?_, q2⟩
        rw [List.map_cons, List.mem_cons]
        rintro (q | q)
        · exact k q.symm
        · exact q1 q
      · exact Or.inr ⟨by rw [List.map_cons]; exact List.mem_cons_of_mem _ q1, q2⟩
theorem GoodCh_ext (h : GoodCh S d) (h1 : 0 ≤ c.2 ∧ c.2 < 32 ∧ S c.2.toNat = 0) (h2 : c.2 ∉ d.map Prod.snd) : GoodCh S (d ++ [c]) := by
  refine ⟨fun x hx => ?_, ?_⟩
  · rcases List.mem_append.mp hx with q | q
    · exact h.1 x q
    · rw [List.mem_singleton.mp q]; exact h1
  · rw [List.map_append, List.nodup_append]
    refine ⟨h.2, by simp, ?_⟩
    intro x hx y hy
    simp at hy
    rintro rfl
    rw [hy] at hx
    exact h2 hx
theorem GoodCh_not (h : c.2 ∈ d.map Prod.snd) : ¬ GoodCh S (d ++ c :: r) := by
  rintro ⟨_, k⟩
  rw [List.map_append, List.nodup_append] at k
  exact k.2.2 c.2 h c.2 (by simp) rfl
theorem cx_children (h : RdC C B) (hB : ByOk B) (hp : p < 32) (hr : Rb B p es) (hS : ∀ k, k < 32 → C 23 k = S k ∧ (S k = 0 ∨ S k = 1)) : ∀ (r d : List Ent) (n : Nat) (v : Int), ([], B p 2) :: es = d ++ r → v = (d.length : Int) → GoodCh S d → r.length < n → (GoodCh S (d ++ r) ∧ f_X1_hasWrongChild_2 p (fun (v2_e2 : Int) (C_e2 : Mem) => (some (C_e2, 0))) n v C = some (C, 0)) ∨ (¬ GoodCh S (d ++ r) ∧ f_X1_hasWrongChild_2 p (fun (v2_e2 : Int) (C_e2 : Mem) => (some (C_e2, 0))) n v C = some (C, 1))
  | _, _, 0 => by intros; omega
  | [], d, n + 1 => by
    intro v hd hv hg _
    have hl := Rb_len hr
    have h8 := congrArg List.length hd
    simp at h8
    refine Or.inl ⟨by rw [List.append_nil]; exact hg, ?_⟩
    unfold f_X1_hasWrongChild_2
    rw [sp_entries (ck_pg h hB hp hr), bd_some, tLt (by omega)]
  | c :: r, d, n + 1 => by
    intro v hd hv hg hn
    have hf := FU_eq
    have hl := Rb_len hr
    have h8 := congrArg List.length hd
    simp at h8
    have hc : 0 ≤ c.2 ∧ c.2 ≤ 255 := by
      have hm : c ∈ ([], B p 2) :: es := by rw [hd]; simp
      rcases List.mem_cons.mp hm with q | q
      · rw [q]; exact hB p 2
      · exact (hr.2.1 c q).2.2.2
    unfold f_X1_hasWrongChild_2
    rw [sp_entries (ck_pg h hB hp hr), bd_some, fLt (by omega), ck_child h hB hp hr hd hv, bd_some, fLt (by omega)]
    by_cases k1 : c.2 < 32
    · rw [tLt (by omega), ix_t (by omega), (hS _ (by omega)).1]
      have hs := (hS c.2.toNat (by omega)).2
      by_cases k2 : S c.2.toNat = 0
      · rw [tEq (by omega)]
        rcases cx_same h hB hp hr hd hv (u3 := c.2) hc (K := (fun (v4_e43 : Int) (C_e43 : Mem) => (f_X1_hasWrongChild_2 p (fun (v2_e2 : Int) (C_e2 : Mem) => (some (C_e2, 0))) n (v + 1) C_e43))) d [] FU 0 rfl rfl (by omega) with ⟨q1, q2⟩ | ⟨q1, q2⟩
        · rw [q2]
          have ih := cx_children h hB hp hr hS r (d ++ [c]) n (v + 1) (by rw [hd]; simp) (by simp; omega) (GoodCh_ext hg ⟨hc.1, k1, k2⟩ q1) (by simp at hn; omega)
          rw [List.append_assoc] at ih
          exact ih
        · rw [q2]
          exact Or.inr ⟨GoodCh_not q1, rfl⟩
      · rw [fEq (by omega)]
        exact Or.inr ⟨fun k => k2 (k.1 c (by simp)).2.2, rfl⟩
    · rw [fLt (by omega)]
      exact Or.inr ⟨fun k => k1 (k.1 c (by simp)).2.1, rfl⟩
theorem ck_children (h : RdC C B) (hB : ByOk B) (hp : p < 32) (hr : Rb B p es) (hS : ∀ k, k < 32 → C 23 k = S k ∧ (S k = 0 ∨ S k = 1)) : (GoodCh S (([], B p 2) :: es) ∧ f_X1_hasWrongChild p C = some (C, 0)) ∨ (¬ GoodCh S (([], B p 2) :: es) ∧ f_X1_hasWrongChild p C = some (C, 1)) := by
  have hf := FU_eq
  have hl := Rb_len hr
  exact cx_children h hB hp hr hS (([], B p 2) :: es) [] FU 0 rfl rfl ⟨fun _ q => absurd q List.not_mem_nil, by simp⟩ (by simp; omega)
theorem cm_same (h : RdX X B) (hB : ByOk B) (hp : p < 32) (hr : Rb B p es) (hpz : pz = (p : Int)) (hd : ([], B p 2) :: es = d ++ r) {u3 u4 : Int} (h2 : u3 = (d.length : Int)) (h3 : 0 ≤ u4 ∧ u4 ≤ 255) {K : Int → Int → Mem → Option (Mem × Int)} : ∀ (d2 d1 : List Ent) (n : Nat) (v2 v : Int), d = d1 ++ d2 → v = (d1.length : Int) → v2 = 0 ∨ v2 = 1 → d2.length < n → ((v2 = 1 ∧ u4 ∉ d2.map Prod.snd) ∧ f_X8_hasChildren_53 pz u3 u4 K n v2 v X = K 1 u3 X) ∨ (¬ (v2 = 1 ∧ u4 ∉ d2.map Prod.snd) ∧ f_X8_hasChildren_53 pz u3 u4 K n v2 v X = K 0 u3 X)
  | _, _, 0 => by intros; omega
  | [], d1, n + 1 => by
    intro v2 v h1 hv hw _
    have hl := Rb_len hr
    have h9 : d.length = d1.length := by rw [h1]; simp
    have h8 := congrArg List.length hd
    simp at h8
    unfold f_X8_hasChildren_53
    rw [fLt (by omega), show v = u3 by omega]
    rcases hw with hw | hw
    · exact Or.inr ⟨fun q => by omega, by rw [hw]⟩
    · exact Or.inl ⟨⟨hw, by simp⟩, by rw [hw]⟩
  | g :: d2, d1, n + 1 => by
    intro v2 v h1 hv hw hn
    have hl := Rb_len hr
    have h9 : d.length = d1.length + (d2.length + 1) := by rw [h1]; simp
    have h8 := congrArg List.length hd
    simp at h8
    have hd1 : ([], B p 2) :: es = d1 ++ g :: (d2 ++ r) := by rw [hd, h1]; simp
    have hg : 0 ≤ g.2 ∧ g.2 ≤ 255 := by
      have hm : g ∈ ([], B p 2) :: es := by rw [hd1]; simp
      rcases List.mem_cons.mp hm with q | q
      · rw [q]; exact hB p 2
      · exact (hr.2.1 g q).2.2.2
    have ih : ∀ s : Int, s = 0 ∨ s = 1 → ((s = 1 ∧ u4 ∉ d2.map Prod.snd) ∧ f_X8_hasChildren_53 pz u3 u4 K n s (v + 1) X = K 1 u3 X) ∨ (¬ (s = 1 ∧ u4 ∉ d2.map Prod.snd) ∧ f_X8_hasChildren_53 pz u3 u4 K n s (v + 1) X = K 0 u3 X) := fun s hs => cm_same h hB hp hr hpz hd h2 h3 (K := K) d2 (d1 ++ [g]) n s (v + 1) (by rw [h1]; simp) (by simp; omega) hs (by simp at hn; omega)
    have ih0 : ¬ (v2 = 1 ∧ u4 ∉ (g :: d2).map Prod.snd) → f_X8_hasChildren_53 pz u3 u4 K n 0 (v + 1) X = K 0 u3 X := by
      intro _
      rcases ih 0 (Or.inl rfl) with ⟨q, _⟩ | ⟨_, q⟩
      · exact absurd q.1 (by omega)
      · exact q
    unfold f_X8_hasChildren_53
    rw [tLt (by omega)]
    rcases hw with hw | hw
    · rw [tEq (by omega), ih0 (fun q => by omega)]
      exact Or.inr ⟨fun q => by omega, rfl⟩
    · rw [fEq (by omega), ca_child h hp hr hpz hd1 hv, bd_some]
      by_cases k : g.2 = u4
      · have hne : ¬ (v2 = 1 ∧ u4 ∉ (g :: d2).map Prod.snd) := fun q => q.2 (by simp [k])
        rw [tEq (by omega), ih0 hne]
        exact Or.inr ⟨hne, rfl⟩
      · rw [fEq (by omega)]
        rcases ih 1 (Or.inr rfl) with ⟨q1, q2⟩ | ⟨q1, q2⟩
        · refine Or.inl ⟨⟨hw, ?_⟩, q2⟩
          rw [List.map_cons, List.mem_cons]
          rintro (q | q)
          · exact k q.symm
          · exact q1.2 q
        · exact Or.inr ⟨fun q => q1 ⟨rfl, fun w => q.2 (by rw [List.map_cons]; exact List.mem_cons_of_mem _ w)⟩, q2⟩
theorem cm_children (h : RdX X B) (hB : ByOk B) (hp : p < 32) (hr : Rb B p es) (hpz : pz = (p : Int)) (hS : ∀ k, k < 32 → X 104 k = S k ∧ (S k = 0 ∨ S k = 1)) {K : Int → Int → Mem → Option (Mem × Int)} : ∀ (r d : List Ent) (n : Nat) (v2 v : Int), ([], B p 2) :: es = d ++ r → v = (d.length : Int) → v2 = 0 ∨ v2 = 1 → (v2 = 1 → GoodCh S d) → (v2 = 0 → ¬ GoodCh S (d ++ r)) → r.length < n → ∃ z, (GoodCh S (d ++ r) ∧ f_X8_hasChildren_4 pz K n v2 v X = K 1 z X) ∨ (¬ GoodCh S (d ++ r) ∧ f_X8_hasChildren_4 pz K n v2 v X = K 0 z X)
  | _, _, 0 => by intros; omega
  | [], d, n + 1 => by
    intro v2 v hd hv hw hg hg0 _
    have hl := Rb_len hr
    have h8 := congrArg List.length hd
    simp at h8
    unfold f_X8_hasChildren_4
    rw [ca_1 h hp hr hpz, bd_some, tLt (by omega)]
    rcases hw with hw | hw
    · exact ⟨v, Or.inr ⟨hg0 hw, by rw [hw]⟩⟩
    · exact ⟨v, Or.inl ⟨by rw [List.append_nil]; exact hg hw, by rw [hw]⟩⟩
  | c :: r, d, n + 1 => by
    intro v2 v hd hv hw hg hg0 hn
    have hf := FU_eq
    have hl := Rb_len hr
    have h8 := congrArg List.length hd
    simp at h8
    have hc : 0 ≤ c.2 ∧ c.2 ≤ 255 := by
      have hm : c ∈ ([], B p 2) :: es := by rw [hd]; simp
      rcases List.mem_cons.mp hm with q | q
      · rw [q]; exact hB p 2
      · exact (hr.2.1 c q).2.2.2
    have step : ∀ s : Int, s = 0 ∨ s = 1 → (s = 1 → GoodCh S d ∧ 0 ≤ c.2 ∧ c.2 < 32 ∧ S c.2.toNat = 0) → (s = 0 → ¬ GoodCh S (d ++ c :: r)) → ∃ z, (GoodCh S (d ++ c :: r) ∧ f_X8_hasChildren_53 pz v c.2 (fun (v2_e53 : Int) (v5_e53 : Int) (C_e53 : Mem) => (f_X8_hasChildren_4 pz K n (v2_e53) (v + 1) C_e53)) FU s 0 X = K 1 z X) ∨ (¬ GoodCh S (d ++ c :: r) ∧ f_X8_hasChildren_53 pz v c.2 (fun (v2_e53 : Int) (v5_e53 : Int) (C_e53 : Mem) => (f_X8_hasChildren_4 pz K n (v2_e53) (v + 1) C_e53)) FU s 0 X = K 0 z X) := by
      intro s hs g1 g0
      have e : d ++ c :: r = (d ++ [c]) ++ r := by simp
      rcases cm_same h hB hp hr hpz hd hv (u4 := c.2) hc (K := (fun (v2_e53 : Int) (v5_e53 : Int) (C_e53 : Mem) => (f_X8_hasChildren_4 pz K n (v2_e53) (v + 1) C_e53))) d [] FU s 0 rfl rfl hs (by omega) with ⟨q1, q2⟩ | ⟨q1, q2⟩
      · rw [q2]
        have g := g1 q1.1
        have ih := cm_children h hB hp hr hpz hS (K := K) r (d ++ [c]) n 1 (v + 1) (by rw [hd]; simp) (by simp; omega) (Or.inr rfl) (fun _ => GoodCh_ext g.1 g.2 q1.2) (fun q => absurd q (by omega)) (by simp at hn; omega)
        rw [← e] at ih
        exact ih
      · rw [q2]
        have hne : ¬ GoodCh S (d ++ c :: r) := by
          rcases hs with hs | hs
          · exact g0 hs
          · refine GoodCh_not ?_
            by_cases k : c.2 ∈ d.map Prod.snd
            · exact k
            · exact absurd ⟨hs, k⟩ q1
        have ih := cm_children h hB hp hr hpz hS (K := K) r (d ++ [c]) n 0 (v + 1) (by rw [hd]; simp) (by simp; omega) (Or.inl rfl) (fun q => absurd q (by omega)) (fun _ => by rw [← e]; exact hne) (by simp at hn; omega)
        rw [← e] at ih
        exact ih
    unfold f_X8_hasChildren_4
    rw [ca_1 h hp hr hpz, bd_some, fLt (by omega), ca_child h hp hr hpz hd hv, bd_some]
    simp only [jn_eq]
    rcases hw with hw | hw
    · rw [tEq (a := v2) (by omega)]
      exact step 0 (Or.inl rfl) (fun q => absurd q (by omega)) (fun _ => hg0 hw)
    · rw [fEq (a := v2) (by omega)]
      unfold f_X8_isPage
      rw [mx_within (by constructor <;> omega) (by constructor <;> omega) (by constructor <;> omega), bd_some, bo_b, bd_some, cEq_b]
      by_cases k1 : c.2 < 32
      · rw [if_pos (by omega), ix_t (by omega), (hS _ (by omega)).1]
        have hs := (hS c.2.toNat (by omega)).2
        by_cases k2 : S c.2.toNat = 0
        · rw [tEq (a := S c.2.toNat) (by omega)]
          exact step 1 (Or.inr rfl) (fun _ => ⟨hg hw, hc.1, k1, k2⟩) (fun q => absurd q (by omega))
        · rw [fEq (a := S c.2.toNat) (by omega)]
          exact step 0 (Or.inl rfl) (fun q => absurd q (by omega)) (fun _ k => k2 (k.1 c (by simp)).2.2)
      · rw [if_neg (by omega)]
        exact step 0 (Or.inl rfl) (fun q => absurd q (by omega)) (fun _ k => k1 (k.1 c (by simp)).2.1)
theorem ca_children (h : RdX X B) (hB : ByOk B) (hp : p < 32) (hr : Rb B p es) (hpz : pz = (p : Int)) (hS : ∀ k, k < 32 → X 104 k = S k ∧ (S k = 0 ∨ S k = 1)) : (GoodCh S (([], B p 2) :: es) ∧ f_X8_hasChildren pz X = some (X, 1)) ∨ (¬ GoodCh S (([], B p 2) :: es) ∧ f_X8_hasChildren pz X = some (X, 0)) := by
  have hf := FU_eq
  have hl := Rb_len hr
  unfold f_X8_hasChildren
  obtain ⟨z, q⟩ := cm_children h hB hp hr hpz hS (K := (fun (v2_e4 : Int) (v3_e4 : Int) (C_e4 : Mem) => (bo (v2_e4) (some (C_e4, v2_e4))))) (([], B p 2) :: es) [] FU 1 0 rfl rfl (Or.inr rfl) (fun _ => ⟨fun _ q => absurd q List.not_mem_nil, by simp⟩) (fun q => absurd q (by omega)) (by simp; omega)
  rcases q with ⟨q1, q⟩ | ⟨q1, q⟩
  · exact Or.inl ⟨q1, by rw [q, bo_t (by omega)]⟩
  · exact Or.inr ⟨q1, by rw [q, bo_t (by omega)]⟩
end K4
end
section
/-! CHECK 5: why a page is wrong, both sides. -/
def tC (p : Nat) (cl ch : Int) (C : Mem) : Option (Mem × Int) := (bd (f_X1_isReadable p C) (fun C54 r54 => (cEq (r54) 0 (some (C54, 2)) (bd (f_X1_rises p C54) (fun C64 r64 => (cEq (r64) 0 (some (C64, 3)) (bd (f_X4_entries p C64) (fun C73 r73 => (cLt 0 (r73) (bd (f_X1_isBetween p (cl) (ch) C73) (fun C84 r84 => (cEq (r84) 0 (some (C84, 4)) (bd (f_X4_sort p C84) (fun C93 r93 => (cEq (r93) (2) (bd (f_X1_hasWrongChild p C93) (fun C102 r102 => (cEq (r102) 0 (some (C102, 0)) (some (C102, 5))))) (some (C93, 0)))))))) (bd (f_X4_sort p C73) (fun C93 r93 => (cEq (r93) (2) (bd (f_X1_hasWrongChild p C93) (fun C102 r102 => (cEq (r102) 0 (some (C102, 0)) (some (C102, 5))))) (some (C93, 0))))))))))))))
def eC (p : Nat) (cl ch s0 : Int) (C : Mem) : Option (Mem × Int) := bd (f_X4_entries p C) (fun C42 r42 => cEq r42 0 (cEq s0 0 (some (C42, 2)) (tC p cl ch C42)) (tC p cl ch C42))
def sC (p : Nat) (dz cl ch s1 r1 : Int) (C6 : Mem) : Option (Mem × Int) := cEq r1 s1 (cEq dz 0 (bd (f_X4_sort p C6) (fun C27 r27 => cEq r27 1 (eC p cl ch 1 C27) (eC p cl ch 0 C27))) (eC p cl ch 0 C6)) (some (C6, 1))
theorem why_eq (p : Nat) (dz cl ch : Int) (C : Mem) : f_X1_whyWrong p dz cl ch C = bd (f_X4_sort p C) (fun C1 r1 => bd (f_X1_isLast dz C1) (fun C6 r6 => cEq r6 0 (sC p dz cl ch 2 r1 C6) (sC p dz cl ch 1 r1 C6))) := rfl
def tX (pz ml mh u : Int) (o : Option (Mem × Int)) : Option (Mem × Int) := (bd o (fun C33 r33 => (cEq (r33) 0 (some (C33, 2)) (bd (f_X8_rises (pz) C33) (fun C43 r43 => (cEq (r43) 0 (some (C43, 3)) (bd (f_X8_isWithin (pz) (ml) (mh) C43) (fun C56 r56 => (cEq (r56) 0 (some (C56, 4)) (cEq (u) (2) (bd (f_X8_hasChildren (pz) C56) (fun C72 r72 => (cEq (r72) 0 (some (C72, 5)) (some (C72, 0))))) (some (C56, 0))))))))))))
def sX (pz dz ml mh u : Int) (C : Mem) : Option (Mem × Int) := bd (f_X8_as pz 0 C) (fun C20 r20 => cEq r20 u (tX pz ml mh u (f_X8_isRead pz dz C20)) (some (C20, 1)))
theorem whyX_eq (pz dz ml mh : Int) (C : Mem) : f_X8_why pz dz ml mh C = cEq dz (C 95 2 - 1) (sX pz dz ml mh 1 C) (sX pz dz ml mh 2 C) := rfl
theorem isRead_eq (pz dz : Int) (C : Mem) : f_X8_isRead pz dz C = bd (f_X8_as pz 1 C) (fun C3 r3 => cEq r3 0 (cEq pz (C3 95 1) (cLt dz (C3 95 2 - 1) (some (C3, 0)) (f_X8_isRead_37 pz r3 (kRx pz) FU 3 0 C3)) (some (C3, 0))) (f_X8_isRead_37 pz r3 (kRx pz) FU 3 0 C3)) := rfl
section K5
variable {C X : Mem} {B : By} {p q : Nat} {es : List Ent} {z pz cl ch ml mh u : Int} {lo hi : Option (List Int)} {S : Nat → Int}
theorem ck_j92 (h : RdC C B) (hx : RdX X B) (hB : ByOk B) (hp : p < 32) (hpz : pz = (p : Int)) (hr : Rb B p es) (hu : u = B p 0) (hu12 : u = 1 ∨ u = 2) (hS : ∀ k, k < 32 → C 23 k = S k ∧ (S k = 0 ∨ S k = 1)) (hSx : ∀ k, k < 32 → X 104 k = S k ∧ (S k = 0 ∨ S k = 1)) : ∃ v : Int, (v = 0 ∨ v = 5) ∧ bd (f_X4_sort p C) (fun C93 r93 => (cEq (r93) (2) (bd (f_X1_hasWrongChild p C93) (fun C102 r102 => (cEq (r102) 0 (some (C102, 0)) (some (C102, 5))))) (some (C93, 0)))) = some (C, v) ∧ cEq u (2) (bd (f_X8_hasChildren (pz) X) (fun C72 r72 => (cEq (r72) 0 (some (C72, 5)) (some (C72, 0))))) (some (X, 0)) = some (X, v) ∧ (v = 0 → u = 2 → GoodCh S (([], B p 2) :: es)) := by
  rw [ck_sort h hp, bd_some, ← hu]
  rcases hu12 with k | k
  · rw [fEq (by omega), fEq (by omega)]
    exact ⟨0, Or.inl rfl, rfl, rfl, fun _ q => by omega⟩
  · rw [tEq (by omega), tEq (by omega)]
    rcases ck_children h hB hp hr hS with ⟨g1, g2⟩ | ⟨g1, g2⟩
    · rcases ca_children hx hB hp hr hpz hSx with ⟨g3, g4⟩ | ⟨g3, g4⟩
      · rw [g2, g4, bd_some, bd_some, tEq (by omega), fEq (by omega)]
        exact ⟨0, Or.inl rfl, rfl, rfl, fun _ _ => g1⟩
      · exact absurd g1 g3
    · rcases ca_children hx hB hp hr hpz hSx with ⟨g3, g4⟩ | ⟨g3, g4⟩
      · exact absurd g3 g1
      · rw [g2, g4, bd_some, bd_some, fEq (by omega), tEq (by omega)]
        exact ⟨5, Or.inr rfl, rfl, rfl, fun q => by omega⟩
theorem ck_tail (h : RdC C B) (hx : RdX X B) (hB : ByOk B) (hp : p < 32) (hpz : pz = (p : Int)) (hlo : Bnd B lo cl ml) (hhi : Bnd B hi ch mh) (hu : u = B p 0) (hu12 : u = 1 ∨ u = 2) (hS : ∀ k, k < 32 → C 23 k = S k ∧ (S k = 0 ∨ S k = 1)) (hSx : ∀ k, k < 32 → X 104 k = S k ∧ (S k = 0 ∨ S k = 1)) : ∃ (C' : Mem) (v : Int), F3 C C' ∧ (0 ≤ v ∧ v ≤ 5) ∧ tC p cl ch C = some (C', v) ∧ tX pz ml mh u (f_X8_isRead_37 pz (B p 1) (kRx pz) FU 3 0 X) = some (X, v) ∧ (v = 0 → ∃ es, Rb B p es ∧ (u = 2 → GoodCh S (([], B p 2) :: es))) := by
  unfold tC tX
  rcases ck_readable h hx hB hp hpz with ⟨es, hr, k1, k2⟩ | ⟨k1, k2⟩
  · rw [k1, k2, bd_some, bd_some, fEq (by omega), fEq (by omega)]
    obtain ⟨C1, f1, g⟩ := ck_rises h hB hp hr
    have h1 := F3_Rd h f1
    have hl := Rb_len hr
    have hS1 : ∀ k, k < 32 → C1 23 k = S k ∧ (S k = 0 ∨ S k = 1) := fun k hk => by rw [f1 23 k (by omega) (by omega)]; exact hS k hk
    rcases g with ⟨g1, g2⟩ | ⟨g1, g2⟩
    · rcases ca_rises hx hp hr hpz with ⟨g3, g4⟩ | ⟨g3, _⟩
      · rw [g2, g4, bd_some, bd_some, fEq (by omega), fEq (by omega), sp_entries (ck_pg h1 hB hp hr), bd_some]
        cases es with
        | nil =>
          rw [fLt (a := 0) (by simp)]
          rcases ca_within hx hp hr hpz hlo hhi with ⟨_, w2⟩ | ⟨w1, _⟩
          · rw [w2, bd_some, fEq (a := 1) (by omega)]
            obtain ⟨v, v1, v2, v3, v4⟩ := ck_j92 h1 hx hB hp hpz hr hu hu12 hS1 hSx
            exact ⟨C1, v, f1, by omega, v2, v3, fun q => ⟨[], hr, v4 q⟩⟩
          · exact absurd (fun e he => absurd he List.not_mem_nil) w1
        | cons e0 r0 =>
          obtain ⟨r1, eL, hL⟩ : ∃ r1 eL, e0 :: r0 = r1 ++ [eL] := ⟨(e0 :: r0).dropLast, (e0 :: r0).getLast (by simp), by rw [List.dropLast_concat_getLast]⟩
          rw [tLt (a := 0) (by simp at hl ⊢; omega)]
          obtain ⟨C2, f2, m⟩ := ck_between h1 hB hp hr rfl hL hlo hhi
          have h2 := F3_Rd h1 f2
          have hS2 : ∀ k, k < 32 → C2 23 k = S k ∧ (S k = 0 ∨ S k = 1) := fun k hk => by rw [f2 23 k (by omega) (by omega)]; exact hS1 k hk
          have hi := InB_all (lo := lo) (hi := hi) g1 rfl hL
          rcases m with ⟨m1, m2⟩ | ⟨m1, m2⟩
          · rcases ca_within hx hp hr hpz hlo hhi with ⟨_, w2⟩ | ⟨w1, _⟩
            · rw [m2, bd_some, fEq (a := 1) (by omega), w2, bd_some, fEq (a := 1) (by omega)]
              obtain ⟨v, v1, v2, v3, v4⟩ := ck_j92 h2 hx hB hp hpz hr hu hu12 hS2 hSx
              exact ⟨C2, v, F3_tr f1 f2, by omega, v2, v3, fun q => ⟨_, hr, v4 q⟩⟩
            · exact absurd (hi.mp m1) w1
          · rcases ca_within hx hp hr hpz hlo hhi with ⟨w1, _⟩ | ⟨_, w2⟩
            · exact absurd (hi.mpr w1) m1
            · rw [m2, bd_some, tEq (a := 0) (by omega), w2, bd_some, tEq (a := 0) (by omega)]
              exact ⟨C2, 4, F3_tr f1 f2, by omega, rfl, rfl, fun q => by omega⟩
      · exact absurd g1 g3
    · rcases ca_rises hx hp hr hpz with ⟨g3, _⟩ | ⟨_, g4⟩
      · exact absurd g3 g1
      · rw [g2, g4, bd_some, bd_some, tEq (by omega), tEq (by omega)]
        exact ⟨C1, 3, f1, by omega, rfl, rfl, fun q => by omega⟩
  · rw [k1, k2, bd_some, bd_some, tEq (by omega), tEq (by omega)]
    exact ⟨C, 2, F3_refl, by omega, rfl, rfl, fun q => by omega⟩
theorem ck_why {root L depth : Nat} {dz : Int} (h : RdC C B) (hx : RdX X B) (hB : ByOk B) (hp : p < 32) (hpz : pz = (p : Int)) (hdz : dz = (depth : Int)) (hlo : Bnd B lo cl ml) (hhi : Bnd B hi ch mh) (hS : ∀ k, k < 32 → C 23 k = S k ∧ (S k = 0 ∨ S k = 1)) (hSx : ∀ k, k < 32 → X 104 k = S k ∧ (S k = 0 ∨ S k = 1)) (hL : C 1 5 = (L : Int)) (hLx : X 95 2 = (L : Int)) (hrx : X 95 1 = (root : Int)) (hr32 : root < 32) (hL32 : L ≤ 32) (hdL : depth + 1 ≤ L) (hrt : depth = 0 ↔ p = root) : ∃ (C' : Mem) (v : Int), F3 C C' ∧ (0 ≤ v ∧ v ≤ 5) ∧ f_X1_whyWrong p dz cl ch C = some (C', v) ∧ f_X8_why pz dz ml mh X = some (X, v) ∧ (v = 0 → ∃ es, Rb B p es ∧ (depth + 1 < L → GoodCh S (([], B p 2) :: es))) := by
  have b0 := hB p 0
  have b1 := hB p 1
  have a0 : f_X8_as pz 0 X = some (X, B p 0) := hx p hp 0 (by omega) pz 0 hpz (by rfl)
  have a1 : f_X8_as pz 1 X = some (X, B p 1) := hx p hp 1 (by omega) pz 1 hpz (by rfl)
  have main : ∀ u : Int, (u = 1 ∧ depth + 1 = L) ∨ (u = 2 ∧ depth + 1 < L) → ∃ (C' : Mem) (v : Int), F3 C C' ∧ (0 ≤ v ∧ v ≤ 5) ∧ sC p dz cl ch u (B p 0) C = some (C', v) ∧ sX pz dz ml mh u X = some (X, v) ∧ (v = 0 → ∃ es, Rb B p es ∧ (depth + 1 < L → GoodCh S (([], B p 2) :: es))) := by
    intro u hu
    unfold sC sX
    rw [a0, bd_some]
    by_cases k1 : B p 0 = u
    · rw [tEq (a := B p 0) (b := u) (by omega), tEq (a := B p 0) (b := u) (by omega)]
      obtain ⟨C', v, t1, t2, t3, t4, t5⟩ := ck_tail h hx hB hp hpz hlo hhi (u := u) (by omega) (by omega) hS hSx
      have fin : ∃ (C' : Mem) (v : Int), F3 C C' ∧ (0 ≤ v ∧ v ≤ 5) ∧ tC p cl ch C = some (C', v) ∧ tX pz ml mh u (f_X8_isRead_37 pz (B p 1) (kRx pz) FU 3 0 X) = some (X, v) ∧ (v = 0 → ∃ es, Rb B p es ∧ (depth + 1 < L → GoodCh S (([], B p 2) :: es))) := ⟨C', v, t1, t2, t3, t4, fun q => by
        obtain ⟨es, e1, e2⟩ := t5 q
        exact ⟨es, e1, fun w => e2 (by omega)⟩⟩
      have bad : ∃ (C' : Mem) (v : Int), F3 C C' ∧ (0 ≤ v ∧ v ≤ 5) ∧ some (C, (2 : Int)) = some (C', v) ∧ tX pz ml mh u (some (X, 0)) = some (X, v) ∧ (v = 0 → ∃ es, Rb B p es ∧ (depth + 1 < L → GoodCh S (([], B p 2) :: es))) := by
        refine ⟨C, 2, F3_refl, by omega, rfl, ?_, fun q => by omega⟩
        unfold tX
        rw [bd_some, tEq (by omega)]
      have ec : ∀ s0 : Int, eC p cl ch s0 C = cEq (B p 1) 0 (cEq s0 0 (some (C, 2)) (tC p cl ch C)) (tC p cl ch C) := by
        intro s0
        unfold eC
        rw [ck_ent h hp, bd_some]
      rw [isRead_eq, a1, bd_some, ck_sort h hp, bd_some, ec, ec]
      by_cases k2 : B p 1 = 0
      · rw [tEq (a := B p 1) (b := 0) (by omega), tEq (a := B p 1) (b := 0) (by omega), tEq (a := B p 1) (b := 0) (by omega), fEq (a := 1) (b := 0) (by omega), tEq (a := 0) (b := 0) (by omega), hrx, hLx]
        by_cases k3 : depth = 0
        · have k4 := hrt.mp k3
          rw [tEq (a := dz) (by omega), tEq (a := pz) (by omega)]
          rcases hu with hu | hu
          · rw [tEq (a := B p 0) (b := 1) (by omega), fLt (by omega)]
            exact fin
          · rw [fEq (a := B p 0) (b := 1) (by omega), tLt (by omega)]
            exact bad
        · have k4 : p ≠ root := fun q => k3 (hrt.mpr q)
          rw [fEq (a := dz) (b := 0) (by omega), fEq (a := pz) (by omega)]
          exact bad
      · rw [fEq (a := B p 1) (b := 0) (by omega), fEq (a := B p 1) (b := 0) (by omega), fEq (a := B p 1) (b := 0) (by omega)]
        by_cases k3 : depth = 0
        · rw [tEq (a := dz) (by omega)]
          rcases hu with hu | hu
          · rw [tEq (a := B p 0) (b := 1) (by omega)]
            exact fin
          · rw [fEq (a := B p 0) (b := 1) (by omega)]
            exact fin
        · rw [fEq (a := dz) (b := 0) (by omega)]
          exact fin
    · rw [fEq (a := B p 0) (b := u) (by omega), fEq (a := B p 0) (b := u) (by omega)]
      exact ⟨C, 1, F3_refl, by omega, rfl, rfl, fun q => by omega⟩
  rw [why_eq, whyX_eq, ck_sort h hp, bd_some]
  unfold f_X1_isLast
  rw [hL, hLx]
  by_cases k : depth + 1 < L
  · rw [tLt (a := dz) (by omega), bd_some, tEq (a := 0) (by omega), fEq (a := dz) (by omega)]
    exact main 2 (Or.inr ⟨rfl, k⟩)
  · rw [fLt (a := dz) (by omega), bd_some, fEq (a := 1) (by omega), tEq (a := dz) (by omega)]
    exact main 1 (Or.inl ⟨rfl, by omega⟩)
end K5
end
section
/-! CHECK 6: the walk, its stack. -/
def Rw (X : Mem) (B : By) : Prop := R32 (X 95 16) ∧ ∀ p, p < 32 → ∀ j, j < 64 → B p j = if ((64 * p + j : Nat) : Int) = X 95 16 then X 95 17 else X 96 (64 * p + j)
abbrev Frm : Type := Int × Int × Int × Int
def Stk (X : Mem) : List Frm → Prop
  | [] => True
  | f :: r => X 105 r.length = f.1 ∧ X 106 r.length = f.2.1 ∧ X 107 r.length = f.2.2.1 ∧ X 108 r.length = f.2.2.2 ∧ Stk X r
def FrS (X X' : Mem) : Prop := ∀ a b, ¬ (a = 95 ∧ b = 19) → a ≠ 105 → a ≠ 106 → a ≠ 107 → a ≠ 108 → X' a b = X a b
def FrW (C C' : Mem) : Prop := ∀ x y, x ≠ 16 → x ≠ 17 → x ≠ 23 → x ≠ 24 → ¬ (x = 3 ∧ y = 4) → C' x y = C x y
def FrV (X X' : Mem) : Prop := ∀ a b, ¬ (a = 95 ∧ b = 19) → ¬ (a = 95 ∧ b = 24) → (a < 104 ∨ 109 < a) → X' a b = X a b
section K6
variable {C X X' : Mem} {B : By} {p q : Nat} {es : List Ent} {r : List Frm}
theorem Rw_Rd (h : Rw X B) : RdX X B := by
  intro p hp j hj a b ha hb
  have h1 := h.1
  unfold f_X8_as
  rw [h.2 p hp j hj]
  by_cases k : ((64 * p + j : Nat) : Int) = X 95 16
  · rw [tEq (by omega), if_pos k]
  · rw [fEq (by omega), if_neg k, ix_t (by omega), show (64 * a + b).toNat = 64 * p + j by omega]
theorem Rw_fr (h : Rw X B) (h1 : ∀ b, X' 96 b = X 96 b) (h2 : X' 95 16 = X 95 16) (h3 : X' 95 17 = X 95 17) : Rw X' B := ⟨by rw [h2]; exact h.1, fun p hp j hj => by rw [h1, h2, h3]; exact h.2 p hp j hj⟩
theorem Stk_fr : ∀ (r : List Frm), Stk X r → (∀ a k, 105 ≤ a → a ≤ 108 → k < r.length → X' a k = X a k) → Stk X' r
  | [], _, _ => trivial
  | f :: r, h, g => by
    have hl : r.length < (f :: r).length := by simp
    refine ⟨by rw [g 105 _ (by omega) (by omega) hl]; exact h.1, by rw [g 106 _ (by omega) (by omega) hl]; exact h.2.1, by rw [g 107 _ (by omega) (by omega) hl]; exact h.2.2.1, by rw [g 108 _ (by omega) (by omega) hl]; exact h.2.2.2.1, ?_⟩
    exact Stk_fr r h.2.2.2.2 (fun a k h1 h2 h3 => g a k h1 h2 (by omega))
theorem FrS_refl : FrS X X := fun _ _ _ _ _ _ _ => rfl
theorem FrS_tr {X1 : Mem} (h1 : FrS X X1) (h2 : FrS X1 X') : FrS X X' := fun a b q1 q2 q3 q4 q5 => by rw [h2 a b q1 q2 q3 q4 q5, h1 a b q1 q2 q3 q4 q5]
theorem ca_waits (h : Stk X r) (hl : X 95 19 = (r.length : Int)) (h8 : r.length < 800) (a b c d : Int) : ∃ X', f_X8_waits a b c d X = some (X', 0) ∧ Stk X' ((a, b, c, d) :: r) ∧ X' 95 19 = (r.length : Int) + 1 ∧ FrS X X' := by
  unfold f_X8_waits
  have u : ∀ (M : Mem) (k j : Nat) (z : Int), k ≠ 95 → up M k j z 95 19 = M 95 19 := fun M k j z hk => up_k (by omega)
  have tn : ((r.length : Nat) : Int).toNat = r.length := by omega
  simp only [u _ 105 _ _ (by omega), u _ 106 _ _ (by omega), u _ 107 _ _ (by omega), u _ 108 _ _ (by omega), hl, tn]
  rw [ix_t (by omega), ix_t (by omega), ix_t (by omega), ix_t (by omega)]
  refine ⟨_, rfl, ⟨?_, ?_, ?_, ?_, ?_⟩, ?_, ?_⟩
  · rw [up_k (by omega), up_k (by omega), up_k (by omega), up_k (by omega), up_same]
  · rw [up_k (by omega), up_k (by omega), up_k (by omega), up_same]
  · rw [up_k (by omega), up_k (by omega), up_same]
  · rw [up_k (by omega), up_same]
  · refine Stk_fr r h (fun x k h1 h2 h3 => ?_)
    rw [up_k (by omega), up_j (by omega), up_j (by omega), up_j (by omega), up_j (by omega)]
  · rw [up_same]
  · intro x y q1 q2 q3 q4 q5
    have e : ∀ (M : Mem) (z : Int), up M 95 19 z x y = M x y := fun M z => by unfold up; rw [if_neg q1]
    rw [e, up_k q5, up_k q4, up_k q3, up_k q2]
def frs (p dz mh : Int) : Int → Int → Nat → List Ent → List Frm
  | low, c, _, [] => [(c, dz, low, mh)]
  | low, c, o, e :: b => (c, dz, low, 64 * p + (o : Int)) :: frs p dz mh (64 * p + (o : Int)) e.2 (o + (e.1.length + 2)) b
theorem frs_len {pz dz mh : Int} : ∀ (b : List Ent) (low c : Int) (o : Nat), (frs pz dz mh low c o b).length = b.length + 1
  | [], _, _, _ => rfl
  | e :: b, _, _, _ => by unfold frs; rw [List.length_cons, frs_len b]; rfl
def pend (p dz mh : Int) (o : Nat) : List Ent → List Frm
  | [] => []
  | e :: b => frs p dz mh (64 * p + (o : Int)) e.2 (o + (e.1.length + 2)) b
theorem pend_len {pz dz mh : Int} {o : Nat} (b : List Ent) : (pend pz dz mh o b).length = b.length := by
  cases b with
  | nil => rfl
  | cons e b => unfold pend; rw [frs_len]; rfl
theorem cm_start (h : RdX X B) (hp : p < 32) (hr : Rb B p es) {pz : Int} (hpz : pz = (p : Int)) {K : Int → Int → Mem → Option (Mem × Int)} {u : Int} : ∀ (b a c : List Ent) (n : Nat) (v2 v3 : Int), es = a ++ b ++ c → u = ((a ++ b).length : Int) → b.length < n → v2 = (3 + szs a : Nat) → v3 = (a.length : Int) → f_X8_startAs_5 pz u K n v2 v3 X = K ((3 + szs (a ++ b) : Nat) : Int) u X
  | _, _, _, 0 => by intros; omega
  | [], a, c, n + 1 => by
    intro v2 v3 h1 h2 h3 h4 h5
    have h6 := Rb_len hr
    rw [List.append_nil] at h2 ⊢
    have h7 : a.length ≤ es.length := by rw [h1]; simp
    unfold f_X8_startAs_5
    rw [fLt (by omega), h4, h5, h2]
  | e :: b, a, c, n + 1 => by
    intro v2 v3 h1 h2 h3 h4 h5
    have h6 := Rb_len hr
    have h9 : es.length = a.length + (b.length + 1) + c.length := by rw [h1]; simp; omega
    have hu : u = ((a.length + (b.length + 1) : Nat) : Int) := by rw [h2]; simp
    have h' : Rb B p (a ++ e :: (b ++ c)) := by rw [h1, List.append_assoc] at hr; exact hr
    unfold f_X8_startAs_5
    rw [tLt (by omega), ca_len h hp h' hpz h4, bd_some]
    have q := cm_start h hp hr hpz (K := K) (u := u) b (a ++ [e]) c n (v2 + ((e.1.length : Int) + 2)) (v3 + 1) (by rw [h1]; simp) (by rw [h2]; simp) (by simp at h3; omega) (by rw [szs_app, szs_cons, szs_nil]; omega) (by simp; omega)
    rw [q, List.append_assoc]
    rfl
theorem ca_start (h : RdX X B) (hp : p < 32) {a b : List Ent} (hr : Rb B p (a ++ b)) {pz z : Int} (hpz : pz = (p : Int)) (hz : z = (a.length : Int)) : f_X8_startAs pz z X = some (X, ((3 + szs a : Nat) : Int)) := by
  have hf := FU_eq
  have hl := Rb_len hr
  unfold f_X8_startAs
  rw [cm_start h hp hr hpz (u := z) a [] b FU 3 0 (by simp) (by rw [hz]; simp) (by simp at hl; omega) (by rw [szs_nil]; rfl) (by rfl)]
  rfl
theorem FrS_Rw (h : Rw X B) (hf : FrS X X') : Rw X' B := Rw_fr h (fun b => hf _ _ (by omega) (by omega) (by omega) (by omega) (by omega)) (hf _ _ (by omega) (by omega) (by omega) (by omega) (by omega)) (hf _ _ (by omega) (by omega) (by omega) (by omega) (by omega))
theorem cm_push (hB : ByOk B) (hp : p < 32) (hr : Rb B p es) {pz dz ml mh u5 : Int} (hpz : pz = (p : Int)) (h5 : u5 = (es.length : Int)) (h8 : es.length + 1 + r.length < 800) : ∀ (m : Nat) (a b : List Ent) (n : Nat) (v : Int) (X : Mem), a.length = m → es = a ++ b → v = (m : Int) → m + 1 < n → Rw X B → Stk X (pend pz (dz + 1) mh (3 + szs a) b ++ r) → X 95 19 = (b.length : Int) + r.length → ∃ X', f_X8_childrenWait_12 pz dz ml mh u5 (fun (v6_e12 : Int) (C_e12 : Mem) => (some (C_e12, 0))) n v X = some (X', 0) ∧ Stk X' (frs pz (dz + 1) mh ml (B p 2) 3 es ++ r) ∧ X' 95 19 = (es.length : Int) + 1 + r.length ∧ FrS X X'
  | m, a, b, 0 => by intros; omega
  | m, a, b, n + 1 => by
    intro v X ha he hv hn hw hs h19
    have hl := Rb_len hr
    have hx := Rw_Rd hw
    have hel : es.length = a.length + b.length := by rw [he]; simp
    have hrab : Rb B p (a ++ b) := by rw [← he]; exact hr
    have hlen : (pend pz (dz + 1) mh (3 + szs a) b ++ r).length = b.length + r.length := by rw [List.length_append, pend_len]
    have h19' : X 95 19 = ((pend pz (dz + 1) mh (3 + szs a) b ++ r).length : Int) := by rw [hlen, h19]; simp
    -- the bound above
    have hhigh : ∀ (k : Int → Mem → Option (Mem × Int)), ∃ hh : Int, cEq v u5 (k mh X) (bd (f_X8_startAs pz v X) (fun C62 r62 => k (64 * pz + r62) C62)) = k hh X ∧ ∀ low c : Int, (c, dz + 1, low, hh) :: (pend pz (dz + 1) mh (3 + szs a) b ++ r) = frs pz (dz + 1) mh low c (3 + szs a) b ++ r := by
      intro k
      cases b with
      | nil =>
        refine ⟨mh, by rw [tEq (by simp at hel; omega)], fun low c => rfl⟩
      | cons e b =>
        refine ⟨64 * pz + ((3 + szs a : Nat) : Int), ?_, fun low c => rfl⟩
        rw [fEq (by simp at hel; omega), ca_start hx hp hrab hpz (by omega), bd_some]
    unfold f_X8_childrenWait_12
    rw [fLt (by omega)]
    simp only [jn_eq]
    cases m with
    | zero =>
      have ha0 : a = [] := List.eq_nil_of_length_eq_zero ha
      subst ha0
      obtain ⟨hh, e1, e2⟩ := hhigh (fun s0 C => bd (f_X8_childAs pz v C) (fun C73 r73 => bd (f_X8_waits r73 (dz + 1) ml s0 C73) (fun C83 _ => f_X8_childrenWait_12 pz dz ml mh u5 (fun (v6_e12 : Int) (C_e12 : Mem) => (some (C_e12, 0))) n (v + (-1)) C83)))
      rw [tEq (a := v) (b := 0) (by simp at hv; omega)]
      rw [e1, ca_child hx hp hr hpz (d := []) (c := ([], B p 2)) (r := es) rfl (by simp at hv ⊢; exact hv), bd_some]
      obtain ⟨X1, w1, w2, w3, w4⟩ := ca_waits hs h19' (by rw [hlen]; omega) (B p 2) (dz + 1) ml hh
      rw [w1, bd_some]
      cases n with
      | zero => omega
      | succ n =>
        rw [f_X8_childrenWait_12, tLt (by simp at hv; omega)]
        refine ⟨X1, rfl, ?_, ?_, w4⟩
        · rw [e2] at w2
          rw [List.nil_append] at he
          rw [← he] at w2
          exact w2
        · rw [w3, hlen, hel]; simp; omega
    | succ m =>
      obtain ⟨a', g, hag⟩ : ∃ a' g, a = a' ++ [g] := ⟨a.dropLast, a.getLast (by intro q; rw [q] at ha; simp at ha), by rw [List.dropLast_concat_getLast]⟩
      subst hag
      have ha' : a'.length = m := by simp at ha; omega
      have he' : es = a' ++ (g :: b) := by rw [he]; simp
      have hs' : szs (a' ++ [g]) = szs a' + (g.1.length + 2) := by rw [szs_app, szs_cons, szs_nil]
      obtain ⟨hh, e1, e2⟩ := hhigh (fun s0 C => bd (f_X8_childAs pz v C) (fun C73 r73 => bd (f_X8_waits r73 (dz + 1) (64 * pz + ((3 + szs a' : Nat) : Int)) s0 C73) (fun C83 _ => f_X8_childrenWait_12 pz dz ml mh u5 (fun (v6_e12 : Int) (C_e12 : Mem) => (some (C_e12, 0))) n (v + (-1)) C83)))
      rw [fEq (a := v) (b := 0) (by omega), ca_start hx hp (a := a') (b := g :: b) (by rw [← he']; exact hr) hpz (z := v - 1) (by omega), bd_some]
      rw [e1, ca_child hx hp hr hpz (d := ([], B p 2) :: a') (c := g) (r := b) (by rw [he']; rfl) (by simp; omega), bd_some]
      obtain ⟨X1, w1, w2, w3, w4⟩ := ca_waits hs h19' (by rw [hlen]; omega) g.2 (dz + 1) (64 * pz + ((3 + szs a' : Nat) : Int)) hh
      rw [w1, bd_some]
      obtain ⟨X2, x1, x2, x3, x4⟩ := cm_push hB hp hr (dz := dz) (ml := ml) (mh := mh) hpz h5 h8 m a' (g :: b) n (v + (-1)) X1 ha' he' (by omega) (by omega) (FrS_Rw hw w4) (by
        rw [e2, hs'] at w2
        show Stk X1 (frs pz (dz + 1) mh (64 * pz + ((3 + szs a' : Nat) : Int)) g.2 (3 + szs a' + (g.1.length + 2)) b ++ r)
        rw [show 3 + szs a' + (g.1.length + 2) = 3 + (szs a' + (g.1.length + 2)) by omega]
        exact w2) (by rw [w3, hlen]; simp; omega)
      exact ⟨X2, x1, x2, x3, FrS_tr w4 x4⟩
theorem ca_push (hB : ByOk B) (hp : p < 32) (hr : Rb B p es) {pz dz ml mh : Int} (hpz : pz = (p : Int)) (h8 : es.length + 1 + r.length < 800) (hw : Rw X B) (hs : Stk X r) (h19 : X 95 19 = (r.length : Int)) : ∃ X', f_X8_childrenWait pz dz ml mh X = some (X', 0) ∧ Stk X' (frs pz (dz + 1) mh ml (B p 2) 3 es ++ r) ∧ X' 95 19 = (es.length : Int) + 1 + r.length ∧ FrS X X' := by
  have hf := FU_eq
  have hl := Rb_len hr
  unfold f_X8_childrenWait
  rw [ca_1 (Rw_Rd hw) hp hr hpz, bd_some]
  exact cm_push hB hp hr hpz rfl h8 es.length es [] FU _ X rfl (by simp) rfl (by omega) hw hs (by rw [h19]; simp)
end K6
end
section
/-! CHECK 7: the walk down, both sides. -/
def St (B : By) (root L : Nat) (C X : Mem) (S : Nat → Int) (m : Nat) : Prop := RdC C B ∧ Rw X B ∧ (∀ k, k < 32 → C 23 k = S k ∧ X 104 k = S k ∧ (S k = 0 ∨ S k = 1)) ∧ C 1 5 = (L : Int) ∧ X 95 2 = (L : Int) ∧ X 95 1 = (root : Int) ∧ C 3 4 = (m : Int) ∧ X 95 24 = (m : Int) ∧ (∀ k, k < m → C 24 k = X 109 k ∧ 0 ≤ C 24 k ∧ C 24 k < 32) ∧ (m : Int) ≤ sm S 32
def sS (S : Nat → Int) (p : Nat) : Nat → Int := fun k => if k = p then 1 else S k
def Out (B : By) (root L : Nat) (K : Mem → Option (Mem × Int)) (h : Nat) (C X : Mem) (S : Nat → Int) (p : Nat) (r : List Frm) (n : Nat) (oC oX : Option (Mem × Int)) : Prop :=
  (∃ C' X' v, (1 ≤ v ∧ v ≤ 1000) ∧ oC = some (C', v) ∧ oX = some (X', v) ∧ FrW C C' ∧ FrV X X') ∨
  (∃ C' X' S' m' n', oC = some (C', 0) ∧ oX = f_X8_wrongDown_44 K n' X' ∧ St B root L C' X' S' m' ∧ FrW C C' ∧ FrV X X' ∧ X' 95 19 = (r.length : Int) ∧ Stk X' r ∧ (∀ k, S k ≠ 0 → S' k ≠ 0) ∧ S' p ≠ 0 ∧ (h = 0 → ∀ k, k ≠ p → S' k = S k) ∧ (n : Int) + h * sm S 32 ≤ n' + 1 + h * sm S' 32)
def Wk (B : By) (root L : Nat) (K : Mem → Option (Mem × Int)) (h : Nat) : Prop := ∀ (f : Nat) (C X : Mem) (S : Nat → Int) (m p depth : Nat) (pz dz cl ch ml mh : Int) (lo hi : Option (List Int)) (r : List Frm) (n : Nat), h + 1 ≤ f → St B root L C X S m → p < 32 → pz = (p : Int) → dz = (depth : Int) → depth + h + 1 = L → Bnd B lo cl ml → Bnd B hi ch mh → (depth = 0 ↔ p = root) → (p = root ∨ S root ≠ 0) → (h = 0 → S p = 0) → X 95 19 = (r.length : Int) + 1 → Stk X ((pz, dz, ml, mh) :: r) → r.length ≤ 21 * depth → 2 + (h : Int) * 32 ≤ n + h * sm S 32 → Out B root L K h C X S p r n (f_X1_walk f pz dz cl ch C) (f_X8_wrongDown_44 K n X)
section K7
variable {C X C' X' : Mem} {B : By} {p q root L : Nat} {es : List Ent} {r : List Frm} {S S' : Nat → Int} {K : Mem → Option (Mem × Int)}
theorem sm_mono {f g : Nat → Int} : ∀ n, (∀ i, i < n → f i ≤ g i) → sm f n ≤ sm g n
  | 0, _ => by unfold sm; omega
  | n + 1, h => by
    have h1 := sm_mono n (fun i hi => h i (by omega))
    have h2 := h n (by omega)
    unfold sm
    omega
theorem sm_sS (hp : p < 32) : sm (sS S p) 32 = sm S 32 + (1 - S p) := by
  have e : sm (sS S p) 32 = sm (fun i => S i + (if i = p then (fun _ => 1 - S p) i else 0)) 32 := by
    refine sm_c 32 (fun i hi => ?_)
    unfold sS
    by_cases k : i = p
    · rw [if_pos k, if_pos k, k]; dsimp only; omega
    · rw [if_neg k, if_neg k]; omega
  rw [e, sm_add, sm_one, if_pos hp]
theorem sm_kids {R : List Ent} (hg : GoodCh S R) (h0 : ∀ k, k < 32 → S k = 0 ∨ S k = 1) (h1 : ∀ k, k < 32 → S' k = 0 ∨ S' k = 1) (hm : ∀ k, S k ≠ 0 → S' k ≠ 0) (hs : ∀ c ∈ R, S' c.2.toNat ≠ 0) : sm S 32 + R.length ≤ sm S' 32 := by
  have e := sm_ls (g := fun _ => 1) R hg.2 (fun e he => ⟨e.2.toNat, by have := hg.1 e he; omega, by have := hg.1 e he; omega⟩)
  rw [ls_one] at e
  rw [← e, ← sm_add]
  refine sm_mono 32 (fun i hi => ?_)
  have a0 := h0 i hi
  have a1 := h1 i hi
  have a2 := hm i
  by_cases k : (i : Int) ∈ R.map Prod.snd
  · rw [if_pos k]
    obtain ⟨c, hc, e2⟩ := List.mem_map.mp k
    have b1 := hg.1 c hc
    have b2 := hs c hc
    have e3 : c.2.toNat = i := by omega
    rw [e3] at b1 b2
    omega
  · rw [if_neg k]
    omega
theorem sm_kids32 {R : List Ent} (hg : GoodCh S R) (h0 : ∀ k, k < 32 → S k = 0 ∨ S k = 1) : sm S 32 + R.length ≤ 32 := by
  have h := sm_kids (S' := fun _ => 1) hg h0 (fun k _ => Or.inr rfl) (fun k _ => by omega) (fun c _ => by omega)
  have h2 := sm_le (f := fun _ => (1 : Int)) 32 (fun i _ => by omega)
  omega
theorem FrW_refl : FrW C C := fun _ _ _ _ _ _ _ => rfl
theorem FrW_tr {C1 : Mem} (h1 : FrW C C1) (h2 : FrW C1 C') : FrW C C' := fun x y a b c d e => by rw [h2 x y a b c d e, h1 x y a b c d e]
theorem FrV_refl : FrV X X := fun _ _ _ _ _ => rfl
theorem FrV_tr {X1 : Mem} (h1 : FrV X X1) (h2 : FrV X1 X') : FrV X X' := fun x y a b c => by rw [h2 x y a b c, h1 x y a b c]
theorem FrS_V (h : FrS X X') : FrV X X' := fun x y a b c => h x y a (by omega) (by omega) (by omega) (by omega)
theorem F3_W (h : F3 C C') : FrW C C' := fun x y a b _ _ _ => h x y a b
theorem St_S (h : St B root L C X S q) : ∀ k, k < 32 → S k = 0 ∨ S k = 1 := fun k hk => (h.2.2.1 k hk).2.2
theorem St_F3 {m : Nat} (h : St B root L C X S m) (hf : F3 C C') : St B root L C' X S m := by
  obtain ⟨h1, h2, h3, h4, h5, h6, h7, h8, h9, h10⟩ := h
  refine ⟨F3_Rd h1 hf, h2, fun k hk => by rw [hf 23 k (by omega) (by omega)]; exact h3 k hk, by rw [hf _ _ (by omega) (by omega)]; exact h4, h5, h6, by rw [hf _ _ (by omega) (by omega)]; exact h7, h8, fun k hk => by rw [hf 24 k (by omega) (by omega)]; exact h9 k hk, h10⟩
theorem St_FrS {m : Nat} (h : St B root L C X S m) (hf : FrS X X') : St B root L C X' S m := by
  obtain ⟨h1, h2, h3, h4, h5, h6, h7, h8, h9, h10⟩ := h
  refine ⟨h1, FrS_Rw h2 hf, fun k hk => by rw [hf 104 k (by omega) (by omega) (by omega) (by omega) (by omega)]; exact h3 k hk, h4, by rw [hf _ _ (by omega) (by omega) (by omega) (by omega) (by omega)]; exact h5, by rw [hf _ _ (by omega) (by omega) (by omega) (by omega) (by omega)]; exact h6, h7, by rw [hf _ _ (by omega) (by omega) (by omega) (by omega) (by omega)]; exact h8, fun k hk => by rw [hf 109 k (by omega) (by omega) (by omega) (by omega) (by omega)]; exact h9 k hk, h10⟩
/-- a page is come to -/
theorem St_come {m : Nat} {z : Int} (h : St B root L C X S m) (hp : p < 32) : St B root L (up C 23 p 1) (up (up X 95 19 z) 104 p 1) (sS S p) m ∧ FrW C (up C 23 p 1) ∧ FrV X (up (up X 95 19 z) 104 p 1) := by
  have hs := St_S h
  obtain ⟨h1, h2, h3, h4, h5, h6, h7, h8, h9, h10⟩ := h
  have hsm := sm_sS (S := S) hp
  have hsp := hs p hp
  refine ⟨⟨fun q hq j hj => by rw [up_k (by omega)]; exact h1 q hq j hj, Rw_fr h2 (fun b => by rw [up_k (by omega), up_k (by omega)]) (by rw [up_k (by omega), up_j (by omega)]) (by rw [up_k (by omega), up_j (by omega)]), fun k hk => ?_, by rw [up_k (by omega)]; exact h4, by rw [up_k (by omega), up_j (by omega)]; exact h5, by rw [up_k (by omega), up_j (by omega)]; exact h6, by rw [up_k (by omega)]; exact h7, by rw [up_k (by omega), up_j (by omega)]; exact h8, fun k hk => by rw [up_k (by omega), up_k (by omega), up_k (by omega)]; exact h9 k hk, by omega⟩, fun x y _ _ a _ _ => up_k a, fun x y a b c => ?_⟩
  · unfold sS
    by_cases k1 : k = p
    · rw [k1, up_same, up_same, if_pos rfl]
      omega
    · rw [up_j k1, up_j k1, if_neg k1, up_k (by omega)]
      exact h3 k hk
  · rw [up_k (by omega)]
    unfold up
    rw [if_neg a]
/-- one turn of the model's loop -/
theorem wd_step {pz dz ml mh : Int} {n : Nat} (hp : p < 32) (hpz : pz = (p : Int)) (h19 : X 95 19 = (r.length : Int) + 1) (hs : Stk X ((pz, dz, ml, mh) :: r)) (h8 : r.length < 800) : f_X8_wrongDown_44 K (n + 1) X = bd (f_X8_why pz dz ml mh (up (up X 95 19 (r.length : Int)) 104 p 1)) (fun C115 r115 => (cLt 0 (r115) (some (C115, (100 * r115) + pz)) (cLt dz ((C115 95 2) - 1) (bd (f_X8_childrenWait pz dz ml mh C115) (fun C149 _ => (f_X8_wrongDown_44 K n C149))) (ix (C115 95 24) 800 (f_X8_wrongDown_44 K n (up (up C115 (109) (C115 95 24).toNat pz) 95 24 (((up C115 (109) (C115 95 24).toNat pz) 95 24) + 1))))))) := by
  obtain ⟨s1, s2, s3, s4, s5⟩ := hs
  have u : ∀ (k j : Nat) (z : Int), k ≠ 95 → up X 95 19 z k j = X k j := fun k j z hk => up_k hk
  have tn : ((r.length : Nat) : Int).toNat = r.length := by omega
  have ts : (r.length : Int) + 1 - 1 = (r.length : Int) := by omega
  have tp : pz.toNat = p := by omega
  rw [f_X8_wrongDown_44]
  simp only [up_same, u 105 _ _ (by omega), u 106 _ _ (by omega), u 107 _ _ (by omega), u 108 _ _ (by omega), h19, ts, tn]
  rw [tLt (a := 0) (b := (r.length : Int) + 1) (by omega), ix_t (by omega), ix_t (by omega), ix_t (by omega), ix_t (by omega), s1, s2, s3, s4]
  dsimp only
  rw [ix_t (by omega), tp]
end K7
end
section
/-! CHECK 8: children walked, then the whole walk. -/
section K8
variable {C X C' X' : Mem} {B : By} {p q root L : Nat} {es : List Ent} {r : List Frm} {S S' : Nat → Int} {K : Mem → Option (Mem × Int)}
theorem ck_kids {h depth f : Nat} {pz dz cl ch mh : Int} {hi : Option (List Int)} {S0 : Nat → Int} (IH : Wk B root L K h) (hB : ByOk B) (hf : h + 1 ≤ f) (hp : p < 32) (hpz : pz = (p : Int)) (hdz : dz = (depth : Int)) (hdL : depth + 1 + h + 1 = L) (hL32 : L ≤ 32) (hr : Rb B p es) (hg : GoodCh S0 (([], B p 2) :: es)) (hrt : S0 root ≠ 0) (hrl : r.length ≤ 21 * depth) (hhi : Bnd B hi ch mh) : ∀ (b a d : List Ent) (c : Ent) (k : Nat) (v : Int) (C X : Mem) (S : Nat → Int) (m n : Nat) (cl' ml' : Int) (lo' : Option (List Int)), ([], B p 2) :: es = d ++ c :: b → es = a ++ b → a.length = d.length → v = (d.length : Int) → b.length + 1 < k → St B root L C X S m → (∀ t, S0 t ≠ 0 → S t ≠ 0) → (h = 0 → ∀ e ∈ c :: b, S e.2.toNat = 0) → Bnd B lo' cl' ml' → (d.length = 0 → cl' = cl) → (0 < d.length → cl' = pz * 64 + v - 1) → X 95 19 = (b.length : Int) + 1 + r.length → Stk X (frs pz (dz + 1) mh ml' c.2 (3 + szs a) b ++ r) → 2 + (h : Int) * 32 + b.length ≤ n + h * sm S 32 → (∃ C' X' z, (1 ≤ z ∧ z ≤ 1000) ∧ f_X1_walkChildren_13 (f_X1_walk f) pz dz cl ch p (fun (v6_e13 : Int) (C_e13 : Mem) => (some (C_e13, 0))) k v C = some (C', z) ∧ f_X8_wrongDown_44 K n X = some (X', z) ∧ FrW C C' ∧ FrV X X') ∨ (∃ C' X' S' m' n', f_X1_walkChildren_13 (f_X1_walk f) pz dz cl ch p (fun (v6_e13 : Int) (C_e13 : Mem) => (some (C_e13, 0))) k v C = some (C', 0) ∧ f_X8_wrongDown_44 K n X = f_X8_wrongDown_44 K n' X' ∧ St B root L C' X' S' m' ∧ FrW C C' ∧ FrV X X' ∧ X' 95 19 = (r.length : Int) ∧ Stk X' r ∧ (∀ t, S t ≠ 0 → S' t ≠ 0) ∧ (∀ e ∈ c :: b, S' e.2.toNat ≠ 0) ∧ (n : Int) + h * sm S 32 ≤ n' + (b.length + 1) + h * sm S' 32)
  | b, a, d, c, 0 => by intros; omega
  | b, a, d, c, k + 1 => by
    intro v C X S m n cl' ml' lo' hd he had hv hk hSt hS0 hun hlo hc0 hc1 h19 hstk hn
    have hl := Rb_len hr
    have hel : es.length = a.length + b.length := by rw [he]; simp
    have hC := hSt.1
    have hcm : c ∈ ([], B p 2) :: es := by rw [hd]; simp
    have hcg := hg.1 c hcm
    have hrab : Rb B p (a ++ b) := by rw [← he]; exact hr
    have hroot : c.2.toNat ≠ root := fun q => hrt (by rw [← q]; exact hcg.2.2)
    obtain ⟨ch', mh', hi', hhi', hcls, hfr⟩ : ∃ (ch' mh' : Int) (hi' : Option (List Int)), Bnd B hi' ch' mh' ∧ (∀ (j65 : Int → Option (Mem × Int)), cLt v (es.length : Int) (j65 ((pz * 64) + v)) (j65 ch) = j65 ch') ∧ frs pz (dz + 1) mh ml' c.2 (3 + szs a) b = (c.2, dz + 1, ml', mh') :: pend pz (dz + 1) mh (3 + szs a) b := by
      cases b with
      | nil => exact ⟨ch, mh, hi, hhi, fun j => by rw [fLt (by simp at hel; omega)], rfl⟩
      | cons e b =>
        refine ⟨pz * 64 + v, 64 * pz + ((3 + szs a : Nat) : Int), some e.1, Or.inr ⟨p, a, e, b, rfl, hp, hrab, by omega, by omega⟩, fun j => by rw [tLt (by simp at hel; omega)], rfl⟩
    rw [hfr] at hstk
    have hpl : (pend pz (dz + 1) mh (3 + szs a) b ++ r).length = b.length + r.length := by rw [List.length_append, pend_len]
    have hwalk := IH f C X S m c.2.toNat (depth + 1) c.2 (dz + 1) cl' ch' ml' mh' lo' hi' (pend pz (dz + 1) mh (3 + szs a) b ++ r) n hf hSt (by omega) (by omega) (by omega) (by omega) hlo hhi' ⟨fun q => by omega, fun q => absurd q hroot⟩ (Or.inr (hS0 root hrt)) (fun q => hun q c (by simp)) (by rw [hpl, h19]; simp; omega) hstk (by rw [hpl]; omega) (by omega)
    have hclass : f_X1_walkChildren_13 (f_X1_walk f) pz dz cl ch p (fun (v6_e13 : Int) (C_e13 : Mem) => (some (C_e13, 0))) (k + 1) v C = bd (f_X1_walk f c.2 (dz + 1) cl' ch' C) (fun C82 r82 => (cEq (r82) 0 (f_X1_walkChildren_13 (f_X1_walk f) pz dz cl ch p (fun (v6_e13 : Int) (C_e13 : Mem) => (some (C_e13, 0))) k (v + 1) C82) (some (C82, r82)))) := by
      rw [f_X1_walkChildren_13, sp_entries (ck_pg hC hB hp hr), bd_some, fLt (a := (es.length : Int)) (by omega), jn_eq]
      have inner : ∀ s : Int, s = cl' → (bd (f_X4_entries p C) (fun C47 r47 => (jn ((fun (s0_65 : Int) => (bd (f_X4_child p (v) C47) (fun C72 r72 => (bd (f_X1_walk f (r72) (dz + 1) (s) (s0_65) C72) (fun C82 r82 => (cEq (r82) 0 (f_X1_walkChildren_13 (f_X1_walk f) pz dz cl ch p (fun (v6_e13 : Int) (C_e13 : Mem) => (some (C_e13, 0))) k (v + 1) C82) (some (C82, r82)))))))) : Int → Option (Mem × Int)) (fun j65 => (cLt (v) (r47) (j65 ((pz * 64) + v)) (j65 (ch))))))) = bd (f_X1_walk f c.2 (dz + 1) cl' ch' C) (fun C82 r82 => (cEq (r82) 0 (f_X1_walkChildren_13 (f_X1_walk f) pz dz cl ch p (fun (v6_e13 : Int) (C_e13 : Mem) => (some (C_e13, 0))) k (v + 1) C82) (some (C82, r82)))) := by
        intro s hs
        rw [sp_entries (ck_pg hC hB hp hr), bd_some, jn_eq]
        refine Eq.trans (hcls (fun (s0_65 : Int) => (bd (f_X4_child p (v) C) (fun C72 r72 => (bd (f_X1_walk f (r72) (dz + 1) (s) (s0_65) C72) (fun C82 r82 => (cEq (r82) 0 (f_X1_walkChildren_13 (f_X1_walk f) pz dz cl ch p (fun (v6_e13 : Int) (C_e13 : Mem) => (some (C_e13, 0))) k (v + 1) C82) (some (C82, r82))))))))) ?_
        show bd (f_X4_child p v C) _ = _
        rw [ck_child hC hB hp hr hd hv, bd_some, hs]
      by_cases k0 : d.length = 0
      · rw [fLt (a := 0) (b := v) (by omega)]
        exact inner cl (hc0 k0).symm
      · rw [tLt (a := 0) (b := v) (by omega)]
        exact inner _ (hc1 (by omega)).symm
    rw [hclass]
    rcases hwalk with ⟨C', X', z, hz, w1, w2, w3, w4⟩ | ⟨C', X', S', m', n', w1, w2, w3, w4, w5, w6, w7, w8, w9, w10, w11⟩
    · rw [w1, w2, bd_some, fEq (by omega)]
      exact Or.inl ⟨C', X', z, hz, rfl, rfl, w3, w4⟩
    · rw [w1, w2, bd_some, tEq (by omega)]
      cases b with
      | nil =>
        refine Or.inr ⟨C', X', S', m', n', ?_, rfl, w3, w4, w5, w6, w7, w8, fun e he' => by rw [List.mem_singleton.mp he']; exact w9, by simp; omega⟩
        cases k with
        | zero => simp at hk
        | succ k =>
          rw [f_X1_walkChildren_13, sp_entries (ck_pg w3.1 hB hp hr), bd_some, tLt (by simp at hel; omega)]
      | cons e b =>
        have hnd := hg.2
        rw [hd, List.map_append, List.nodup_append, List.map_cons, List.nodup_cons] at hnd
        have ih := ck_kids (cl := cl) IH hB hf hp hpz hdz hdL hL32 hr hg hrt hrl hhi b (a ++ [e]) (d ++ [c]) e k (v + 1) C' X' S' m' n' (pz * 64 + v) (64 * pz + ((3 + szs a : Nat) : Int)) (some e.1) (by rw [hd]; simp) (by rw [he]; simp) (by simp; omega) (by simp; omega) (by simp at hk; omega) w3 (fun t q => w8 t (hS0 t q)) (fun q e' he' => by
            have hem : e' ∈ ([], B p 2) :: es := by rw [hd]; simp; exact Or.inr (Or.inr (by simpa using he'))
            have hge := hg.1 e' hem
            rw [w10 q e'.2.toNat (fun q2 => hnd.2.1.1 (List.mem_map.mpr ⟨e', he', by omega⟩))]
            exact hun q e' (List.mem_cons_of_mem _ he')) (Or.inr ⟨p, a, e, b, rfl, hp, hrab, by omega, by omega⟩) (by simp) (fun _ => by omega) (by rw [w6, hpl]; simp) (by
            rw [szs_app, szs_cons, szs_nil, show 3 + (szs a + (e.1.length + 2 + 0)) = 3 + szs a + (e.1.length + 2) by omega]
            exact w7) (by simp at hn; omega)
        rcases ih with ⟨C2, X2, z, hz, x1, x2, x3, x4⟩ | ⟨C2, X2, S2, m2, n2, x1, x2, x3, x4, x5, x6, x7, x8, x9, x10⟩
        · exact Or.inl ⟨C2, X2, z, hz, x1, x2, FrW_tr w4 x3, FrV_tr w5 x4⟩
        · refine Or.inr ⟨C2, X2, S2, m2, n2, x1, x2, x3, FrW_tr w4 x4, FrV_tr w5 x5, x6, x7, fun t q => x8 t (w8 t q), fun e' he' => ?_, by simp; omega⟩
          rcases List.mem_cons.mp he' with q | q
          · rw [q]; exact x8 _ w9
          · exact x9 e' q
theorem ck_walk (hB : ByOk B) (hr32 : root < 32) (hL32 : L ≤ 32) : ∀ h, Wk B root L K h := by
  intro h
  induction h with
  | zero =>
    intro f C X S m p depth pz dz cl ch ml mh lo hi r n hf hSt hp hpz hdz hdL hlo hhi hrt hrs hun h19 hstk hrl hn
    cases f with
    | zero => omega
    | succ f =>
      cases n with
      | zero => simp at hn
      | succ n =>
        obtain ⟨hS1, hF1, hV1⟩ := St_come (z := (r.length : Int)) hSt hp
        have hsm := sm_sS (S := S) hp
        have hup := hun rfl
        have hS1' := hS1
        obtain ⟨g1, g2, g3, g4, g5, g6, g7, g8, g9, g10⟩ := hS1
        obtain ⟨C2, v, y1, y2, y3, y4, y5⟩ := ck_why (S := sS S p) g1 (Rw_Rd g2) hB hp hpz hdz hlo hhi (fun k hk => ⟨(g3 k hk).1, (g3 k hk).2.2⟩) (fun k hk => (g3 k hk).2) g4 g5 g6 hr32 hL32 (by omega) hrt
        have hle : sm S 32 ≤ 31 := by
          have := sm_le (f := sS S p) 32 (fun i hi => by have := (g3 i hi).2.2; omega)
          omega
        have hm10 := hSt.2.2.2.2.2.2.2.2.2
        unfold Out
        rw [wd_step hp hpz h19 hstk (by omega)]
        show (∃ C' X' v, _ ∧ f_X1_walkB (f_X1_walk f) pz dz cl ch C = _ ∧ _) ∨ (∃ C' X' S' m' n', f_X1_walkB (f_X1_walk f) pz dz cl ch C = _ ∧ _)
        have hcome : f_X1_comeTo pz C = some (up C 23 p 1, 0) := by
          unfold f_X1_comeTo
          rw [fLt (by omega), tLt (by omega), ix_t (by omega), nat2 hpz]
        unfold f_X1_walkB
        rw [sp_pageOf hpz hp, bd_some, hcome, bd_some, y3, bd_some, y4, bd_some]
        have hS2 := St_F3 hS1' y1
        by_cases kv : v = 0
        · rw [tEq (a := v) (by omega), fLt (a := 0) (b := v) (by omega)]
          unfold f_X1_isLast
          rw [hS2.2.2.2.1, fLt (a := dz) (by omega), bd_some, fEq (a := 1) (by omega), g5, fLt (a := dz) (by omega), g8, ix_t (by omega)]
          unfold f_X1_noteLeaf
          have e7 := hS2.2.2.2.2.2.2.1
          rw [e7, tLt (by omega), ix_t (by omega), bd_some, show ((m : Int)).toNat = m by omega]
          have e9 := hS2.2.2.2.2.2.2.2.2.1
          refine Or.inr ⟨_, _, sS S p, m + 1, n, rfl, rfl, ⟨fun q hq j hj => by rw [up_k (by omega), up_k (by omega)]; exact hS2.1 q hq j hj, Rw_fr g2 (fun b => by rw [up_k (by omega), up_k (by omega)]) (by rw [up_j (by omega), up_k (by omega)]) (by rw [up_j (by omega), up_k (by omega)]), fun k hk => by rw [up_k (by omega), up_k (by omega), up_k (by omega), up_k (by omega)]; exact hS2.2.2.1 k hk, by rw [up_k (by omega), up_k (by omega)]; exact hS2.2.2.2.1, by rw [up_j (by omega), up_k (by omega)]; exact g5, by rw [up_j (by omega), up_k (by omega)]; exact g6, by rw [up_same, up_k (by omega), e7]; omega, by rw [up_same, up_k (by omega), g8]; omega, fun k hk => ?_, by omega⟩, ?_, ?_, ?_, ?_, ?_, ?_, ?_, ?_⟩
          · by_cases k1 : k = m
            · rw [k1, up_k (by omega), up_same, up_k (by omega), up_same]; omega
            · rw [up_k (by omega), up_j k1, up_k (by omega), up_j k1]; exact e9 k (by omega)
          · exact FrW_tr hF1 (FrW_tr (F3_W y1) (fun x y a b c d e => by unfold up; rw [if_neg e, if_neg (fun q => d q.1)]))
          · exact FrV_tr hV1 (fun x y a b c => by unfold up; rw [if_neg b, if_neg (fun q => by omega)])
          · rw [up_j (by omega), up_k (by omega), up_k (by omega), up_same]
          · refine Stk_fr r hstk.2.2.2.2 (fun x k h1 h2 h3 => ?_)
            rw [up_k (by omega), up_k (by omega), up_k (by omega), up_k (by omega)]
          · intro k q
            unfold sS
            by_cases k1 : k = p
            · rw [if_pos k1]; omega
            · rw [if_neg k1]; exact q
          · unfold sS; rw [if_pos rfl]; omega
          · intro _ k q
            unfold sS; rw [if_neg q]
          · simp
        · rw [fEq (a := v) (by omega), tLt (a := 0) (b := v) (by omega)]
          exact Or.inl ⟨C2, _, 100 * v + pz, by omega, rfl, rfl, FrW_tr hF1 (F3_W y1), hV1⟩
  | succ h IH =>
    intro f C X S m p depth pz dz cl ch ml mh lo hi r n hf hSt hp hpz hdz hdL hlo hhi hrt hrs hun h19 hstk hrl hn
    cases f with
    | zero => omega
    | succ f =>
      have e1 : ((h + 1 : Nat) : Int) * 32 = h * 32 + 32 := by omega
      have e2 : ∀ z : Int, ((h + 1 : Nat) : Int) * z = h * z + z := fun z => by rw [show ((h + 1 : Nat) : Int) = (h : Int) + 1 by omega, Int.add_mul, Int.one_mul]
      have hle32 : sm S 32 ≤ 32 := sm_le (f := S) 32 (fun i hi => by have := St_S hSt i hi; omega)
      have hmul : (h : Int) * sm S 32 ≤ h * 32 := Int.mul_le_mul_of_nonneg_left hle32 (by omega)
      rw [e1, e2] at hn
      cases n with
      | zero => simp at hn; omega
      | succ n =>
        obtain ⟨hS1, hF1, hV1⟩ := St_come (z := (r.length : Int)) hSt hp
        have hsm := sm_sS (S := S) hp
        have hSp := St_S hSt p hp
        have hS1' := hS1
        obtain ⟨g1, g2, g3, g4, g5, g6, g7, g8, g9, g10⟩ := hS1
        obtain ⟨C2, v, y1, y2, y3, y4, y5⟩ := ck_why (S := sS S p) g1 (Rw_Rd g2) hB hp hpz hdz hlo hhi (fun k hk => ⟨(g3 k hk).1, (g3 k hk).2.2⟩) (fun k hk => (g3 k hk).2) g4 g5 g6 hr32 hL32 (by omega) hrt
        unfold Out
        rw [wd_step hp hpz h19 hstk (by omega)]
        show (∃ C' X' v, _ ∧ f_X1_walkB (f_X1_walk f) pz dz cl ch C = _ ∧ _) ∨ (∃ C' X' S' m' n', f_X1_walkB (f_X1_walk f) pz dz cl ch C = _ ∧ _)
        have hcome : f_X1_comeTo pz C = some (up C 23 p 1, 0) := by
          unfold f_X1_comeTo
          rw [fLt (by omega), tLt (by omega), ix_t (by omega), nat2 hpz]
        unfold f_X1_walkB
        rw [sp_pageOf hpz hp, bd_some, hcome, bd_some, y3, bd_some, y4, bd_some]
        have hS2 := St_F3 hS1' y1
        by_cases kv : v = 0
        · obtain ⟨es, hr, hg⟩ := y5 kv
          have hg := hg (by omega)
          have hl := Rb_len hr
          have hk32 := sm_kids32 hg (St_S hS2)
          simp at hk32
          rw [tEq (a := v) (by omega), fLt (a := 0) (b := v) (by omega)]
          unfold f_X1_isLast
          rw [hS2.2.2.2.1, tLt (a := dz) (by omega), bd_some, tEq (a := 0) (by omega), g5, tLt (a := dz) (by omega)]
          have hstk2 : Stk (up (up X 95 19 (r.length : Int)) 104 p 1) r := Stk_fr r hstk.2.2.2.2 (fun x k h1 h2 h3 => by rw [up_k (by omega), up_k (by omega)])
          obtain ⟨X3, z1, z2, z3, z4⟩ := ca_push (dz := dz) (ml := ml) (mh := mh) hB hp hr hpz (by omega) g2 hstk2 (by rw [up_k (by omega), up_same])
          rw [z1, bd_some]
          unfold f_X1_walkChildren
          rw [sp_pageOf hpz hp, bd_some]
          have hS3 := St_FrS hS2 z4
          have hmul0 : (h : Int) * sm S 32 ≤ h * sm (sS S p) 32 := Int.mul_le_mul_of_nonneg_left (by omega) (by omega)
          have hfu := FU_eq
          have kids := ck_kids (K := K) (depth := depth) (f := f) (pz := pz) (dz := dz) (cl := cl) (ch := ch) (mh := mh) (hi := hi) (S0 := sS S p) (r := r) IH hB (by omega) hp hpz hdz (by omega) hL32 hr hg (by
              unfold sS
              rcases hrs with q | q
              · rw [if_pos q.symm]; omega
              · by_cases k1 : root = p
                · rw [if_pos k1]; omega
                · rw [if_neg k1]; exact q) hrl hhi es [] [] ([], B p 2) FU 0 C2 X3 (sS S p) m n cl ml lo rfl rfl rfl rfl (by omega) hS3 (fun t q => q) (fun _ e he => (hg.1 e he).2.2) hlo (fun _ => rfl) (fun q => by simp at q) z3 z2 (by omega)
          rcases kids with ⟨C', X', z, hz, w1, w2, w3, w4⟩ | ⟨C', X', S', m', n', w1, w2, w3, w4, w5, w6, w7, w8, w9, w10⟩
          · rw [w1, w2, bd_some]
            exact Or.inl ⟨C', X', z, hz, rfl, rfl, FrW_tr hF1 (FrW_tr (F3_W y1) w3), FrV_tr hV1 (FrV_tr (FrS_V z4) w4)⟩
          · rw [w1, w2, bd_some]
            have hkk := sm_kids hg (St_S hS2) (St_S w3) w8 w9
            simp at hkk
            have hmm : ∀ k, S k ≠ 0 → sS S p k ≠ 0 := by
              intro k q
              unfold sS
              by_cases k1 : k = p
              · rw [if_pos k1]; omega
              · rw [if_neg k1]; exact q
            refine Or.inr ⟨C', X', S', m', n', rfl, rfl, w3, FrW_tr hF1 (FrW_tr (F3_W y1) w4), FrV_tr hV1 (FrV_tr (FrS_V z4) w5), w6, w7, fun k q => w8 k (hmm k q), w8 p (by unfold sS; rw [if_pos rfl]; omega), fun q => by omega, ?_⟩
            rw [e2, e2]
            omega
        · rw [fEq (a := v) (by omega), tLt (a := 0) (b := v) (by omega)]
          exact Or.inl ⟨C2, _, 100 * v + pz, by omega, rfl, rfl, FrW_tr hF1 (F3_W y1), hV1⟩
end K8
end
section
/-! CHECK 9: links of the leaves, pages that nobody reaches; the call check. -/
section K9
variable {C X C' X' : Mem} {B : By} {p q root L : Nat} {S : Nat → Int}
theorem ck_next {m : Nat} (hSt : St B root L C X S m) (hB : ByOk B) (hm : m ≤ 32) : ∀ (t n n' : Nat) (v : Int), t ≤ m → v = ((m - t : Nat) : Int) → t < n → t < n' → ∃ z : Int, (0 ≤ z ∧ z ≤ 1000) ∧ f_X1_wrongNext_2 (fun (v1_e2 : Int) (C_e2 : Mem) => (some (C_e2, 0))) n v C = some (C, z) ∧ f_X8_wrongNext_2 (fun (v1_e2 : Int) (C_e2 : Mem) => (some (C_e2, 0))) n' v X = some (X, z)
  | _, 0, _ => by intros; omega
  | _, _, 0 => by intros; omega
  | 0, n + 1, n' + 1 => by
    intro v _ hv _ _
    refine ⟨0, by omega, ?_, ?_⟩
    · rw [f_X1_wrongNext_2, hSt.2.2.2.2.2.2.1, fLt (by omega)]
    · rw [f_X8_wrongNext_2, hSt.2.2.2.2.2.2.2.1, fLt (by omega)]
  | t + 1, n + 1, n' + 1 => by
    intro v ht hv hn hn'
    have e1 := hSt.2.2.2.2.2.2.1
    have e2 := hSt.2.2.2.2.2.2.2.1
    have e3 := hSt.2.2.2.2.2.2.2.2.1
    have f0 := e3 (m - (t + 1)) (by omega)
    have hvn : v.toNat = m - (t + 1) := by omega
    obtain ⟨z, hz, i1, i2⟩ := ck_next hSt hB hm t n n' (v + 1) (by omega) (by omega) (by omega) (by omega)
    have hp : (C 24 (m - (t + 1))).toNat < 32 := by omega
    have hl := hB (C 24 (m - (t + 1))).toNat 2
    have cl : ∀ s : Int, (-2147483648 ≤ s ∧ s < 2147483648) → ∃ z : Int, (0 ≤ z ∧ z ≤ 1000) ∧ (ix (v) 32 (bd (f_X6_pageOf (C (24) (v).toNat) C) (fun C65 r65 => (bd (f_X4_link r65 C65) (fun C68 r68 => (cEq (r68) (s) (f_X1_wrongNext_2 (fun (v1_e2 : Int) (C_e2 : Mem) => (some (C_e2, 0))) n (v + 1) C68) (ix (v) 32 (some (C68, 600 + (C68 (24) (v).toNat)))))))))) = some (C, z) ∧ (ix (v) 800 (bd (f_X8_as (X (109) (v).toNat) (2) X) (fun C43 r43 => (cEq (r43) (s) (f_X8_wrongNext_2 (fun (v1_e2 : Int) (C_e2 : Mem) => (some (C_e2, 0))) n' (v + 1) C43) (ix (v) 800 (some (C43, 600 + (C43 (109) (v).toNat)))))))) = some (X, z) := by
      intro s hs
      rw [ix_t (by omega), ix_t (by omega), hvn, sp_pageOf (i := (C 24 (m - (t + 1))).toNat) (by omega) hp, bd_some, ck_link hSt.1 hp, bd_some, ← f0.1, Rw_Rd hSt.2.1 _ hp 2 (by omega) _ 2 (by omega) (by rfl), bd_some]
      by_cases k : B (C 24 (m - (t + 1))).toNat 2 = s
      · rw [tEq (by omega), tEq (by omega)]
        exact ⟨z, hz, i1, i2⟩
      · rw [fEq (by omega), fEq (by omega), ix_t (by omega), ix_t (by omega), ← f0.1]
        exact ⟨_, by omega, rfl, rfl⟩
    rw [f_X1_wrongNext_2, f_X8_wrongNext_2, e1, e2, tLt (a := v) (b := (m : Int)) (by omega), tLt (a := v) (by omega), tLt (a := v) (b := (m : Int)) (by omega)]
    simp only [jn_eq]
    by_cases k : v + 1 < (m : Int)
    · have f1 := e3 (m - t) (by omega)
      have hvn1 : (v + 1).toNat = m - t := by omega
      rw [tLt (a := v + 1) (b := (m : Int)) (by omega), tLt (a := v + 1) (by omega), tLt (a := v + 1) (b := (m : Int)) (by omega), ix_t (i := v + 1) (by omega), ix_t (i := v + 1) (by omega), hvn1, ← f1.1]
      exact cl _ (by omega)
    · rw [fLt (a := v + 1) (b := (m : Int)) (by omega), fLt (a := v + 1) (b := (m : Int)) (by omega)]
      exact cl 0 (by omega)
theorem ck_blank (h : RdC C B) (hB : ByOk B) (hp : p < 32) : ∀ (m n : Nat) (w : Int), m ≤ 64 → w = ((64 - m : Nat) : Int) → m < n → ((∀ j, 64 - m ≤ j → j < 64 → B p j = 0) ∧ f_X1_isBlank_2 p (fun (v1_e2 : Int) (C_e2 : Mem) => (some (C_e2, 1))) n w C = some (C, 1)) ∨ (¬ (∀ j, 64 - m ≤ j → j < 64 → B p j = 0) ∧ f_X1_isBlank_2 p (fun (v1_e2 : Int) (C_e2 : Mem) => (some (C_e2, 1))) n w C = some (C, 0))
  | _, 0 => by intros; omega
  | 0, n + 1 => by
    intro w _ hw _
    refine Or.inl ⟨fun j _ _ => by omega, ?_⟩
    rw [f_X1_isBlank_2, fLt (by omega)]
  | m + 1, n + 1 => by
    intro w hm hw hn
    have hb := hB p (64 - (m + 1))
    have e1 : f_X4_at p w C = some (C, B p (64 - (m + 1))) := ck_at h hp (by omega) (by omega)
    rw [f_X1_isBlank_2, tLt (by omega), e1, bd_some]
    by_cases c : B p (64 - (m + 1)) = 0
    · rw [tEq (by omega)]
      rcases ck_blank h hB hp m n (w + 1) (by omega) (by omega) (by omega) with ⟨q1, q2⟩ | ⟨q1, q2⟩
      · refine Or.inl ⟨fun j h1 h2 => ?_, q2⟩
        by_cases q : j = 64 - (m + 1)
        · rw [q]; exact c
        · exact q1 j (by omega) h2
      · exact Or.inr ⟨fun k => q1 (fun j h1 h2 => k j (by omega) h2), q2⟩
    · rw [fEq (by omega)]
      exact Or.inr ⟨fun k => c (k _ (by omega) (by omega)), rfl⟩
theorem cm_blank (h : RdX X B) (hB : ByOk B) (hp : p < 32) {pz : Int} (hpz : pz = (p : Int)) {K : Int → Int → Mem → Option (Mem × Int)} : ∀ (m n : Nat) (v2 w : Int), m ≤ 64 → w = ((64 - m : Nat) : Int) → v2 = 0 ∨ v2 = 1 → m < n → ((v2 = 1 ∧ ∀ j, 64 - m ≤ j → j < 64 → B p j = 0) ∧ f_X8_wrongFree_12 pz K n v2 w X = K 1 64 X) ∨ (¬ (v2 = 1 ∧ ∀ j, 64 - m ≤ j → j < 64 → B p j = 0) ∧ f_X8_wrongFree_12 pz K n v2 w X = K 0 64 X)
  | _, 0 => by intros; omega
  | 0, n + 1 => by
    intro v2 w _ hw hv _
    rw [f_X8_wrongFree_12, fLt (by omega), show w = 64 by omega]
    rcases hv with hv | hv
    · exact Or.inr ⟨fun q => by omega, by rw [hv]⟩
    · exact Or.inl ⟨⟨hv, fun j _ _ => by omega⟩, by rw [hv]⟩
  | m + 1, n + 1 => by
    intro v2 w hm hw hv hn
    have hb := hB p (64 - (m + 1))
    have e1 : f_X8_as pz w X = some (X, B p (64 - (m + 1))) := h p hp _ (by omega) _ _ hpz (by omega)
    have ih := fun (s : Int) (hs : s = 0 ∨ s = 1) => cm_blank h hB hp hpz (K := K) m n s (w + 1) (by omega) (by omega) hs (by omega)
    have ih0 : f_X8_wrongFree_12 pz K n 0 (w + 1) X = K 0 64 X := by
      rcases ih 0 (Or.inl rfl) with ⟨q, _⟩ | ⟨_, q⟩
      · exact absurd q.1 (by omega)
      · exact q
    rw [f_X8_wrongFree_12, tLt (by omega)]
    rcases hv with hv | hv
    · rw [tEq (by omega), ih0]
      exact Or.inr ⟨fun q => by omega, rfl⟩
    · rw [fEq (by omega), e1, bd_some]
      by_cases c : B p (64 - (m + 1)) = 0
      · rw [tEq (by omega)]
        rcases ih 1 (Or.inr rfl) with ⟨q1, q2⟩ | ⟨q1, q2⟩
        · refine Or.inl ⟨⟨hv, fun j h1 h2 => ?_⟩, q2⟩
          by_cases q : j = 64 - (m + 1)
          · rw [q]; exact c
          · exact q1.2 j (by omega) h2
        · exact Or.inr ⟨fun k => q1 ⟨rfl, fun j h1 h2 => k.2 j (by omega) h2⟩, q2⟩
      · rw [fEq (by omega), ih0]
        exact Or.inr ⟨fun k => c (k.2 _ (by omega) (by omega)), rfl⟩
theorem ck_stray {m : Nat} (hSt : St B root L C X S m) (hB : ByOk B) : ∀ (t n n' : Nat) (v : Int), t ≤ 32 → v = ((32 - t : Nat) : Int) → t < n → t < n' → ∃ z : Int, f_X1_strayPage_2 (fun (v1_e2 : Int) (C_e2 : Mem) => (some (C_e2, 0))) n v C = some (C, z) ∧ f_X8_wrongFree_2 (fun (v1_e2 : Int) (C_e2 : Mem) => (some (C_e2, 0))) n' v X = some (X, z)
  | _, 0, _ => by intros; omega
  | _, _, 0 => by intros; omega
  | 0, n + 1, n' + 1 => by
    intro v _ hv _ _
    refine ⟨0, ?_, ?_⟩
    · rw [f_X1_strayPage_2, fLt (by omega)]
    · rw [f_X8_wrongFree_2, fLt (by omega)]
  | t + 1, n + 1, n' + 1 => by
    intro v ht hv hn hn'
    have hfu := FU_eq
    have hp : 32 - (t + 1) < 32 := by omega
    have hs := hSt.2.2.1 _ hp
    have hvn : v.toNat = 32 - (t + 1) := by omega
    obtain ⟨z, i1, i2⟩ := ck_stray hSt hB t n n' (v + 1) (by omega) (by omega) (by omega) (by omega)
    rw [f_X1_strayPage_2, f_X8_wrongFree_2, tLt (by omega), tLt (by omega), ix_t (by omega), hvn, hs.1]
    have cb := ck_blank hSt.1 hB hp 64 FU 0 (by omega) (by rfl) (by omega)
    have mb := cm_blank (Rw_Rd hSt.2.1) hB hp hv (K := (fun (v2_e12 : Int) (v3_e12 : Int) (C_e12 : Mem) => (ix (v) 32 (cEq (C_e12 (104) (32 - (t + 1))) 0 (cEq (v2_e12) 0 (some (C_e12, 700 + v)) (f_X8_wrongFree_2 (fun (v1_e2 : Int) (C_e2 : Mem) => (some (C_e2, 0))) n' (v + 1) C_e12)) (f_X8_wrongFree_2 (fun (v1_e2 : Int) (C_e2 : Mem) => (some (C_e2, 0))) n' (v + 1) C_e12))))) 64 FU 1 0 (by omega) (by rfl) (Or.inr rfl) (by omega)
    by_cases k : S (32 - (t + 1)) = 0
    · rw [tEq (a := S (32 - (t + 1))) (by omega), sp_pageOf hv hp, bd_some]
      unfold f_X1_isBlank
      rcases cb with ⟨c1, c2⟩ | ⟨c1, c2⟩
      · rcases mb with ⟨_, m2⟩ | ⟨m1, _⟩
        · rw [c2, bd_some, fEq (a := 1) (by omega), m2, ix_t (by omega), hs.2.1, tEq (a := S (32 - (t + 1))) (by omega), fEq (a := 1) (by omega)]
          exact ⟨z, i1, i2⟩
        · exact absurd ⟨rfl, c1⟩ m1
      · rcases mb with ⟨m1, _⟩ | ⟨_, m2⟩
        · exact absurd m1.2 c1
        · rw [c2, bd_some, tEq (a := 0) (by omega), m2, ix_t (by omega), hs.2.1, tEq (a := S (32 - (t + 1))) (by omega), tEq (a := 0) (by omega)]
          exact ⟨_, rfl, rfl⟩
    · rw [fEq (a := S (32 - (t + 1))) (by omega)]
      have m2 : ∃ g : Int, f_X8_wrongFree_12 v (fun (v2_e12 : Int) (v3_e12 : Int) (C_e12 : Mem) => (ix (v) 32 (cEq (C_e12 (104) (32 - (t + 1))) 0 (cEq (v2_e12) 0 (some (C_e12, 700 + v)) (f_X8_wrongFree_2 (fun (v1_e2 : Int) (C_e2 : Mem) => (some (C_e2, 0))) n' (v + 1) C_e12)) (f_X8_wrongFree_2 (fun (v1_e2 : Int) (C_e2 : Mem) => (some (C_e2, 0))) n' (v + 1) C_e12)))) FU 1 0 X = (fun (v2_e12 : Int) (v3_e12 : Int) (C_e12 : Mem) => (ix (v) 32 (cEq (C_e12 (104) (32 - (t + 1))) 0 (cEq (v2_e12) 0 (some (C_e12, 700 + v)) (f_X8_wrongFree_2 (fun (v1_e2 : Int) (C_e2 : Mem) => (some (C_e2, 0))) n' (v + 1) C_e12)) (f_X8_wrongFree_2 (fun (v1_e2 : Int) (C_e2 : Mem) => (some (C_e2, 0))) n' (v + 1) C_e12)))) g 64 X := by
        rcases mb with ⟨_, m2⟩ | ⟨_, m2⟩
        · exact ⟨1, m2⟩
        · exact ⟨0, m2⟩
      obtain ⟨g, m2⟩ := m2
      rw [m2]
      dsimp only
      rw [ix_t (by omega), hs.2.1, fEq (a := S (32 - (t + 1))) (by omega)]
      exact ⟨z, i1, i2⟩
theorem ck_reset {K : Int → Mem → Option (Mem × Int)} : ∀ (t n : Nat) (v : Int) (C : Mem), t ≤ 32 → v = ((32 - t : Nat) : Int) → t < n → (∀ k, k < 32 - t → C 23 k = 0) → ∃ C', f_X1_firstWrong_2 K n v C = K 32 C' ∧ (∀ k, k < 32 → C' 23 k = 0) ∧ ∀ x y, x ≠ 23 → C' x y = C x y
  | _, 0 => by intros; omega
  | 0, n + 1 => by
    intro v C _ hv _ h0
    refine ⟨C, ?_, fun k hk => h0 k (by omega), fun _ _ _ => rfl⟩
    rw [f_X1_firstWrong_2, fLt (by omega), show v = 32 by omega]
  | t + 1, n + 1 => by
    intro v C _ hv _ h0
    have hvn : v.toNat = 32 - (t + 1) := by omega
    obtain ⟨C', i1, i2, i3⟩ := ck_reset (K := K) t n (v + 1) (up C 23 (32 - (t + 1)) 0) (by omega) (by omega) (by omega) (fun k hk => by
      by_cases q : k = 32 - (t + 1)
      · rw [q, up_same]
      · rw [up_j q]; exact h0 k (by omega))
    refine ⟨C', ?_, i2, fun x y q => by rw [i3 x y q, up_k q]⟩
    rw [f_X1_firstWrong_2, tLt (by omega), ix_t (by omega), hvn, i1]
theorem cm_reset {K : Int → Mem → Option (Mem × Int)} : ∀ (t n : Nat) (v : Int) (C : Mem), t ≤ 32 → v = ((32 - t : Nat) : Int) → t < n → (∀ k, k < 32 - t → C 104 k = 0) → ∃ C', f_X8_wrongDown_12 K n v C = K 32 C' ∧ (∀ k, k < 32 → C' 104 k = 0) ∧ ∀ x y, x ≠ 104 → C' x y = C x y
  | _, 0 => by intros; omega
  | 0, n + 1 => by
    intro v C _ hv _ h0
    refine ⟨C, ?_, fun k hk => h0 k (by omega), fun _ _ _ => rfl⟩
    rw [f_X8_wrongDown_12, fLt (by omega), show v = 32 by omega]
  | t + 1, n + 1 => by
    intro v C _ hv _ h0
    have hvn : v.toNat = 32 - (t + 1) := by omega
    obtain ⟨C', i1, i2, i3⟩ := cm_reset (K := K) t n (v + 1) (up C 104 (32 - (t + 1)) 0) (by omega) (by omega) (by omega) (fun k hk => by
      by_cases q : k = 32 - (t + 1)
      · rw [q, up_same]
      · rw [up_j q]; exact h0 k (by omega))
    refine ⟨C', ?_, i2, fun x y q => by rw [i3 x y q, up_k q]⟩
    rw [f_X8_wrongDown_12, tLt (by omega), ix_t (by omega), hvn, i1]
end K9
end
section
/-! CHECK 10: the call check; the start; all calls agree. -/
section KA
variable {C X C' X' : Mem} {B : By} {p q root L : Nat} {a b c : Int}
theorem both_wrong (hC : RdC C B) (hX : Rw X B) (hB : ByOk B) (h1 : C 1 4 = (root : Int)) (h2 : C 1 5 = (L : Int)) (h3 : X 95 1 = (root : Int)) (h4 : X 95 2 = (L : Int)) (hr : root < 32) (hL1 : 1 ≤ L) (hL32 : L ≤ 32) : ∃ C' X' z, f_X1_firstWrong C = some (C', z) ∧ (bd (f_X8_wrongDown X) (fun C46 r46 => (jn ((fun (s0_65 : Int) (C_65 : Mem) => (cEq (s0_65) 0 (bd (f_X8_wrongFree C_65) (fun C73 r73 => (some (C73, r73)))) (some (C_65, s0_65)))) : Int → Mem → Option (Mem × Int)) (fun j65 => (cEq (r46) 0 (bd (f_X8_wrongNext C46) (fun C57 r57 => (j65 (r57) C57))) (j65 (r46) C46)))))) = some (X', z) ∧ FrW C C' ∧ FrV X X' := by
  have hfu := FU_eq
  unfold f_X1_firstWrong f_X8_wrongDown
  obtain ⟨C1, i1, i2, i3⟩ := ck_reset (K := (fun (v1_e2 : Int) (C_e2 : Mem) => (bd (f_X1_walk 40 ((up C_e2 3 4 (0)) 1 4) (0) (-1) (-1) (up C_e2 3 4 (0))) (fun C37 r37 => (jn ((fun (x1_50 : Int) (C_50 : Mem) => (cEq (x1_50) 0 (bd (f_X1_strayPage C_50) (fun C55 r55 => (some (C55, r55)))) (some (C_50, x1_50)))) : Int → Mem → Option (Mem × Int)) (fun j50 => (cEq (r37) 0 (bd (f_X1_wrongNext C37) (fun C46 r46 => (j50 (r46) C46))) (j50 (r37) C37)))))))) 32 FU 0 C (by omega) (by rfl) (by omega) (fun k hk => by omega)
  obtain ⟨X1, x1, x2, x3⟩ := cm_reset (K := (fun (v1_e12 : Int) (C_e12 : Mem) => (bd (f_X8_waits (C_e12 95 1) (0) (-9) (-9) C_e12) (fun C41 _ => (f_X8_wrongDown_44 (fun (C_e44 : Mem) => (some (C_e44, 0))) FU C41))))) 32 FU 0 (up (up X 95 19 (0)) 95 24 (0)) (by omega) (by rfl) (by omega) (fun k hk => by omega)
  rw [i1, x1]
  have e14 : up C1 3 4 0 1 4 = (root : Int) := by rw [up_k (by omega), i3 _ _ (by omega)]; exact h1
  have e951 : X1 95 1 = (root : Int) := by rw [x3 _ _ (by omega), up_j (by omega), up_j (by omega)]; exact h3
  have e19 : X1 95 19 = (([] : List Frm).length : Int) := by rw [x3 _ _ (by omega), up_j (by omega), up_same]; rfl
  obtain ⟨X2, w1, w2, w3, w4⟩ := ca_waits (r := []) (X := X1) trivial e19 (by simp) (X1 95 1) 0 (-9) (-9)
  rw [w1, bd_some, e14]
  have hV1 : FrV X X2 := by
    intro x y q1 q2 q3
    rw [w4 x y q1 (by omega) (by omega) (by omega) (by omega), x3 x y (by omega)]
    unfold up
    rw [if_neg q2, if_neg q1]
  have hW1 : FrW C (up C1 3 4 0) := by
    intro x y _ _ q3 _ q5
    unfold up
    rw [if_neg q5, i3 x y q3]
  have hSt : St B root L (up C1 3 4 0) X2 (fun _ => 0) 0 := by
    refine ⟨fun q hq j hj => ?_, Rw_fr hX (fun b => hV1 _ _ (by omega) (by omega) (by omega)) (hV1 _ _ (by omega) (by omega) (by omega)) (hV1 _ _ (by omega) (by omega) (by omega)), fun k hk => ⟨?_, ?_, Or.inl rfl⟩, ?_, ?_, ?_, ?_, ?_, fun k hk => by omega, ?_⟩
    · rw [hW1 _ _ (by omega) (by omega) (by omega) (by omega) (by omega)]; exact hC q hq j hj
    · rw [up_k (by omega)]; exact i2 k hk
    · rw [w4 _ _ (by omega) (by omega) (by omega) (by omega) (by omega)]; exact x2 k hk
    · rw [hW1 _ _ (by omega) (by omega) (by omega) (by omega) (by omega)]; exact h2
    · rw [hV1 _ _ (by omega) (by omega) (by omega)]; exact h4
    · rw [hV1 _ _ (by omega) (by omega) (by omega)]; exact h3
    · rw [up_same]; rfl
    · rw [w4 _ _ (by omega) (by omega) (by omega) (by omega) (by omega), x3 _ _ (by omega), up_same]; rfl
    · rw [sm_zero]; simp
  have hz0 : sm (fun _ => (0 : Int)) 32 = 0 := sm_zero 32
  rw [e951] at w2
  have wk := ck_walk (K := (fun (C_e44 : Mem) => (some (C_e44, 0)))) hB hr hL32 (L - 1) 40 (up C1 3 4 0) X2 (fun _ => 0) 0 root 0 (root : Int) 0 (-1) (-1) (-9) (-9) none none [] FU (by omega) hSt hr rfl rfl (by omega) (Or.inl ⟨rfl, rfl, rfl⟩) (Or.inl ⟨rfl, rfl, rfl⟩) ⟨fun _ => rfl, fun _ => rfl⟩ (Or.inl rfl) (fun _ => rfl) (by rw [w3]) w2 (by simp) (by rw [hz0, Int.mul_zero]; omega)
  simp only [jn_eq]
  rcases wk with ⟨C', X', z, hz, u1, u2, u3, u4⟩ | ⟨C', X', S', m', n', u1, u2, u3, u4, u5, u6, u7, u8, u9, u10, u11⟩
  · rw [u1, u2, bd_some, bd_some, fEq (a := z) (by omega), fEq (a := z) (by omega), fEq (a := z) (by omega), fEq (a := z) (by omega)]
    exact ⟨C', X', z, rfl, rfl, FrW_tr hW1 u3, FrV_tr hV1 u4⟩
  · have hle : sm S' 32 ≤ 32 := sm_le (f := S') 32 (fun i hi => by have := St_S u3 i hi; omega)
    have hmul : ((L - 1 : Nat) : Int) * sm S' 32 ≤ ((L - 1 : Nat) : Int) * 32 := Int.mul_le_mul_of_nonneg_left hle (by omega)
    rw [hz0, Int.mul_zero] at u11
    have hm32 : m' ≤ 32 := by have := u3.2.2.2.2.2.2.2.2.2; omega
    rw [u1, u2, bd_some]
    cases n' with
    | zero => omega
    | succ n' =>
      rw [f_X8_wrongDown_44, fLt (a := 0) (b := X' 95 19) (by rw [u6]; simp), bd_some, tEq (a := 0) (by omega), tEq (a := 0) (by omega)]
      obtain ⟨z, hz, v1, v2⟩ := ck_next u3 hB hm32 m' FU FU 0 (by omega) (by omega) (by omega) (by omega)
      obtain ⟨y, y1, y2⟩ := ck_stray u3 hB 32 FU FU 0 (by omega) (by rfl) (by omega) (by omega)
      unfold f_X1_wrongNext f_X8_wrongNext f_X1_strayPage f_X8_wrongFree
      rw [v1, v2, bd_some, bd_some]
      by_cases k : z = 0
      · rw [tEq (a := z) (by omega), tEq (a := z) (by omega), y1, y2, bd_some, bd_some]
        exact ⟨C', X', y, rfl, rfl, FrW_tr hW1 u4, FrV_tr hV1 u5⟩
      · rw [fEq (a := z) (by omega), fEq (a := z) (by omega)]
        exact ⟨C', X', z, rfl, rfl, FrW_tr hW1 u4, FrV_tr hV1 u5⟩
theorem Inv_chk (h : Inv C X) (h1 : ∀ x y, (x < 10 ∨ x = 25 ∨ (61 ≤ x ∧ x < 93)) → ¬ (x = 3 ∧ y = 4) → C' x y = C x y) (h2 : ∀ a b, (a = 96 ∨ (a = 95 ∧ (b < 6 ∨ b = 30)) ∨ 110 ≤ a) → X' a b = X a b) : Inv C' X' := by
  obtain ⟨t1, t2, t3, t4⟩ := h
  have img : ∀ k, k < 2 → ImgOk C X k → ImgOk C' X' k := by
    intro k hk h
    rcases h with ⟨q1, q2⟩ | ⟨q1, P, root, L, g1, g2, g3, g4, g5, g6, g7⟩
    · exact Or.inl ⟨by rw [h1 _ _ (by omega) (by omega)]; exact q1, by rw [h2 _ _ (by omega)]; exact q2⟩
    · refine Or.inr ⟨by rw [h1 _ _ (by omega) (by omega)]; exact q1, P, root, L, g1, ?_, ?_, ?_, ?_, ?_, ?_⟩
      · rw [h1 _ _ (by omega) (by omega)]; exact g2
      · rw [h1 _ _ (by omega) (by omega)]; exact g3
      · rw [h2 _ _ (by omega)]; exact g4
      · rw [h2 _ _ (by omega)]; exact g5
      · intro i hi j hj; rw [h1 _ _ (by omega) (by omega)]; exact g6 i hi j hj
      · intro i hi j hj; rw [h2 _ _ (by omega)]; exact g7 i hi j hj
  refine ⟨Tree_kp t1 (fun x y q => h1 x y (by omega) (by omega)) (fun x y q => h2 x y (by omega)), ?_, img 0 (by omega) t3, img 1 (by omega) t4⟩
  obtain ⟨n, n1, n2, n3, n4⟩ := t2
  refine ⟨n, n1, ?_, ?_, ?_⟩
  · rw [h1 _ _ (by omega) (by omega)]; exact n2
  · rw [h2 _ _ (by omega)]; exact n3
  · intro j hj
    rw [h1 _ _ (by omega) (by omega), h2 _ _ (by omega)]; exact n4 j hj
theorem ag_check (h : Inv C X) (ha : R32 a) (hb : R32 b) (hc : R32 c) : Agree Inv (f_X7_check a b c C) (f_X8_check a b c X) := by
  unfold f_X7_check f_X8_check
  rw [sp_isPage ha, mx_isPage ha, bd_some, bd_some, cEq_b, cEq_b]
  by_cases k1 : 0 ≤ a ∧ a ≤ 31
  · rw [if_pos k1, if_pos k1, sp_within hb (by simp only [R32]; omega) (by simp only [R32]; omega), mx_within hb (by simp only [R32]; omega) (by simp only [R32]; omega), bd_some, bd_some, cEq_b, cEq_b]
    by_cases k2 : 0 ≤ b ∧ b ≤ 63
    · rw [if_pos k2, if_pos k2, sp_isByte hc, mx_within hc (by simp only [R32]; omega) (by simp only [R32]; omega), bd_some, bd_some, cEq_b, cEq_b]
      by_cases k3 : 0 ≤ c ∧ c ≤ 255
      · rw [if_pos k3, if_pos k3]
        obtain ⟨P, root, L, d1, d2, d3, r1, r2, V, lvl, hg⟩ := h.1
        have ho := hg.1.1
        have hai : a = ((a.toNat : Nat) : Int) := by omega
        have ha32 : a.toNat < 32 := by omega
        have hpl := pl_32 ha32
        have hbn : b.toNat < 64 := by omega
        have hpC := TC_pg ho r1.1 ha32
        rw [sp_pageOf hai ha32, bd_some, sp_at hpC (by omega) (by omega), bd_some]
        have hset : ∀ (M : Mem) (z : Int), f_X4_set a.toNat b z M = some (up M (61 + a.toNat) b.toNat z, 0) := by
          intro M z
          unfold f_X4_set
          rw [hpl, fLt (by omega), tLt (by omega), ix_t (by omega)]
        rw [hset, bd_some]
        obtain ⟨C', X', z, y1, y2, y3, y4⟩ := both_wrong (B := fun p j => if p < 32 ∧ j < 64 then (if p = a.toNat ∧ j = b.toNat then c else eP (P p) j) else 0) (C := up C (61 + a.toNat) b.toNat c) (X := up (up X 95 16 (64 * a + b)) 95 17 c) (root := root) (L := L)
          (by
            intro q hq j hj
            dsimp only
            rw [if_pos ⟨hq, hj⟩]
            unfold up
            by_cases w : q = a.toNat ∧ j = b.toNat
            · rw [if_pos (by omega), if_pos w]
            · rw [if_neg (by omega), if_neg w]
              exact r1.1 q hq j hj)
          (by
            have e1 : up (up X 95 16 (64 * a + b)) 95 17 c 95 16 = 64 * a + b := by rw [up_j (by omega), up_same]
            have e2 : up (up X 95 16 (64 * a + b)) 95 17 c 95 17 = c := by rw [up_same]
            refine ⟨by rw [e1]; simp only [R32]; omega, fun q hq j hj => ?_⟩
            dsimp only
            rw [e1, e2, if_pos ⟨hq, hj⟩, up_k (by omega), up_k (by omega)]
            by_cases w : q = a.toNat ∧ j = b.toNat
            · rw [if_pos w, if_pos (by omega)]
            · rw [if_neg w, if_neg (by omega)]
              exact (r2.1 q hq j hj).symm)
          (by
            intro q j
            dsimp only
            by_cases w1 : q < 32 ∧ j < 64
            · rw [if_pos w1]
              by_cases w : q = a.toNat ∧ j = b.toNat
              · rw [if_pos w]; omega
              · rw [if_neg w]
                obtain ⟨o1, o2, o3, o4⟩ := ho q w1.1
                exact enc_rng o1 (by omega) o4 (by omega)
            · rw [if_neg w1]; omega)
          (by rw [up_k (by omega)]; exact r1.2.1) (by rw [up_k (by omega)]; exact r1.2.2.1) (by rw [up_j (by omega), up_j (by omega)]; exact r2.2.1) (by rw [up_j (by omega), up_j (by omega)]; exact r2.2.2.1) hg.2.2.2.2.2.1 hg.2.2.2.1 hg.2.2.2.2.1
        rw [y1, bd_some, y2, hset, bd_some]
        refine ⟨_, X', z, rfl, rfl, Inv_chk h (fun x y q1 q2 => ?_) (fun x y q => ?_)⟩
        · by_cases w : x = 61 + a.toNat ∧ y = b.toNat
          · obtain ⟨w1, w2⟩ := w
            rw [w1, w2, up_same]
            exact (r1.1 _ ha32 _ hbn).symm
          · have e : ∀ (M : Mem) (g : Int), up M (61 + a.toNat) b.toNat g x y = M x y := fun M g => by unfold up; rw [if_neg w]
            rw [e, y3 x y (by omega) (by omega) (by omega) (by omega) q2, e]
        · rw [y4 x y (by omega) (by omega) (by omega)]
          unfold up
          rw [if_neg (by omega), if_neg (by omega)]
      · rw [if_neg k3, if_neg k3]
        exact ⟨C, X, -1, rfl, rfl, h⟩
    · rw [if_neg k2, if_neg k2]
      exact ⟨C, X, -1, rfl, rfl, h⟩
  · rw [if_neg k1, if_neg k1]
    exact ⟨C, X, -1, rfl, rfl, h⟩
def P0 : Nat → Pg := fun i => if i = 0 then (1, 0, []) else (0, 0, [])
theorem eP0 {i j : Nat} : eP (P0 i) j = if i = 0 ∧ j = 0 then 1 else 0 := by
  unfold eP P0
  by_cases k : i = 0
  · rw [if_pos k]
    by_cases k2 : j = 0
    · rw [if_pos ⟨k, k2⟩, k2]; rfl
    · rw [if_neg (fun q => k2 q.2)]
      unfold enc
      rw [if_neg k2]
      split
      · rfl
      · split
        · rfl
        · exact gd_out (by simp [flat])
  · rw [if_neg k, if_neg (fun q => k q.1)]
    unfold enc
    split
    · rfl
    · split
      · rfl
      · split
        · rfl
        · exact gd_out (by simp [flat])
theorem good0 : Good P0 0 1 (fun _ => [([], 0)]) (fun _ => 0) := by
  have hP0 : P0 0 = (1, 0, []) := rfl
  refine ⟨⟨?_, ?_, ?_, ?_, ?_, ?_⟩, rfl, fun n hn => by omega, by omega, by omega, by omega, fun q => by omega⟩
  · intro i hi
    unfold P0
    by_cases k : i = 0
    · rw [if_pos k]
      exact ⟨fun _ q => absurd q List.not_mem_nil, by simp [szs], by simp, by simp⟩
    · rw [if_neg k]
      exact ⟨fun _ q => absurd q List.not_mem_nil, by simp [szs], by simp, by simp⟩
  · intro n hn e he
    rw [List.mem_singleton.mp he]
    refine ⟨0, rfl, by omega, (by show 0 = n; omega), ?_⟩
    rw [if_pos (by omega), hP0]
  · intro n hn; simp
  · intro i hi hne
    have : i ≠ 0 := fun q => hne 0 (by omega) ([], 0) (by simp) (by rw [q]; rfl)
    unfold P0
    rw [if_neg this]
  · exact ⟨rfl, trivial⟩
  · show (lfs P0 [([], 0)]).Pairwise lt2
    unfold lfs
    simp [P0]
theorem inv0 : Inv C0 X0 := by
  refine ⟨⟨P0, 0, 1, 0, 0, 0, ⟨?_, ?_, ?_, ?_, ?_, ?_⟩, ⟨?_, ?_, ?_, ?_, ?_, ?_⟩, ⟨_, _, good0⟩⟩, ⟨0, by omega, ?_, ?_, fun j hj => by omega⟩, Or.inl ⟨?_, ?_⟩, Or.inl ⟨?_, ?_⟩⟩
  · intro i hi j hj
    rw [eP0]
    unfold C0
    rw [if_neg (by omega)]
    by_cases k : i = 0 ∧ j = 0
    · rw [if_pos (by omega), if_pos k]
    · rw [if_neg (by omega), if_neg k]
  all_goals first | rfl | skip
  · intro i hi j hj
    rw [eP0]
    unfold X0
    rw [if_neg (by omega)]
    by_cases k : i = 0 ∧ j = 0
    · rw [if_pos (by omega), if_pos k]
    · rw [if_neg (by omega), if_neg k]
theorem law_ok : LawOk Inv := by
  intro C X h a b c ha hb hc
  exact ⟨ag_type h ha, ag_clear h, ag_run h, ag_put h ha hb hc, ag_take h ha hb, ag_load h ha hb hc, ag_find h ha hb, ag_rank h ha hb hc, ag_path h ha hb hc, ag_letter h ha hb, ag_value h ha, ag_page h ha hb, ag_byteAt h ha hb, ag_check h ha hb hc, ag_count h ha, ag_digest h, ag_keep h ha, ag_back h ha, ag_times h ha⟩
end KA
end

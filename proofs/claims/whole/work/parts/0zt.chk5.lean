/-! CHECK 5: why a page is wrong, both sides. -/
def tC (p : Nat) (cl ch : Int) (C : Mem) : Option (Mem × Int) := (bd (f_X1_isReadable p C) (fun C54 r54 => (cEq (r54) 0 (some (C54, 2)) (bd (f_X1_rises p C54) (fun C64 r64 => (cEq (r64) 0 (some (C64, 3)) (bd (f_X4_entries p C64) (fun C73 r73 => (cLt 0 (r73) (bd (f_X1_isBetween p (cl) (ch) C73) (fun C84 r84 => (cEq (r84) 0 (some (C84, 4)) (bd (f_X4_sort p C84) (fun C93 r93 => (cEq (r93) (2) (bd (f_X1_hasWrongChild p C93) (fun C102 r102 => (cEq (r102) 0 (some (C102, 0)) (some (C102, 5))))) (some (C93, 0)))))))) (bd (f_X4_sort p C73) (fun C93 r93 => (cEq (r93) (2) (bd (f_X1_hasWrongChild p C93) (fun C102 r102 => (cEq (r102) 0 (some (C102, 0)) (some (C102, 5))))) (some (C93, 0))))))))))))))
def eC (p : Nat) (cl ch s0 : Int) (C : Mem) : Option (Mem × Int) := bd (f_X4_entries p C) (fun C42 r42 => cEq r42 0 (cEq s0 0 (some (C42, 2)) (tC p cl ch C42)) (tC p cl ch C42))
def sC (p : Nat) (dz cl ch s1 r1 : Int) (C6 : Mem) : Option (Mem × Int) := cEq r1 s1 (cEq dz 0 (bd (f_X4_sort p C6) (fun C27 r27 => cEq r27 1 (eC p cl ch 1 C27) (eC p cl ch 0 C27))) (eC p cl ch 0 C6)) (some (C6, 1))
theorem why_eq (p : Nat) (dz cl ch : Int) (C : Mem) : f_X1_whyWrong p dz cl ch C = bd (f_X4_sort p C) (fun C1 r1 => bd (f_X1_isLast dz C1) (fun C6 r6 => cEq r6 0 (sC p dz cl ch 2 r1 C6) (sC p dz cl ch 1 r1 C6))) := rfl
def tX (pz ml mh u : Int) (o : Option (Mem × Int)) : Option (Mem × Int) := (bd o (fun C33 r33 => (cEq (r33) 0 (some (C33, 2)) (bd (f_X8_rises (pz) C33) (fun C43 r43 => (cEq (r43) 0 (some (C43, 3)) (bd (f_X8_isWithin (pz) (ml) (mh) C43) (fun C56 r56 => (cEq (r56) 0 (some (C56, 4)) (cEq (u) (2) (bd (f_X8_hasChildren (pz) C56) (fun C72 r72 => (cEq (r72) 0 (some (C72, 5)) (some (C72, 0))))) (some (C56, 0))))))))))))
def sX (pz dz ml mh u : Int) (C : Mem) : Option (Mem × Int) := bd (f_X8_as pz 0 C) (fun C20 r20 => cEq r20 u (tX pz ml mh u (f_X8_isRead pz dz C20)) (some (C20, 1)))
theorem whyX_eq (pz dz ml mh : Int) (C : Mem) : f_X8_why pz dz ml mh C = cEq dz (C 95 2 - 1) (sX pz dz ml mh 1 C) (sX pz dz ml mh 2 C) := rfl
theorem isRead_eq (pz dz : Int) (C : Mem) : f_X8_isRead pz dz C = bd (f_X8_as pz 1 C) (fun C3 r3 => cEq r3 0 (cEq pz (C3 95 1) (cLt dz (C3 95 2 - 1) (some (C3, 0)) (f_X8_isRead_37 pz r3 (kRx pz) FU 3 0 C3)) (some (C3, 0))) (f_X8_isRead_37 pz r3 (kRx pz) FU 3 0 C3)) := rfl
section K5
variable {C X : Mem} {B : By} {p q : Nat} {es : List Ent} {z pz cl ch ml mh u : Int} {lo hi : Option (List Int)} {S : Nat → Int}
theorem ck_j92 (h : RdC C B) (hx : RdX X B) (hB : ByOk B) (hp : p < 32) (hpz : pz = (p : Int)) (hr : Rb B p es) (hu : u = B p 0) (hu12 : u = 1 ∨ u = 2) (hS : ∀ k, k < 32 → C 23 k = S k ∧ (S k = 0 ∨ S k = 1)) (hSx : ∀ k, k < 32 → X 104 k = S k ∧ (S k = 0 ∨ S k = 1)) : ∃ v : Int, (v = 0 ∨ v = 5) ∧ bd (f_X4_sort p C) (fun C93 r93 => (cEq (r93) (2) (bd (f_X1_hasWrongChild p C93) (fun C102 r102 => (cEq (r102) 0 (some (C102, 0)) (some (C102, 5))))) (some (C93, 0)))) = some (C, v) ∧ cEq u (2) (bd (f_X8_hasChildren (pz) X) (fun C72 r72 => (cEq (r72) 0 (some (C72, 5)) (some (C72, 0))))) (some (X, 0)) = some (X, v) ∧ (v = 0 → u = 2 → GoodCh S (([], B p 2) :: es)) := by
  rw [ck_sort h hp, bd_some, ← hu]
  rcases hu12 with k | k
  · rw [fEq (by omega), fEq (by omega)]
    exact ⟨0, Or.inl rfl, rfl, rfl, fun _ q => by omega⟩
  · rw [tEq (by omega), tEq (by omega)]
    rcases ck_children h hB hp hr hS with ⟨g1, g2⟩ | ⟨g1, g2⟩
    · rcases ca_children hx hB hp hr hpz hSx with ⟨g3, g4⟩ | ⟨g3, g4⟩
      · rw [g2, g4, bd_some, bd_some, tEq (by omega), fEq (by omega)]
        exact ⟨0, Or.inl rfl, rfl, rfl, fun _ _ => g1⟩
      · exact absurd g1 g3
    · rcases ca_children hx hB hp hr hpz hSx with ⟨g3, g4⟩ | ⟨g3, g4⟩
      · exact absurd g3 g1
      · rw [g2, g4, bd_some, bd_some, fEq (by omega), tEq (by omega)]
        exact ⟨5, Or.inr rfl, rfl, rfl, fun q => by omega⟩
theorem ck_tail (h : RdC C B) (hx : RdX X B) (hB : ByOk B) (hp : p < 32) (hpz : pz = (p : Int)) (hlo : Bnd B lo cl ml) (hhi : Bnd B hi ch mh) (hu : u = B p 0) (hu12 : u = 1 ∨ u = 2) (hS : ∀ k, k < 32 → C 23 k = S k ∧ (S k = 0 ∨ S k = 1)) (hSx : ∀ k, k < 32 → X 104 k = S k ∧ (S k = 0 ∨ S k = 1)) : ∃ (C' : Mem) (v : Int), F3 C C' ∧ (0 ≤ v ∧ v ≤ 5) ∧ tC p cl ch C = some (C', v) ∧ tX pz ml mh u (f_X8_isRead_37 pz (B p 1) (kRx pz) FU 3 0 X) = some (X, v) ∧ (v = 0 → ∃ es, Rb B p es ∧ (u = 2 → GoodCh S (([], B p 2) :: es))) := by
  unfold tC tX
  rcases ck_readable h hx hB hp hpz with ⟨es, hr, k1, k2⟩ | ⟨k1, k2⟩
  · rw [k1, k2, bd_some, bd_some, fEq (by omega), fEq (by omega)]
    obtain ⟨C1, f1, g⟩ := ck_rises h hB hp hr
    have h1 := F3_Rd h f1
    have hl := Rb_len hr
    have hS1 : ∀ k, k < 32 → C1 23 k = S k ∧ (S k = 0 ∨ S k = 1) := fun k hk => by rw [f1 23 k (by omega) (by omega)]; exact hS k hk
    rcases g with ⟨g1, g2⟩ | ⟨g1, g2⟩
    · rcases ca_rises hx hp hr hpz with ⟨g3, g4⟩ | ⟨g3, _⟩
      · rw [g2, g4, bd_some, bd_some, fEq (by omega), fEq (by omega), sp_entries (ck_pg h1 hB hp hr), bd_some]
        cases es with
        | nil =>
          rw [fLt (a := 0) (by simp)]
          rcases ca_within hx hp hr hpz hlo hhi with ⟨_, w2⟩ | ⟨w1, _⟩
          · rw [w2, bd_some, fEq (a := 1) (by omega)]
            obtain ⟨v, v1, v2, v3, v4⟩ := ck_j92 h1 hx hB hp hpz hr hu hu12 hS1 hSx
            exact ⟨C1, v, f1, by omega, v2, v3, fun q => ⟨[], hr, v4 q⟩⟩
          · exact absurd (fun e he => absurd he List.not_mem_nil) w1
        | cons e0 r0 =>
          obtain ⟨r1, eL, hL⟩ : ∃ r1 eL, e0 :: r0 = r1 ++ [eL] := ⟨(e0 :: r0).dropLast, (e0 :: r0).getLast (by simp), by rw [List.dropLast_concat_getLast]⟩
          rw [tLt (a := 0) (by simp at hl ⊢; omega)]
          obtain ⟨C2, f2, m⟩ := ck_between h1 hB hp hr rfl hL hlo hhi
          have h2 := F3_Rd h1 f2
          have hS2 : ∀ k, k < 32 → C2 23 k = S k ∧ (S k = 0 ∨ S k = 1) := fun k hk => by rw [f2 23 k (by omega) (by omega)]; exact hS1 k hk
          have hi := InB_all (lo := lo) (hi := hi) g1 rfl hL
          rcases m with ⟨m1, m2⟩ | ⟨m1, m2⟩
          · rcases ca_within hx hp hr hpz hlo hhi with ⟨_, w2⟩ | ⟨w1, _⟩
            · rw [m2, bd_some, fEq (a := 1) (by omega), w2, bd_some, fEq (a := 1) (by omega)]
              obtain ⟨v, v1, v2, v3, v4⟩ := ck_j92 h2 hx hB hp hpz hr hu hu12 hS2 hSx
              exact ⟨C2, v, F3_tr f1 f2, by omega, v2, v3, fun q => ⟨_, hr, v4 q⟩⟩
            · exact absurd (hi.mp m1) w1
          · rcases ca_within hx hp hr hpz hlo hhi with ⟨w1, _⟩ | ⟨_, w2⟩
            · exact absurd (hi.mpr w1) m1
            · rw [m2, bd_some, tEq (a := 0) (by omega), w2, bd_some, tEq (a := 0) (by omega)]
              exact ⟨C2, 4, F3_tr f1 f2, by omega, rfl, rfl, fun q => by omega⟩
      · exact absurd g1 g3
    · rcases ca_rises hx hp hr hpz with ⟨g3, _⟩ | ⟨_, g4⟩
      · exact absurd g3 g1
      · rw [g2, g4, bd_some, bd_some, tEq (by omega), tEq (by omega)]
        exact ⟨C1, 3, f1, by omega, rfl, rfl, fun q => by omega⟩
  · rw [k1, k2, bd_some, bd_some, tEq (by omega), tEq (by omega)]
    exact ⟨C, 2, F3_refl, by omega, rfl, rfl, fun q => by omega⟩
theorem ck_why {root L depth : Nat} {dz : Int} (h : RdC C B) (hx : RdX X B) (hB : ByOk B) (hp : p < 32) (hpz : pz = (p : Int)) (hdz : dz = (depth : Int)) (hlo : Bnd B lo cl ml) (hhi : Bnd B hi ch mh) (hS : ∀ k, k < 32 → C 23 k = S k ∧ (S k = 0 ∨ S k = 1)) (hSx : ∀ k, k < 32 → X 104 k = S k ∧ (S k = 0 ∨ S k = 1)) (hL : C 1 5 = (L : Int)) (hLx : X 95 2 = (L : Int)) (hrx : X 95 1 = (root : Int)) (hr32 : root < 32) (hL32 : L ≤ 32) (hdL : depth + 1 ≤ L) (hrt : depth = 0 ↔ p = root) : ∃ (C' : Mem) (v : Int), F3 C C' ∧ (0 ≤ v ∧ v ≤ 5) ∧ f_X1_whyWrong p dz cl ch C = some (C', v) ∧ f_X8_why pz dz ml mh X = some (X, v) ∧ (v = 0 → ∃ es, Rb B p es ∧ (depth + 1 < L → GoodCh S (([], B p 2) :: es))) := by
  have b0 := hB p 0
  have b1 := hB p 1
  have a0 : f_X8_as pz 0 X = some (X, B p 0) := hx p hp 0 (by omega) pz 0 hpz (by rfl)
  have a1 : f_X8_as pz 1 X = some (X, B p 1) := hx p hp 1 (by omega) pz 1 hpz (by rfl)
  have main : ∀ u : Int, (u = 1 ∧ depth + 1 = L) ∨ (u = 2 ∧ depth + 1 < L) → ∃ (C' : Mem) (v : Int), F3 C C' ∧ (0 ≤ v ∧ v ≤ 5) ∧ sC p dz cl ch u (B p 0) C = some (C', v) ∧ sX pz dz ml mh u X = some (X, v) ∧ (v = 0 → ∃ es, Rb B p es ∧ (depth + 1 < L → GoodCh S (([], B p 2) :: es))) := by
    intro u hu
    unfold sC sX
    rw [a0, bd_some]
    by_cases k1 : B p 0 = u
    · rw [tEq (a := B p 0) (b := u) (by omega), tEq (a := B p 0) (b := u) (by omega)]
      obtain ⟨C', v, t1, t2, t3, t4, t5⟩ := ck_tail h hx hB hp hpz hlo hhi (u := u) (by omega) (by omega) hS hSx
      have fin : ∃ (C' : Mem) (v : Int), F3 C C' ∧ (0 ≤ v ∧ v ≤ 5) ∧ tC p cl ch C = some (C', v) ∧ tX pz ml mh u (f_X8_isRead_37 pz (B p 1) (kRx pz) FU 3 0 X) = some (X, v) ∧ (v = 0 → ∃ es, Rb B p es ∧ (depth + 1 < L → GoodCh S (([], B p 2) :: es))) := ⟨C', v, t1, t2, t3, t4, fun q => by
        obtain ⟨es, e1, e2⟩ := t5 q
        exact ⟨es, e1, fun w => e2 (by omega)⟩⟩
      have bad : ∃ (C' : Mem) (v : Int), F3 C C' ∧ (0 ≤ v ∧ v ≤ 5) ∧ some (C, (2 : Int)) = some (C', v) ∧ tX pz ml mh u (some (X, 0)) = some (X, v) ∧ (v = 0 → ∃ es, Rb B p es ∧ (depth + 1 < L → GoodCh S (([], B p 2) :: es))) := by
        refine ⟨C, 2, F3_refl, by omega, rfl, ?_, fun q => by omega⟩
        unfold tX
        rw [bd_some, tEq (by omega)]
      have ec : ∀ s0 : Int, eC p cl ch s0 C = cEq (B p 1) 0 (cEq s0 0 (some (C, 2)) (tC p cl ch C)) (tC p cl ch C) := by
        intro s0
        unfold eC
        rw [ck_ent h hp, bd_some]
      rw [isRead_eq, a1, bd_some, ck_sort h hp, bd_some, ec, ec]
      by_cases k2 : B p 1 = 0
      · rw [tEq (a := B p 1) (b := 0) (by omega), tEq (a := B p 1) (b := 0) (by omega), tEq (a := B p 1) (b := 0) (by omega), fEq (a := 1) (b := 0) (by omega), tEq (a := 0) (b := 0) (by omega), hrx, hLx]
        by_cases k3 : depth = 0
        · have k4 := hrt.mp k3
          rw [tEq (a := dz) (by omega), tEq (a := pz) (by omega)]
          rcases hu with hu | hu
          · rw [tEq (a := B p 0) (b := 1) (by omega), fLt (by omega)]
            exact fin
          · rw [fEq (a := B p 0) (b := 1) (by omega), tLt (by omega)]
            exact bad
        · have k4 : p ≠ root := fun q => k3 (hrt.mpr q)
          rw [fEq (a := dz) (b := 0) (by omega), fEq (a := pz) (by omega)]
          exact bad
      · rw [fEq (a := B p 1) (b := 0) (by omega), fEq (a := B p 1) (b := 0) (by omega), fEq (a := B p 1) (b := 0) (by omega)]
        by_cases k3 : depth = 0
        · rw [tEq (a := dz) (by omega)]
          rcases hu with hu | hu
          · rw [tEq (a := B p 0) (b := 1) (by omega)]
            exact fin
          · rw [fEq (a := B p 0) (b := 1) (by omega)]
            exact fin
        · rw [fEq (a := dz) (b := 0) (by omega)]
          exact fin
    · rw [fEq (a := B p 0) (b := u) (by omega), fEq (a := B p 0) (b := u) (by omega)]
      exact ⟨C, 1, F3_refl, by omega, rfl, rfl, fun q => by omega⟩
  rw [why_eq, whyX_eq, ck_sort h hp, bd_some]
  unfold f_X1_isLast
  rw [hL, hLx]
  by_cases k : depth + 1 < L
  · rw [tLt (a := dz) (by omega), bd_some, tEq (a := 0) (by omega), fEq (a := dz) (by omega)]
    exact main 2 (Or.inr ⟨rfl, k⟩)
  · rw [fLt (a := dz) (by omega), bd_some, fEq (a := 1) (by omega), tEq (a := dz) (by omega)]
    exact main 1 (Or.inl ⟨rfl, by omega⟩)
end K5

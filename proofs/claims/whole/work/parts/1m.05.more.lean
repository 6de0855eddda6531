/-! ROWS that the walks use: what a call gives back, an entry, Math, switches, longs. -/
theorem lv_args_mem : ∀ {vals : List Value} {b i : Nat} {v : Value}, (∀ w ∈ vals, w.category = 1) → vals[i]? = some v → (b + i, v) ∈ lv_args b vals
  | [], b, i, v, _, h => by simp at h
  | w :: r, b, 0, v, hc, h => by
    simp at h; subst h
    simp [lv_args]
  | w :: r, b, i + 1, v, hc, h => by
    have hw : w.category = 1 := hc w List.mem_cons_self
    have := lv_args_mem (vals := r) (b := b + 1) (i := i) (v := v) (fun x hx => hc x (List.mem_cons_of_mem _ hx)) (by simpa using h)
    simp only [lv_args, List.mem_cons]
    right
    rw [hw]
    rw [show b + (i + 1) = b + 1 + i by omega]
    exact this
def cat1s (vals : List Value) : Bool := vals.all (fun v => v.category == 1)
theorem met_at {l : Launch} {y : MethodName} {cc : ByteArray} {nL d : Nat} {g : GT} {M : Mem} {ret : Option FieldType} {vals : List Value} {Qv : Option Value → Mem → Prop} (m : Nat) {lv : List (Option Value)} (hy : plainName y.cls = true) (hlen : (lg_sl vals).length ≤ nL) (hc : cat1s vals = true) (hlv : vals.map some ++ List.replicate m none = lv)
    (body : ∀ K : KT, Kok K g cc y.cls d → kN K = nL → (kMe K).sig.returnType = ret → kQ K = MQ (kB K) (Qc g Qv) (kA K) (kS K) (kc K) (ks K) (gS g) → Wn K g M 0 lv []) : MetC l y cc nL ret d g vals M Qv := by
  refine met_of (lv := lv) hy hlen (fun i v h => ?_) (fun K hK hN _ hr hQ _ => body K hK hN hr hQ)
  subst hlv
  have h1 : vals[i]? = some v := by
    rw [List.getElem?_append] at h
    split at h
    · simp at h
      exact h
    · rw [List.getElem?_replicate] at h
      split at h <;> cases h
  have := lv_args_mem (vals := vals) (b := 0) (i := i) (v := v) (fun w hw => by have := List.all_eq_true.mp hc w hw; simpa using this) h1
  rwa [Nat.zero_add] at this
section MR
variable {K : KT} {g : GT} {cc : ByteArray} {own : String} {d : Nat} {M : Mem} {pc : Nat} {lv : List (Option Value)} {st : List Value}
theorem kkI {φ : Mem → Mem} {Q : Mem → Int → Prop} (k : ∀ (C : Mem) (z : Int), Q C z → Wn K g (φ C) pc lv (.int (I z) :: st)) : ∀ (v : Option Value) (M' : Mem), QI φ Q v M' → Wn K g M' pc lv (v.toList ++ st) := by
  rintro v M' ⟨C, z, rfl, rfl, h⟩
  exact k C z h
theorem kkV {φ : Mem → Mem} {Q : Mem → Int → Prop} (k : ∀ C : Mem, Q C 0 → Wn K g (φ C) pc lv st) : ∀ (v : Option Value) (M' : Mem), QV φ Q v M' → Wn K g M' pc lv (v.toList ++ st) := by
  rintro v M' ⟨C, rfl, rfl, h⟩
  exact k C h
theorem kkL {φ : Mem → Mem} {Q : Mem → Int → Prop} (k : ∀ (C : Mem) (z : Int), Q C z → Wn K g (φ C) pc lv (.long (LL z) :: st)) : ∀ (v : Option Value) (M' : Mem), QL φ Q v M' → Wn K g M' pc lv (v.toList ++ st) := by
  rintro v M' ⟨C, z, rfl, rfl, h⟩
  exact k C z h
theorem kkP {φ : Mem → Mem} {Q : Mem → Nat → Prop} (k : ∀ (C : Mem) (i : Nat), i < 34 → Q C i → Wn K g (φ C) pc lv (.ref (gA g (27 + i)) :: st)) : ∀ (v : Option Value) (M' : Mem), QP g φ Q v M' → Wn K g M' pc lv (v.toList ++ st) := by
  rintro v M' ⟨C, i, rfl, hi, rfl, h⟩
  exact k C i hi h
theorem pl_lt (i : Nat) : pl i < 2147483648 := by unfold pl; split <;> decide
theorem nar_b {z : Int} (h : z = 0 ∨ z = 1) : narrow .boolean (.int (I z)) = .int (I z) := by
  rcases h with rfl | rfl <;> decide
theorem wpO_bo {α : Type} {a : Int} {x : Option (Mem × α)} {Q : Mem → α → Prop} (h : wpO (bo a x) Q) : (a = 0 ∨ a = 1) ∧ wpO x Q := by
  unfold bo at h
  by_cases hc : a = 0 ∨ a = 1
  · rw [if_pos hc] at h; exact ⟨hc, h⟩
  · rw [if_neg hc] at h; exact (wpO_none h).elim
/-- Math.max, Math.min -/
theorem r_mmax (hK : Kok K g cc own d) {idx : Nat} {a b : Int} (hw : Cond.methodLink own idx Lib.Math.max.name ∈ TB) (h1 : Cond.static Lib.Math.max.name ∈ TB) (h2 : Cond.initialized "java/lang/Math" ∈ TB) (h3 : Cond.code Lib.Math.max.name Lib.Math.max.code 2 (some .int) ∈ TB) (hd1 : 1 ≤ d) (hst : (st.map fun v => v.category).sum ≤ 8) (hr : R32 a ∧ R32 b) (hd : decode cc pc = .ok (.invokestatic idx, 3)) (k : Wn K g M (pc + 3) lv (.int (I (max a b)) :: st)) : Wn K g M pc lv (.int (I b) :: .int (I a) :: st) := by
  intro H locs ls hP hS hl
  have hf := hK.f
  have hlo := hK.l
  refine va_mmax hK.x hK.b (by rw [hK.ml]; exact hl.1.symm) hK.o (hK.t _ hw) (hK.t _ h1) (hK.t _ h2) (hK.t _ h3) (by omega) (by omega) hK.cs.1 hK.cs.2 hd ?_
  have e : (if I a < I b then I b else I a) = I (max a b) := by
    by_cases hc : a < b
    · rw [if_pos ((I_lt hr.1 hr.2).mpr hc), Int.max_eq_right (by omega)]
    · rw [if_neg (fun q => hc ((I_lt hr.1 hr.2).mp q)), Int.max_eq_left (by omega)]
  rw [e]
  exact k H locs ls hP hS hl
theorem r_mmin (hK : Kok K g cc own d) {idx : Nat} {a b : Int} (hw : Cond.methodLink own idx Lib.Math.min.name ∈ TB) (h1 : Cond.static Lib.Math.min.name ∈ TB) (h2 : Cond.initialized "java/lang/Math" ∈ TB) (h3 : Cond.code Lib.Math.min.name Lib.Math.min.code 2 (some .int) ∈ TB) (hd1 : 1 ≤ d) (hst : (st.map fun v => v.category).sum ≤ 8) (hr : R32 a ∧ R32 b) (hd : decode cc pc = .ok (.invokestatic idx, 3)) (k : Wn K g M (pc + 3) lv (.int (I (min a b)) :: st)) : Wn K g M pc lv (.int (I b) :: .int (I a) :: st) := by
  intro H locs ls hP hS hl
  have hf := hK.f
  have hlo := hK.l
  refine va_mmin hK.x hK.b (by rw [hK.ml]; exact hl.1.symm) hK.o (hK.t _ hw) (hK.t _ h1) (hK.t _ h2) (hK.t _ h3) (by omega) (by omega) hK.cs.1 hK.cs.2 hd ?_
  have e : (if I b < I a then I b else I a) = I (min a b) := by
    by_cases hc : b < a
    · rw [if_pos ((I_lt hr.2 hr.1).mpr hc), Int.min_eq_right (by omega)]
    · rw [if_neg (fun q => hc ((I_lt hr.2 hr.1).mp q)), Int.min_eq_left (by omega)]
  rw [e]
  exact k H locs ls hP hS hl
/-- switches -/
theorem r_tabIn (hK : Kok K g cc own d) {dflt lo hi : Int} {offs : Array Int} {len : Nat} {a i off : Int} {t : Nat} (hd : decode cc pc = .ok (.tableswitch dflt lo hi offs, len)) (hr : R32 a) (he : a = i) (h1 : ¬ i < lo) (h2 : ¬ hi < i) (ho : offs[(i - lo).toNat]? = some off) (ht : (pc : Int) + off = (t : Int)) (k : Wn K g M t lv st) : Wn K g M pc lv (.int (I a) :: st) := by
  intro H locs ls hP hS hl
  subst he
  exact lv_tableIn hK.x hK.b hd (by rw [I_to hr]; exact h1) (by rw [I_to hr]; exact h2) (by rw [I_to hr]; exact ho) ht (k H locs ls hP hS hl)
theorem r_tabOut (hK : Kok K g cc own d) {dflt lo hi : Int} {offs : Array Int} {len : Nat} {a : Int} {t : Nat} (hd : decode cc pc = .ok (.tableswitch dflt lo hi offs, len)) (hr : R32 a) (h : a < lo ∨ hi < a) (ht : (pc : Int) + dflt = (t : Int)) (k : Wn K g M t lv st) : Wn K g M pc lv (.int (I a) :: st) := by
  intro H locs ls hP hS hl
  exact lv_tableOut hK.x hK.b hd (by rw [I_to hr]; exact h) ht (k H locs ls hP hS hl)
/-- longs -/
theorem LL_add (a b : Int) : LL a + LL b = LL (a + b) := by unfold LL; exact (Int64.ofInt_add a b).symm
theorem LL_mul (a b : Int) : LL a * LL b = LL (a * b) := by unfold LL; exact (Int64.ofInt_mul a b).symm
theorem I_long {a : Int} (h : R32 a) : (I a).toInt64 = LL a := by
  have h1 : (I a).toInt64 = Int64.ofInt (I a).toInt := by simp
  rw [h1, I_to h]; rfl
theorem r_ladd (hK : Kok K g cc own d) {a b : Int} (hd : decode cc pc = .ok (.ladd, 1)) (k : Wn K g M (pc + 1) lv (.long (LL (a + b)) :: st)) : Wn K g M pc lv (.long (LL b) :: .long (LL a) :: st) :=
  fun H locs ls hP hS hl => lv_ladd hK.x hK.b hd (by rw [LL_add]; exact k H locs ls hP hS hl)
theorem r_lmul (hK : Kok K g cc own d) {a b : Int} (hd : decode cc pc = .ok (.lmul, 1)) (k : Wn K g M (pc + 1) lv (.long (LL (a * b)) :: st)) : Wn K g M pc lv (.long (LL b) :: .long (LL a) :: st) :=
  fun H locs ls hP hS hl => lv_lmul hK.x hK.b hd (by rw [LL_mul]; exact k H locs ls hP hS hl)
theorem r_i2l (hK : Kok K g cc own d) {a : Int} (hr : R32 a) (hd : decode cc pc = .ok (.i2l, 1)) (k : Wn K g M (pc + 1) lv (.long (LL a) :: st)) : Wn K g M pc lv (.int (I a) :: st) :=
  fun H locs ls hP hS hl => lv_i2l hK.x hK.b hd (I_long hr) (k H locs ls hP hS hl)
theorem r_lload_n (hK : Kok K g cc own d) {i : Fin 4} {z : Int64} (hd : decode cc pc = .ok (.lload_n i, 1)) (hv : lv[(i : Nat)]? = some (some (.long z))) (k : Wn K g M (pc + 1) lv (.long z :: st)) : Wn K g M pc lv st :=
  fun H locs ls hP hS hl => lv_lload_n hK.x hK.b hd rfl (hl.2.2 _ _ hv) (k H locs ls hP hS hl)
theorem r_lstore_n (hK : Kok K g cc own d) {i : Fin 4} {z : Int64} {lv' : List (Option Value)} (hd : decode cc pc = .ok (.lstore_n i, 1)) (hn : (i : Nat) + 1 < kN K) (hL : okst lv (i : Nat) = true) (hl' : (lv.set ((i : Nat) + 1) none).set (i : Nat) (some (.long z)) = lv') (k : Wn K g M (pc + 1) lv' st) : Wn K g M pc lv (.long z :: st) := by
  intro H locs ls hP hS hl
  refine lv_lstore_n hK.x hK.b hd rfl hl.has hn rfl (fun ls' h => k H locs ls' hP hS ?_)
  subst hl'
  refine ⟨h.1, h.2.1, fun j w hw => ?_⟩
  rw [List.getElem?_set] at hw
  by_cases hj : (i : Nat) = j
  · rw [if_pos hj] at hw
    split at hw
    · cases hw
      rw [← hj]
      exact h.2.2 ((i : Nat), .long z) List.mem_cons_self
    · cases hw
  · rw [if_neg hj, List.getElem?_set] at hw
    by_cases hj2 : (i : Nat) + 1 = j
    · rw [if_pos hj2] at hw
      split at hw <;> cases hw
    · rw [if_neg hj2] at hw
      refine h.2.2 (j, w) (List.mem_cons_of_mem _ (List.mem_filter.mpr ⟨ta_mem.mpr hw, ?_⟩))
      simp
      refine ⟨fun e => hj e.symm, fun e => hj2 e.symm, ?_⟩
      by_cases hq : j + 1 = (i : Nat)
      · exact Or.inr (okst_cat hL hq hw)
      · exact Or.inl hq
end MR

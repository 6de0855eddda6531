/-! ROWS: an instruction each, over the flat memory. K bundles what a walk holds fixed. -/
abbrev KT : Type := Program × Launch × Env × Room × State × MethodId × Array Value × List Frame × Method × Code × (State → Prop) × Nat × Nat × Nat
def kP (K : KT) : Program := K.1
def kL (K : KT) : Launch := K.2.1
def kE (K : KT) : Env := K.2.2.1
def kR (K : KT) : Room := K.2.2.2.1
def kS (K : KT) : State := K.2.2.2.2.1
def kM (K : KT) : MethodId := K.2.2.2.2.2.1
def kA (K : KT) : Array Value := K.2.2.2.2.2.2.1
def kB (K : KT) : List Frame := K.2.2.2.2.2.2.2.1
def kMe (K : KT) : Method := K.2.2.2.2.2.2.2.2.1
def kC (K : KT) : Code := K.2.2.2.2.2.2.2.2.2.1
def kQ (K : KT) : State → Prop := K.2.2.2.2.2.2.2.2.2.2.1
def kN (K : KT) : Nat := K.2.2.2.2.2.2.2.2.2.2.2.1
def kc (K : KT) : Nat := K.2.2.2.2.2.2.2.2.2.2.2.2.1
def ks (K : KT) : Nat := K.2.2.2.2.2.2.2.2.2.2.2.2.2
def lh (ls : Array Slot) (n : Nat) (lv : List (Option Value)) : Prop := ls.size = n ∧ lv_wf ls ∧ ∀ (i : Nat) (v : Value), lv[i]? = some (some v) → ls[i]? = some (.val v)
def Wn (K : KT) (g : GT) (M : Mem) (pc : Nat) (lv : List (Option Value)) (st : List Value) : Prop :=
  ∀ (H : Heap) (locs : List Loc) (ls : Array Slot), va_P (gD g) vwCl (wsM g M) H → va_S (gS g) (kS K).heap H locs → lh ls (kN K) lv → W (kP K) (kL K) (kE K) (kR K) (kS K) (kM K) (kA K) (kB K) (kMe K) (kC K) H locs (kc K) (ks K) (kQ K) (F0 (kM K) pc ls st)
def rm (d : Nat) : Room := { frames := d, cells := 0, slots := 0, locals := 40 * d }
def Kok (K : KT) (g : GT) (cc : ByteArray) (own : String) (d : Nat) : Prop :=
  (kP K).tables.exec = Jvm.exec ∧ (kC K).code = cc ∧ (kC K).maxLocals = kN K ∧ (kS K).vm.findClass own = some (kM K).cls ∧ (∀ w ∈ TB, w.before (kA K) (kS K) = true) ∧ va_K (gD g) vwCl (tys g) (kS K) ∧ (∀ M : Mem, va_D (gS g) (wsM g M)) ∧ Ext g (kS K) ∧ (kMe K).locks = false ∧ d ≤ (kR K).frames ∧ 40 * d ≤ (kR K).locals ∧ kc K ≤ (kR K).cells ∧ ks K ≤ (kR K).slots
section RW
variable {K : KT} {g : GT} {cc : ByteArray} {own : String} {d : Nat} {M : Mem} {pc : Nat} {lv : List (Option Value)} {st : List Value}
theorem Kok.x (h : Kok K g cc own d) : (kP K).tables.exec = Jvm.exec := h.1
theorem Kok.b (h : Kok K g cc own d) : (kC K).code = cc := h.2.1
theorem Kok.ml (h : Kok K g cc own d) : (kC K).maxLocals = kN K := h.2.2.1
theorem Kok.o (h : Kok K g cc own d) : (kS K).vm.findClass own = some (kM K).cls := h.2.2.2.1
theorem Kok.t (h : Kok K g cc own d) : ∀ w ∈ TB, w.before (kA K) (kS K) = true := h.2.2.2.2.1
theorem Kok.k (h : Kok K g cc own d) : va_K (gD g) vwCl (tys g) (kS K) := h.2.2.2.2.2.1
theorem Kok.dd (h : Kok K g cc own d) (M : Mem) : va_D (gS g) (wsM g M) := h.2.2.2.2.2.2.1 M
theorem Kok.e (h : Kok K g cc own d) : Ext g (kS K) := h.2.2.2.2.2.2.2.1
theorem Kok.lk (h : Kok K g cc own d) : (kMe K).locks = false := h.2.2.2.2.2.2.2.2.1
theorem Kok.f (h : Kok K g cc own d) : d ≤ (kR K).frames := h.2.2.2.2.2.2.2.2.2.1
theorem Kok.l (h : Kok K g cc own d) : 40 * d ≤ (kR K).locals := h.2.2.2.2.2.2.2.2.2.2.1
theorem Kok.cs (h : Kok K g cc own d) : kc K ≤ (kR K).cells ∧ ks K ≤ (kR K).slots := h.2.2.2.2.2.2.2.2.2.2.2
theorem I_add (a b : Int) : I a + I b = I (a + b) := by unfold I; exact (Int32.ofInt_add a b).symm
theorem I_sub (a b : Int) : I a - I b = I (a - b) := by unfold I; exact (Int32.ofInt_sub a b).symm
theorem I_mul (a b : Int) : I a * I b = I (a * b) := by unfold I; exact (Int32.ofInt_mul a b).symm
theorem I_to {a : Int} (h : R32 a) : (I a).toInt = a := by
  unfold I; exact Int32.toInt_ofInt_of_le (by have := h.1; simpa using this) (by have := h.2; simpa using this)
theorem I_lt {a b : Int} (ha : R32 a) (hb : R32 b) : I a < I b ↔ a < b := by rw [Int32.lt_iff_toInt_lt, I_to ha, I_to hb]
theorem I_le {a b : Int} (ha : R32 a) (hb : R32 b) : I a ≤ I b ↔ a ≤ b := by rw [Int32.le_iff_toInt_le, I_to ha, I_to hb]
theorem I_eq {a b : Int} (ha : R32 a) (hb : R32 b) : I a = I b ↔ a = b := by
  constructor
  · intro h
    have := congrArg Int32.toInt h
    rwa [I_to ha, I_to hb] at this
  · intro h; rw [h]
theorem I_0 : (0 : Int32) = I 0 := by decide
theorem R32_0 : R32 0 := by unfold R32; omega
theorem I_nat {a : Int} {n : Nat} (h0 : 0 ≤ a) (h : a < n) (hn : n < 2147483648) : vp_in (I a) n ∧ (I a).toNatClampNeg = a.toNat := by
  have hr : R32 a := ⟨by omega, by omega⟩
  refine ⟨?_, ?_⟩
  · rw [vp_in_iff, I_to hr]; omega
  · show (I a).toInt.toNat = a.toNat
    rw [I_to hr]
/-! pure answers: f's value is none where the machine would throw, or a number is out of its range at a test -/
def wpO {α : Type} (o : Option (Mem × α)) (Q : Mem → α → Prop) : Prop := ∃ C z, o = some (C, z) ∧ Q C z
theorem wpO_some {α : Type} {C : Mem} {z : α} {Q : Mem → α → Prop} (h : wpO (some (C, z)) Q) : Q C z := by
  obtain ⟨C', z', h1, h2⟩ := h
  cases h1; exact h2
theorem wpO_none {α : Type} {Q : Mem → α → Prop} (h : wpO (none : Option (Mem × α)) Q) : False := by
  obtain ⟨C', z', h1, h2⟩ := h
  cases h1
theorem wpO_bd {α β : Type} {o : Option (Mem × α)} {k : Mem → α → Option (Mem × β)} {Q : Mem → β → Prop} (h : wpO (bd o k) Q) : wpO o (fun C z => wpO (k C z) Q) := by
  match o, h with
  | none, h => exact (wpO_none h).elim
  | some (C, z), h => exact ⟨C, z, rfl, h⟩
theorem wpO_ix {α : Type} {i : Int} {n : Nat} {x : Option (Mem × α)} {Q : Mem → α → Prop} (h : wpO (ix i n x) Q) : (0 ≤ i ∧ i < n) ∧ wpO x Q := by
  unfold ix at h
  by_cases hc : 0 ≤ i ∧ i < n
  · rw [if_pos hc] at h; exact ⟨hc, h⟩
  · rw [if_neg hc] at h; exact (wpO_none h).elim
theorem wpO_dv {α : Type} {a : Int} {x : Option (Mem × α)} {Q : Mem → α → Prop} (h : wpO (dv a x) Q) : (0 ≤ a ∧ a < 2147483648) ∧ wpO x Q := by
  unfold dv at h
  by_cases hc : 0 ≤ a ∧ a < 2147483648
  · rw [if_pos hc] at h; exact ⟨hc, h⟩
  · rw [if_neg hc] at h; exact (wpO_none h).elim
theorem wpO_rg {α : Type} {a b : Int} {x : Option (Mem × α)} {Q : Mem → α → Prop} (h : wpO (rg a b x) Q) : (R32 a ∧ R32 b) ∧ wpO x Q := by
  unfold rg at h
  by_cases hc : R32 a ∧ R32 b
  · rw [if_pos hc] at h; exact ⟨hc, h⟩
  · rw [if_neg hc] at h; exact (wpO_none h).elim
theorem wpO_lt {α : Type} {a b : Int} {x y : Option (Mem × α)} {Q : Mem → α → Prop} (h : wpO (cLt a b x y) Q) : (R32 a ∧ R32 b) ∧ (a < b → wpO x Q) ∧ (¬ a < b → wpO y Q) := by
  unfold cLt at h
  by_cases hc : R32 a ∧ R32 b
  · rw [if_pos hc] at h
    refine ⟨hc, fun h1 => ?_, fun h1 => ?_⟩
    · rw [if_pos h1] at h; exact h
    · rw [if_neg h1] at h; exact h
  · rw [if_neg hc] at h; exact (wpO_none h).elim
theorem wpO_eq {α : Type} {a b : Int} {x y : Option (Mem × α)} {Q : Mem → α → Prop} (h : wpO (cEq a b x y) Q) : (R32 a ∧ R32 b) ∧ (a = b → wpO x Q) ∧ (¬ a = b → wpO y Q) := by
  unfold cEq at h
  by_cases hc : R32 a ∧ R32 b
  · rw [if_pos hc] at h
    refine ⟨hc, fun h1 => ?_, fun h1 => ?_⟩
    · rw [if_pos h1] at h; exact h
    · rw [if_neg h1] at h; exact h
  · rw [if_neg hc] at h; exact (wpO_none h).elim
theorem r_jn {α β : Type} {k : α} {b : α → Option (Mem × β)} {Q : Mem → β → Prop} {P : Prop} (J : α → Prop) (h : wpO (jn k b) Q) (hJ : J k) (hb : J k → wpO (b k) Q → P) : P := hb hJ h
/-! locals -/
def okst (lv : List (Option Value)) (i : Nat) : Bool := match i with
  | 0 => true
  | i + 1 => match lv[i]? with
    | some (some v) => !(v.category == 2)
    | _ => true
theorem okst_cat {lv : List (Option Value)} {i j : Nat} (h : okst lv i = true) (hj : j + 1 = i) {v : Value} (hv : lv[j]? = some (some v)) : ¬ v.category = 2 := by
  subst hj
  simp [okst, hv] at h
  exact h
def ta (lv : List (Option Value)) : List (Nat × Value) := (List.range lv.length).filterMap (fun i => match lv[i]? with | some (some v) => some (i, v) | _ => none)
theorem ta_mem {lv : List (Option Value)} {i : Nat} {v : Value} : (i, v) ∈ ta lv ↔ lv[i]? = some (some v) := by
  unfold ta
  rw [List.mem_filterMap]
  constructor
  · rintro ⟨j, hj, h⟩
    split at h
    · rename_i w hw
      cases h; exact hw
    · cases h
  · intro h
    refine ⟨i, List.mem_range.mpr ?_, by rw [h]⟩
    rcases Nat.lt_or_ge i lv.length with q | q
    · exact q
    · rw [List.getElem?_eq_none q] at h; cases h
theorem lh.has {ls : Array Slot} {n : Nat} (h : lh ls n lv) : lv_has ls n (ta lv) := ⟨h.1, h.2.1, fun q hq => h.2.2 q.1 q.2 (ta_mem.mp hq)⟩
theorem lh.sub {ls : Array Slot} {n : Nat} {lv' : List (Option Value)} (h : lh ls n lv) (hs : ∀ (i : Nat) (v : Value), lv'[i]? = some (some v) → lv[i]? = some (some v)) : lh ls n lv' := ⟨h.1, h.2.1, fun i v hv => h.2.2 i v (hs i v hv)⟩
theorem lh.put {ls : Array Slot} {n i : Nat} {v : Value} {lv' : List (Option Value)} (hL : okst lv i = true) (h : lv_has ls n ((i, v) :: (ta lv).filter (fun q => !(q.1 == i) && !(q.1 + 1 == i && q.2.category == 2)))) (hl : lv.set i (some v) = lv') : lh ls n lv' := by
  subst hl
  refine ⟨h.1, h.2.1, fun j w hw => ?_⟩
  rw [List.getElem?_set] at hw
  by_cases hj : i = j
  · subst hj
    rw [if_pos rfl] at hw
    split at hw
    · cases hw
      exact h.2.2 (i, v) List.mem_cons_self
    · cases hw
  · rw [if_neg hj] at hw
    refine h.2.2 (j, w) (List.mem_cons_of_mem _ (List.mem_filter.mpr ⟨ta_mem.mpr hw, ?_⟩))
    simp
    refine ⟨fun e => hj e.symm, ?_⟩
    by_cases hq : j + 1 = i
    · exact Or.inr (okst_cat hL hq hw)
    · exact Or.inl hq
theorem r_sub {lv' : List (Option Value)} (hs : ∀ (i : Nat) (v : Value), lv'[i]? = some (some v) → lv[i]? = some (some v)) (k : Wn K g M pc lv' st) : Wn K g M pc lv st := fun H locs ls hP hS hl => k H locs ls hP hS (hl.sub hs)
/-- fewer locals: place by place -/
def lcut : List (Option Value) → List Bool → List (Option Value)
  | [], _ => []
  | _ :: _, [] => []
  | v :: r, b :: bs => (if b then v else none) :: lcut r bs
theorem lcut_get : ∀ {a : List (Option Value)} {bs : List Bool} (i : Nat) (v : Value), (lcut a bs)[i]? = some (some v) → a[i]? = some (some v)
  | [], _, i, v, h => by simp [lcut] at h
  | _ :: _, [], i, v, h => by simp [lcut] at h
  | x :: r, b :: bs, 0, v, h => by
    cases b <;> simp [lcut] at h
    simp [h]
  | x :: r, b :: bs, i + 1, v, h => by
    have := lcut_get (a := r) (bs := bs) i v (by simpa [lcut] using h)
    simpa using this
theorem r_cut (bs : List Bool) {lv' : List (Option Value)} (hs : lcut lv bs = lv') (k : Wn K g M pc lv' st) : Wn K g M pc lv st := r_sub (fun i v h => lcut_get (bs := bs) i v (by rw [hs]; exact h)) k
/-! constants, locals, stack, arithmetic -/
theorem r_iconst (hK : Kok K g cc own d) {n : Int} (hd : decode cc pc = .ok (.iconst n, 1)) (k : Wn K g M (pc + 1) lv (.int (I n) :: st)) : Wn K g M pc lv st :=
  fun H locs ls hP hS hl => lv_iconst hK.x hK.b hd rfl (k H locs ls hP hS hl)
theorem r_bipush (hK : Kok K g cc own d) {n : Int} (hd : decode cc pc = .ok (.bipush n, 2)) (hv : (Int8.ofInt n).toInt32 = I n) (k : Wn K g M (pc + 2) lv (.int (I n) :: st)) : Wn K g M pc lv st :=
  fun H locs ls hP hS hl => lv_bipush hK.x hK.b hd hv (k H locs ls hP hS hl)
theorem r_sipush (hK : Kok K g cc own d) {n : Int} (hd : decode cc pc = .ok (.sipush n, 3)) (hv : (Int16.ofInt n).toInt32 = I n) (k : Wn K g M (pc + 3) lv (.int (I n) :: st)) : Wn K g M pc lv st :=
  fun H locs ls hP hS hl => lv_sipush hK.x hK.b hd hv (k H locs ls hP hS hl)
theorem r_ldc (hK : Kok K g cc own d) {idx : Nat} {n : Int} (hw : Cond.constant own idx (I n) ∈ TB) (hd : decode cc pc = .ok (.ldc idx, 2)) (k : Wn K g M (pc + 2) lv (.int (I n) :: st)) : Wn K g M pc lv st :=
  fun H locs ls hP hS hl => lv_ldc hK.x hK.b hK.o (hK.t _ hw) hd (k H locs ls hP hS hl)
theorem r_ldc2 (hK : Kok K g cc own d) {idx : Nat} {n : Int} (hw : Cond.constantLong own idx (LL n) ∈ TB) (hd : decode cc pc = .ok (.ldc2_w idx, 3)) (k : Wn K g M (pc + 3) lv (.long (LL n) :: st)) : Wn K g M pc lv st :=
  fun H locs ls hP hS hl => lv_ldc2 hK.x hK.b hK.o (hK.t _ hw) hd (k H locs ls hP hS hl)
theorem r_iload_n (hK : Kok K g cc own d) {i : Fin 4} {z : Int32} (hd : decode cc pc = .ok (.iload_n i, 1)) (hv : lv[(i : Nat)]? = some (some (.int z))) (k : Wn K g M (pc + 1) lv (.int z :: st)) : Wn K g M pc lv st :=
  fun H locs ls hP hS hl => lv_iload_n hK.x hK.b hd rfl (hl.2.2 _ _ hv) (k H locs ls hP hS hl)
theorem r_iload (hK : Kok K g cc own d) {i : Nat} {z : Int32} (hd : decode cc pc = .ok (.iload i, 2)) (hv : lv[i]? = some (some (.int z))) (k : Wn K g M (pc + 2) lv (.int z :: st)) : Wn K g M pc lv st :=
  fun H locs ls hP hS hl => lv_iload hK.x hK.b hd (hl.2.2 _ _ hv) (k H locs ls hP hS hl)
theorem r_aload_n (hK : Kok K g cc own d) {i : Fin 4} {a : Nat} (hd : decode cc pc = .ok (.aload_n i, 1)) (hv : lv[(i : Nat)]? = some (some (.ref a))) (k : Wn K g M (pc + 1) lv (.ref a :: st)) : Wn K g M pc lv st :=
  fun H locs ls hP hS hl => lv_aload_n hK.x hK.b hd rfl (hl.2.2 _ _ hv) (k H locs ls hP hS hl)
theorem r_aload (hK : Kok K g cc own d) {i : Nat} {a : Nat} (hd : decode cc pc = .ok (.aload i, 2)) (hv : lv[i]? = some (some (.ref a))) (k : Wn K g M (pc + 2) lv (.ref a :: st)) : Wn K g M pc lv st :=
  fun H locs ls hP hS hl => lv_aload hK.x hK.b hd (hl.2.2 _ _ hv) (k H locs ls hP hS hl)
theorem r_istore_n (hK : Kok K g cc own d) {i : Fin 4} {z : Int32} {lv' : List (Option Value)} (hd : decode cc pc = .ok (.istore_n i, 1)) (hn : (i : Nat) < kN K) (hL : okst lv (i : Nat) = true) (hl' : lv.set (i : Nat) (some (.int z)) = lv') (k : Wn K g M (pc + 1) lv' st) : Wn K g M pc lv (.int z :: st) :=
  fun H locs ls hP hS hl => lv_istore_n hK.x hK.b hd rfl hl.has hn rfl (fun ls' h => k H locs ls' hP hS (lh.put hL h hl'))
theorem r_istore (hK : Kok K g cc own d) {i : Nat} {z : Int32} {lv' : List (Option Value)} (hd : decode cc pc = .ok (.istore i, 2)) (hn : i < kN K) (hL : okst lv i = true) (hl' : lv.set i (some (.int z)) = lv') (k : Wn K g M (pc + 2) lv' st) : Wn K g M pc lv (.int z :: st) :=
  fun H locs ls hP hS hl => lv_istore hK.x hK.b hd hl.has hn rfl (fun ls' h => k H locs ls' hP hS (lh.put hL h hl'))
theorem r_astore_n (hK : Kok K g cc own d) {i : Fin 4} {a : Nat} {lv' : List (Option Value)} (hd : decode cc pc = .ok (.astore_n i, 1)) (hn : (i : Nat) < kN K) (hL : okst lv (i : Nat) = true) (hl' : lv.set (i : Nat) (some (.ref a)) = lv') (k : Wn K g M (pc + 1) lv' st) : Wn K g M pc lv (.ref a :: st) :=
  fun H locs ls hP hS hl => lv_astore_n hK.x hK.b hd rfl hl.has hn rfl (fun ls' h => k H locs ls' hP hS (lh.put hL h hl'))
theorem r_astore (hK : Kok K g cc own d) {i : Nat} {a : Nat} {lv' : List (Option Value)} (hd : decode cc pc = .ok (.astore i, 2)) (hn : i < kN K) (hL : okst lv i = true) (hl' : lv.set i (some (.ref a)) = lv') (k : Wn K g M (pc + 2) lv' st) : Wn K g M pc lv (.ref a :: st) :=
  fun H locs ls hP hS hl => lv_astore hK.x hK.b hd hl.has hn rfl (fun ls' h => k H locs ls' hP hS (lh.put hL h hl'))
theorem r_iinc (hK : Kok K g cc own d) {i : Nat} {n z : Int} {lv' : List (Option Value)} (hd : decode cc pc = .ok (.iinc i n, 3)) (hn : i < kN K) (hL : okst lv i = true) (hv : lv[i]? = some (some (.int (I z)))) (hl' : lv.set i (some (.int (I (z + n)))) = lv') (k : Wn K g M (pc + 3) lv' st) : Wn K g M pc lv st := by
  intro H locs ls hP hS hl
  obtain ⟨q, hq⟩ := List.getElem?_of_mem (ta_mem.mpr hv)
  exact lv_iinc (k := q) hK.x hK.b hd hl.has hq (v := I (z + n)) (I_add z n) hn rfl (fun ls' h => k H locs ls' hP hS (lh.put hL h hl'))
theorem r_iadd (hK : Kok K g cc own d) {a b : Int} (hd : decode cc pc = .ok (.iadd, 1)) (k : Wn K g M (pc + 1) lv (.int (I (a + b)) :: st)) : Wn K g M pc lv (.int (I b) :: .int (I a) :: st) :=
  fun H locs ls hP hS hl => lv_iadd hK.x hK.b hd (by rw [I_add]; exact k H locs ls hP hS hl)
theorem r_isub (hK : Kok K g cc own d) {a b : Int} (hd : decode cc pc = .ok (.isub, 1)) (k : Wn K g M (pc + 1) lv (.int (I (a - b)) :: st)) : Wn K g M pc lv (.int (I b) :: .int (I a) :: st) :=
  fun H locs ls hP hS hl => lv_isub hK.x hK.b hd (by rw [I_sub]; exact k H locs ls hP hS hl)
theorem r_imul (hK : Kok K g cc own d) {a b : Int} (hd : decode cc pc = .ok (.imul, 1)) (k : Wn K g M (pc + 1) lv (.int (I (a * b)) :: st)) : Wn K g M pc lv (.int (I b) :: .int (I a) :: st) :=
  fun H locs ls hP hS hl => lv_imul hK.x hK.b hd (by rw [I_mul]; exact k H locs ls hP hS hl)
theorem I_div {a b : Int} (ha : 0 ≤ a ∧ a < 2147483648) (hb : 0 < b ∧ b < 2147483648) : I a / I b = I (a / b) := by
  obtain ⟨n, rfl⟩ := Int.eq_ofNat_of_zero_le ha.1
  obtain ⟨m, rfl⟩ := Int.eq_ofNat_of_zero_le (Int.le_of_lt hb.1)
  have h := pk_div (a := n) (d := m) (by omega) (by omega) (by omega)
  have e : ∀ q : Nat, nI q = I (q : Int) := fun q => rfl
  rw [e, e, e] at h
  rw [h]; congr 1
theorem I_rem {a b : Int} (ha : 0 ≤ a ∧ a < 2147483648) (hb : 0 < b ∧ b < 2147483648) : I a - I a / I b * I b = I (a % b) := by
  rw [I_div ha hb, I_mul, I_sub]
  congr 1
  have := Int.emod_add_mul_ediv a b
  rw [Int.mul_comm] at this
  omega
theorem r_idiv (hK : Kok K g cc own d) {a b : Int} (ha : 0 ≤ a ∧ a < 2147483648) (hb : 0 < b ∧ b < 2147483648) (hd : decode cc pc = .ok (.idiv, 1)) (k : Wn K g M (pc + 1) lv (.int (I (a / b)) :: st)) : Wn K g M pc lv (.int (I b) :: .int (I a) :: st) :=
  fun H locs ls hP hS hl => lv_idiv hK.x hK.b hd (by rw [I_0, I_eq (by unfold R32; omega) R32_0]; omega) (by rw [I_div ha hb]; exact k H locs ls hP hS hl)
theorem r_irem (hK : Kok K g cc own d) {a b : Int} (ha : 0 ≤ a ∧ a < 2147483648) (hb : 0 < b ∧ b < 2147483648) (hd : decode cc pc = .ok (.irem, 1)) (k : Wn K g M (pc + 1) lv (.int (I (a % b)) :: st)) : Wn K g M pc lv (.int (I b) :: .int (I a) :: st) :=
  fun H locs ls hP hS hl => lv_irem hK.x hK.b hd (by rw [I_0, I_eq (by unfold R32; omega) R32_0]; omega) (by rw [I_rem ha hb]; exact k H locs ls hP hS hl)
theorem r_dup (hK : Kok K g cc own d) {v : Value} (hd : decode cc pc = .ok (.dup, 1)) (hv : v.category = 1) (k : Wn K g M (pc + 1) lv (v :: v :: st)) : Wn K g M pc lv (v :: st) :=
  fun H locs ls hP hS hl => lv_dup hK.x hK.b hd hv (k H locs ls hP hS hl)
theorem r_dup2 (hK : Kok K g cc own d) {v w : Value} (hd : decode cc pc = .ok (.dup2, 1)) (hv : v.category = 1) (hw : w.category = 1) (k : Wn K g M (pc + 1) lv (v :: w :: v :: w :: st)) : Wn K g M pc lv (v :: w :: st) :=
  fun H locs ls hP hS hl => lv_dup2_11 hK.x hK.b hd hv hw (k H locs ls hP hS hl)
theorem r_goto (hK : Kok K g cc own d) {off : Int} {t : Nat} (hd : decode cc pc = .ok (.goto off, 3)) (ht : (pc : Int) + off = (t : Int)) (k : Wn K g M t lv st) : Wn K g M pc lv st :=
  fun H locs ls hP hS hl => lv_goto hK.x hK.b hd ht (k H locs ls hP hS hl)
/-! branches: h is what the pure value says of both ways -/
theorem r_icmp_lt (hK : Kok K g cc own d) {a b : Int} {off : Int} {t : Nat} {A B : Prop} (hd : decode cc pc = .ok (.if_icmp .lt off, 3)) (ht : (pc : Int) + off = (t : Int)) (h : (R32 a ∧ R32 b) ∧ (a < b → A) ∧ (¬ a < b → B)) (kt : A → Wn K g M t lv st) (kf : B → Wn K g M (pc + 3) lv st) : Wn K g M pc lv (.int (I b) :: .int (I a) :: st) :=
  fun H locs ls hP hS hl => lv_icmp_lt hK.x hK.b hd ht (fun c => kt (h.2.1 ((I_lt h.1.1 h.1.2).mp c)) H locs ls hP hS hl) (fun c => kf (h.2.2 (fun q => c ((I_lt h.1.1 h.1.2).mpr q))) H locs ls hP hS hl)
theorem r_icmp_ge (hK : Kok K g cc own d) {a b : Int} {off : Int} {t : Nat} {A B : Prop} (hd : decode cc pc = .ok (.if_icmp .ge off, 3)) (ht : (pc : Int) + off = (t : Int)) (h : (R32 a ∧ R32 b) ∧ (a < b → A) ∧ (¬ a < b → B)) (kf : A → Wn K g M (pc + 3) lv st) (kt : B → Wn K g M t lv st) : Wn K g M pc lv (.int (I b) :: .int (I a) :: st) :=
  fun H locs ls hP hS hl => lv_icmp_ge hK.x hK.b hd ht (fun c => kt (h.2.2 (by have := (I_le h.1.2 h.1.1).mp c; omega)) H locs ls hP hS hl) (fun c => kf (h.2.1 (by have := mt (I_le h.1.2 h.1.1).mpr c; omega)) H locs ls hP hS hl)
theorem r_icmp_gt (hK : Kok K g cc own d) {a b : Int} {off : Int} {t : Nat} {A B : Prop} (hd : decode cc pc = .ok (.if_icmp .gt off, 3)) (ht : (pc : Int) + off = (t : Int)) (h : (R32 b ∧ R32 a) ∧ (b < a → A) ∧ (¬ b < a → B)) (kt : A → Wn K g M t lv st) (kf : B → Wn K g M (pc + 3) lv st) : Wn K g M pc lv (.int (I b) :: .int (I a) :: st) :=
  fun H locs ls hP hS hl => lv_icmp_gt hK.x hK.b hd ht (fun c => kt (h.2.1 ((I_lt h.1.1 h.1.2).mp c)) H locs ls hP hS hl) (fun c => kf (h.2.2 (fun q => c ((I_lt h.1.1 h.1.2).mpr q))) H locs ls hP hS hl)
theorem r_icmp_le (hK : Kok K g cc own d) {a b : Int} {off : Int} {t : Nat} {A B : Prop} (hd : decode cc pc = .ok (.if_icmp .le off, 3)) (ht : (pc : Int) + off = (t : Int)) (h : (R32 b ∧ R32 a) ∧ (b < a → A) ∧ (¬ b < a → B)) (kf : A → Wn K g M (pc + 3) lv st) (kt : B → Wn K g M t lv st) : Wn K g M pc lv (.int (I b) :: .int (I a) :: st) :=
  fun H locs ls hP hS hl => lv_icmp_le hK.x hK.b hd ht (fun c => kt (h.2.2 (by have := (I_le h.1.2 h.1.1).mp c; omega)) H locs ls hP hS hl) (fun c => kf (h.2.1 (by have := mt (I_le h.1.2 h.1.1).mpr c; omega)) H locs ls hP hS hl)
theorem r_icmp_eq (hK : Kok K g cc own d) {a b : Int} {off : Int} {t : Nat} {A B : Prop} (hd : decode cc pc = .ok (.if_icmp .eq off, 3)) (ht : (pc : Int) + off = (t : Int)) (h : (R32 a ∧ R32 b) ∧ (a = b → A) ∧ (¬ a = b → B)) (kt : A → Wn K g M t lv st) (kf : B → Wn K g M (pc + 3) lv st) : Wn K g M pc lv (.int (I b) :: .int (I a) :: st) :=
  fun H locs ls hP hS hl => lv_icmp_eq hK.x hK.b hd ht (fun c => kt (h.2.1 ((I_eq h.1.1 h.1.2).mp c)) H locs ls hP hS hl) (fun c => kf (h.2.2 (fun q => c ((I_eq h.1.1 h.1.2).mpr q))) H locs ls hP hS hl)
theorem r_icmp_ne (hK : Kok K g cc own d) {a b : Int} {off : Int} {t : Nat} {A B : Prop} (hd : decode cc pc = .ok (.if_icmp .ne off, 3)) (ht : (pc : Int) + off = (t : Int)) (h : (R32 a ∧ R32 b) ∧ (a = b → A) ∧ (¬ a = b → B)) (kf : A → Wn K g M (pc + 3) lv st) (kt : B → Wn K g M t lv st) : Wn K g M pc lv (.int (I b) :: .int (I a) :: st) :=
  fun H locs ls hP hS hl => lv_icmp_ne hK.x hK.b hd ht (fun c => kt (h.2.2 (fun q => c ((I_eq h.1.1 h.1.2).mpr q))) H locs ls hP hS hl) (fun c => kf (h.2.1 ((I_eq h.1.1 h.1.2).mp c)) H locs ls hP hS hl)
theorem r_if_eq (hK : Kok K g cc own d) {a : Int} {off : Int} {t : Nat} {A B : Prop} (hd : decode cc pc = .ok (.ifCond .eq off, 3)) (ht : (pc : Int) + off = (t : Int)) (h : (R32 a ∧ R32 0) ∧ (a = 0 → A) ∧ (¬ a = 0 → B)) (kt : A → Wn K g M t lv st) (kf : B → Wn K g M (pc + 3) lv st) : Wn K g M pc lv (.int (I a) :: st) :=
  fun H locs ls hP hS hl => lv_if_eq hK.x hK.b hd ht (fun c => kt (h.2.1 ((I_eq h.1.1 R32_0).mp c)) H locs ls hP hS hl) (fun c => kf (h.2.2 (fun q => c ((I_eq h.1.1 R32_0).mpr q))) H locs ls hP hS hl)
theorem r_if_ne (hK : Kok K g cc own d) {a : Int} {off : Int} {t : Nat} {A B : Prop} (hd : decode cc pc = .ok (.ifCond .ne off, 3)) (ht : (pc : Int) + off = (t : Int)) (h : (R32 a ∧ R32 0) ∧ (a = 0 → A) ∧ (¬ a = 0 → B)) (kf : A → Wn K g M (pc + 3) lv st) (kt : B → Wn K g M t lv st) : Wn K g M pc lv (.int (I a) :: st) :=
  fun H locs ls hP hS hl => lv_if_ne hK.x hK.b hd ht (fun c => kt (h.2.2 (fun q => c ((I_eq h.1.1 R32_0).mpr q))) H locs ls hP hS hl) (fun c => kf (h.2.1 ((I_eq h.1.1 R32_0).mp c)) H locs ls hP hS hl)
theorem r_if_lt (hK : Kok K g cc own d) {a : Int} {off : Int} {t : Nat} {A B : Prop} (hd : decode cc pc = .ok (.ifCond .lt off, 3)) (ht : (pc : Int) + off = (t : Int)) (h : (R32 a ∧ R32 0) ∧ (a < 0 → A) ∧ (¬ a < 0 → B)) (kt : A → Wn K g M t lv st) (kf : B → Wn K g M (pc + 3) lv st) : Wn K g M pc lv (.int (I a) :: st) :=
  fun H locs ls hP hS hl => lv_if_lt hK.x hK.b hd ht (fun c => kt (h.2.1 ((I_lt h.1.1 R32_0).mp c)) H locs ls hP hS hl) (fun c => kf (h.2.2 (fun q => c ((I_lt h.1.1 R32_0).mpr q))) H locs ls hP hS hl)
theorem r_if_ge (hK : Kok K g cc own d) {a : Int} {off : Int} {t : Nat} {A B : Prop} (hd : decode cc pc = .ok (.ifCond .ge off, 3)) (ht : (pc : Int) + off = (t : Int)) (h : (R32 a ∧ R32 0) ∧ (a < 0 → A) ∧ (¬ a < 0 → B)) (kf : A → Wn K g M (pc + 3) lv st) (kt : B → Wn K g M t lv st) : Wn K g M pc lv (.int (I a) :: st) :=
  fun H locs ls hP hS hl => lv_if_ge hK.x hK.b hd ht (fun c => kt (h.2.2 (by have := (I_le R32_0 h.1.1).mp c; omega)) H locs ls hP hS hl) (fun c => kf (h.2.1 (by have := mt (I_le R32_0 h.1.1).mpr c; omega)) H locs ls hP hS hl)
theorem r_if_gt (hK : Kok K g cc own d) {a : Int} {off : Int} {t : Nat} {A B : Prop} (hd : decode cc pc = .ok (.ifCond .gt off, 3)) (ht : (pc : Int) + off = (t : Int)) (h : (R32 0 ∧ R32 a) ∧ (0 < a → A) ∧ (¬ 0 < a → B)) (kt : A → Wn K g M t lv st) (kf : B → Wn K g M (pc + 3) lv st) : Wn K g M pc lv (.int (I a) :: st) :=
  fun H locs ls hP hS hl => lv_if_gt hK.x hK.b hd ht (fun c => kt (h.2.1 ((I_lt R32_0 h.1.2).mp c)) H locs ls hP hS hl) (fun c => kf (h.2.2 (fun q => c ((I_lt R32_0 h.1.2).mpr q))) H locs ls hP hS hl)
theorem r_if_le (hK : Kok K g cc own d) {a : Int} {off : Int} {t : Nat} {A B : Prop} (hd : decode cc pc = .ok (.ifCond .le off, 3)) (ht : (pc : Int) + off = (t : Int)) (h : (R32 0 ∧ R32 a) ∧ (0 < a → A) ∧ (¬ 0 < a → B)) (kf : A → Wn K g M (pc + 3) lv st) (kt : B → Wn K g M t lv st) : Wn K g M pc lv (.int (I a) :: st) :=
  fun H locs ls hP hS hl => lv_if_le hK.x hK.b hd ht (fun c => kt (h.2.2 (by have := (I_le h.1.2 R32_0).mp c; omega)) H locs ls hP hS hl) (fun c => kf (h.2.1 (by have := mt (I_le h.1.2 R32_0).mpr c; omega)) H locs ls hP hS hl)
end RW

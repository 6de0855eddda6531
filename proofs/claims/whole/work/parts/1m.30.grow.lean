/-! A WORLD THAT GROWS: for the constructors. ws = fr ++ l: what was there before, what is made. -/
def CW (g : GT) (ws : va_W) (U : State) : Prop := va_P (gD g) vwCl ws U.heap ∧ va_K (gD g) vwCl (tys g) U ∧ va_D (gS g) ws ∧ Ext g U ∧ (∀ q, U.heap.size ≤ q → gS g q) ∧ va_AO "SortedPages$Image" U ∧ va_AO "SortedPages$Page" U
def Wp (K : KT) (g : GT) (ws : va_W) (cs ss pc : Nat) (lv : List (Option Value)) (st : List Value) : Prop :=
  ∀ (H : Heap) (locs : List Loc) (ls : Array Slot), va_P (gD g) vwCl ws H → va_D (gS g) ws → va_S (gS g) (kS K).heap H locs → lh ls (kN K) lv → W (kP K) (kL K) (kE K) (kR K) (kS K) (kM K) (kA K) (kB K) (kMe K) (kC K) H locs cs ss (kQ K) (F0 (kM K) pc ls st)
def KC (K : KT) (g : GT) (cc : ByteArray) (own : String) (d : Nat) : Prop :=
  (kP K).tables.exec = Jvm.exec ∧ (kC K).code = cc ∧ (kC K).maxLocals = kN K ∧ (kS K).vm.findClass own = some (kM K).cls ∧ (∀ w ∈ TB, w.before (kA K) (kS K) = true) ∧ va_K (gD g) vwCl (tys g) (kS K) ∧ Ext g (kS K) ∧ (kMe K).locks = false ∧ d ≤ (kR K).frames ∧ 40 * d ≤ (kR K).locals ∧ (∀ q, (kS K).heap.size ≤ q → gS g q) ∧ va_AO "SortedPages$Image" (kS K) ∧ va_AO "SortedPages$Page" (kS K)
def QK (g : GT) (Post : va_W → Prop) : Array Value → State → Outcome → State → Prop := fun _ st oc t => (∃ ws', oc = .returned none ∧ Post ws' ∧ CW g ws' t) ∧ va_F (gS g) st t
def MetK (l : Launch) (y : MethodName) (cc : ByteArray) (nL d mc ms : Nat) (g : GT) (vals : List Value) (ws : va_W) (Post : va_W → Prop) : Prop :=
  Met l y (Cond.code y cc nL none :: TB) { frames := d, cells := mc, slots := ms, locals := 40 * d } (va_Pc vals (CW g ws)) (QK g Post) mc ms (gS g)
theorem fr_get0 {α : Type} {fr l : List α} {j : Nat} : (fr ++ l)[fr.length + j]? = l[j]? := by
  rw [List.getElem?_append_right (by omega)]
  congr 1
  omega
theorem fr_set0 {α : Type} {fr l : List α} {j : Nat} {x : α} : (fr ++ l).set (fr.length + j) x = fr ++ l.set j x := by
  rw [List.set_append_right _ _ (by omega)]
  congr 2
  omega
theorem fr_get {fr l : va_W} {j : Nat} : (fr ++ l)[fr.length + j]? = l[j]? := fr_get0
theorem fr_set {fr l : va_W} {j : Nat} {x : Nat × va_E} : (fr ++ l).set (fr.length + j) x = fr ++ l.set j x := fr_set0
section GR
variable {K : KT} {g : GT} {cc : ByteArray} {own : String} {d : Nat} {ws fr l l' : va_W} {cs ss pc : Nat} {lv : List (Option Value)} {st : List Value}
theorem KC.x (h : KC K g cc own d) : (kP K).tables.exec = Jvm.exec := h.1
theorem KC.b (h : KC K g cc own d) : (kC K).code = cc := h.2.1
theorem KC.ml (h : KC K g cc own d) : (kC K).maxLocals = kN K := h.2.2.1
theorem KC.o (h : KC K g cc own d) : (kS K).vm.findClass own = some (kM K).cls := h.2.2.2.1
theorem KC.t (h : KC K g cc own d) : ∀ w ∈ TB, w.before (kA K) (kS K) = true := h.2.2.2.2.1
theorem KC.k (h : KC K g cc own d) : va_K (gD g) vwCl (tys g) (kS K) := h.2.2.2.2.2.1
theorem KC.e (h : KC K g cc own d) : Ext g (kS K) := h.2.2.2.2.2.2.1
theorem KC.lk (h : KC K g cc own d) : (kMe K).locks = false := h.2.2.2.2.2.2.2.1
theorem KC.f (h : KC K g cc own d) : d ≤ (kR K).frames := h.2.2.2.2.2.2.2.2.1
theorem KC.lo (h : KC K g cc own d) : 40 * d ≤ (kR K).locals := h.2.2.2.2.2.2.2.2.2.1
theorem KC.a (h : KC K g cc own d) : ∀ q, (kS K).heap.size ≤ q → gS g q := h.2.2.2.2.2.2.2.2.2.2.1
theorem KC.ao (h : KC K g cc own d) : va_AO "SortedPages$Image" (kS K) ∧ va_AO "SortedPages$Page" (kS K) := h.2.2.2.2.2.2.2.2.2.2.2
theorem p_iconst (hK : KC K g cc own d) {n : Int} (hd : decode cc pc = .ok (.iconst n, 1)) (k : Wp K g ws cs ss (pc + 1) lv (.int (I n) :: st)) : Wp K g ws cs ss pc lv st :=
  fun H locs ls hP hD hS hl => lv_iconst hK.x hK.b hd rfl (k H locs ls hP hD hS hl)
theorem p_bipush (hK : KC K g cc own d) {n : Int} (hd : decode cc pc = .ok (.bipush n, 2)) (hv : (Int8.ofInt n).toInt32 = I n) (k : Wp K g ws cs ss (pc + 2) lv (.int (I n) :: st)) : Wp K g ws cs ss pc lv st :=
  fun H locs ls hP hD hS hl => lv_bipush hK.x hK.b hd hv (k H locs ls hP hD hS hl)
theorem p_sipush (hK : KC K g cc own d) {n : Int} (hd : decode cc pc = .ok (.sipush n, 3)) (hv : (Int16.ofInt n).toInt32 = I n) (k : Wp K g ws cs ss (pc + 3) lv (.int (I n) :: st)) : Wp K g ws cs ss pc lv st :=
  fun H locs ls hP hD hS hl => lv_sipush hK.x hK.b hd hv (k H locs ls hP hD hS hl)
theorem p_iload_n (hK : KC K g cc own d) {i : Fin 4} {z : Int32} (hd : decode cc pc = .ok (.iload_n i, 1)) (hv : lv[(i : Nat)]? = some (some (.int z))) (k : Wp K g ws cs ss (pc + 1) lv (.int z :: st)) : Wp K g ws cs ss pc lv st :=
  fun H locs ls hP hD hS hl => lv_iload_n hK.x hK.b hd rfl (hl.2.2 _ _ hv) (k H locs ls hP hD hS hl)
theorem p_aload_n (hK : KC K g cc own d) {i : Fin 4} {a : Nat} (hd : decode cc pc = .ok (.aload_n i, 1)) (hv : lv[(i : Nat)]? = some (some (.ref a))) (k : Wp K g ws cs ss (pc + 1) lv (.ref a :: st)) : Wp K g ws cs ss pc lv st :=
  fun H locs ls hP hD hS hl => lv_aload_n hK.x hK.b hd rfl (hl.2.2 _ _ hv) (k H locs ls hP hD hS hl)
theorem p_istore_n (hK : KC K g cc own d) {i : Fin 4} {z : Int32} {lv' : List (Option Value)} (hd : decode cc pc = .ok (.istore_n i, 1)) (hn : (i : Nat) < kN K) (hL : okst lv (i : Nat) = true) (hl' : lv.set (i : Nat) (some (.int z)) = lv') (k : Wp K g ws cs ss (pc + 1) lv' st) : Wp K g ws cs ss pc lv (.int z :: st) :=
  fun H locs ls hP hD hS hl => lv_istore_n hK.x hK.b hd rfl hl.has hn rfl (fun ls' h => k H locs ls' hP hD hS (lh.put hL h hl'))
theorem p_astore_n (hK : KC K g cc own d) {i : Fin 4} {a : Nat} {lv' : List (Option Value)} (hd : decode cc pc = .ok (.astore_n i, 1)) (hn : (i : Nat) < kN K) (hL : okst lv (i : Nat) = true) (hl' : lv.set (i : Nat) (some (.ref a)) = lv') (k : Wp K g ws cs ss (pc + 1) lv' st) : Wp K g ws cs ss pc lv (.ref a :: st) :=
  fun H locs ls hP hD hS hl => lv_astore_n hK.x hK.b hd rfl hl.has hn rfl (fun ls' h => k H locs ls' hP hD hS (lh.put hL h hl'))
theorem p_iinc (hK : KC K g cc own d) {i : Nat} {n z : Int} {lv' : List (Option Value)} (hd : decode cc pc = .ok (.iinc i n, 3)) (hn : i < kN K) (hL : okst lv i = true) (hv : lv[i]? = some (some (.int (I z)))) (hl' : lv.set i (some (.int (I (z + n)))) = lv') (k : Wp K g ws cs ss (pc + 3) lv' st) : Wp K g ws cs ss pc lv st := by
  intro H locs ls hP hD hS hl
  obtain ⟨q, hq⟩ := List.getElem?_of_mem (ta_mem.mpr hv)
  exact lv_iinc (k := q) hK.x hK.b hd hl.has hq (v := I (z + n)) (I_add z n) hn rfl (fun ls' h => k H locs ls' hP hD hS (lh.put hL h hl'))
theorem p_dup (hK : KC K g cc own d) {v : Value} (hd : decode cc pc = .ok (.dup, 1)) (hv : v.category = 1) (k : Wp K g ws cs ss (pc + 1) lv (v :: v :: st)) : Wp K g ws cs ss pc lv (v :: st) :=
  fun H locs ls hP hD hS hl => lv_dup hK.x hK.b hd hv (k H locs ls hP hD hS hl)
theorem p_goto (hK : KC K g cc own d) {off : Int} {t : Nat} (hd : decode cc pc = .ok (.goto off, 3)) (ht : (pc : Int) + off = (t : Int)) (k : Wp K g ws cs ss t lv st) : Wp K g ws cs ss pc lv st :=
  fun H locs ls hP hD hS hl => lv_goto hK.x hK.b hd ht (k H locs ls hP hD hS hl)
theorem p_ge_f (hK : KC K g cc own d) {a b : Int} {off : Int} {t : Nat} (hd : decode cc pc = .ok (.if_icmp .ge off, 3)) (ht : (pc : Int) + off = (t : Int)) (hr : R32 a ∧ R32 b) (h : a < b) (kf : Wp K g ws cs ss (pc + 3) lv st) : Wp K g ws cs ss pc lv (.int (I b) :: .int (I a) :: st) :=
  fun H locs ls hP hD hS hl => lv_icmp_ge hK.x hK.b hd ht (fun c => absurd ((I_le hr.2 hr.1).mp c) (by omega)) (fun _ => kf H locs ls hP hD hS hl)
theorem p_ge_t (hK : KC K g cc own d) {a b : Int} {off : Int} {t : Nat} (hd : decode cc pc = .ok (.if_icmp .ge off, 3)) (ht : (pc : Int) + off = (t : Int)) (hr : R32 a ∧ R32 b) (h : ¬ a < b) (kt : Wp K g ws cs ss t lv st) : Wp K g ws cs ss pc lv (.int (I b) :: .int (I a) :: st) :=
  fun H locs ls hP hD hS hl => lv_icmp_ge hK.x hK.b hd ht (fun _ => kt H locs ls hP hD hS hl) (fun c => absurd ((I_le hr.2 hr.1).mpr (by omega)) c)
theorem p_obj (hK : KC K g cc own d) {idx a : Nat} (hw : Cond.methodLink own idx Lib.objectInit ∈ TB) (hi : Cond.instanceMethod Lib.objectInit ∈ TB) (hcd : Cond.code Lib.objectInit ⟨#[0xb1]⟩ 1 none ∈ TB) (hst : (st.map fun v => v.category).sum ≤ 8) (hd1 : 1 ≤ d) (hd : decode cc pc = .ok (.invokespecial idx, 3)) (k : Wp K g ws cs ss (pc + 3) lv st) : Wp K g ws cs ss pc lv (.ref a :: st) := by
  intro H locs ls hP hD hS hl
  have hf := hK.f
  have hlo := hK.lo
  refine W.objInit hK.x hK.b hK.o (hK.t _ hw) (hK.t _ hi) (hK.t _ hcd) rfl (by rw [hK.ml]; exact hl.1) rfl hd (by omega) (by show 2 * 0 + _ + 12 ≤ _; omega) ?_
  exact k H locs ls hP hD hS hl
/-- a new object, a new row -/
theorem p_new (hK : KC K g cc own d) {C : String} {T : u_T} {N ci idx : Nat} {ty : Nat → FieldType} {fs : List Value} (hc : ClsOk ci C T N ty) (hw : Cond.classLink own idx C ∈ TB) (hin : Cond.instantiable C N ∈ TB) (hini : Cond.initialized C ∈ TB) (hfs : (List.range N).all (fun j => decide (defaultValue (ty j) = vp_V fs j)) = true) (hc1 : cs + 1 ≤ (kR K).cells) (hs1 : ss + N ≤ (kR K).slots) (hd : decode cc pc = .ok (.new idx, 3))
    (k : ∀ q : Nat, Wp K g (fr ++ (l ++ [(q, .inr (ci, fs))])) (cs + 1) (ss + N) (pc + 3) lv (.ref q :: st)) : Wp K g (fr ++ l) cs ss pc lv st := by
  intro H locs ls hP hD hS hl
  refine va_new (fs := fs) hK.x hK.b hK.t hc.2.1 ty hc.2.2.1 hK.o (hK.t _ hw) (hK.t _ hin) (hK.t _ hini) hK.k hP hD hS hK.a hc.1 (fun j hj => co_dec hfs hj) hc1 hs1 hd (fun q H1 hP1 hD1 hS1 => ?_)
  rw [List.append_assoc] at hP1 hD1
  exact k q H1 locs ls hP1 hD1 hS1 hl
theorem ty_one (hK : va_K (gD g) vwCl (tys g) (kS K)) {t : Nat} {cA : ClassId} {ty : FieldType} (ht : (tys g)[t]? = some (gC g t, ty)) (h : (kS K).vm.findClass ("[" ++ ty.toString) = some cA) : cA = gC g t := by
  have h1 := (hK.2 t _ ht).2
  have h2 : (kS K).vm.findClass ("[" ++ ty.toString) = some (gC g t) := by
    cases ty with
    | object C => exact h1.choose_spec.choose_spec.2.2.2
    | _ => exact h1
  rw [h2] at h
  cases h; rfl
theorem p_newI (hK : KC K g cc own d) {n : Nat} (hw : Cond.arrayClass .int ∈ TB) (hn : n < 100000) (hc1 : cs + 1 ≤ (kR K).cells) (hs1 : ss + n ≤ (kR K).slots) (hd : decode cc pc = .ok (.newarray .int, 2))
    (k : ∀ q : Nat, Wp K g (fr ++ (l ++ [(q, .inl (gC g 0, n, .inl (fun _ => 0)))])) (cs + 1) (ss + n) (pc + 2) lv (.ref q :: st)) : Wp K g (fr ++ l) cs ss pc lv (.int (I n) :: st) := by
  intro H locs ls hP hD hS hl
  have hr : R32 (n : Int) := ⟨by omega, by omega⟩
  refine va_newa (atype := .int) (ty := .int) (a0 := (n, .inl (fun _ => 0))) (N' := n) hK.x hK.b (hK.t _ hw) rfl hK.k hP hD hS hK.a (fun cA => rfl) (by rw [I_0, I_lt hr R32_0]; omega) (by show (I n).toInt.toNat = n; rw [I_to hr]; omega) (by show n * 4 ≤ _; omega) hc1 hs1 hd (fun q cA H1 hK1 hP1 hD1 hS1 => ?_)
  have e : cA = gC g 0 := ty_one (K := K) hK.k (t := 0) (ty := .int) rfl (hK1.2 4 (cA, .int) rfl).2
  subst e
  rw [List.append_assoc] at hP1 hD1
  exact k q H1 locs ls hP1 hD1 hS1 hl
theorem p_newZ (hK : KC K g cc own d) {n : Nat} (hw : Cond.arrayClass .boolean ∈ TB) (hn : n < 100000) (hc1 : cs + 1 ≤ (kR K).cells) (hs1 : ss + n ≤ (kR K).slots) (hd : decode cc pc = .ok (.newarray .boolean, 2))
    (k : ∀ q : Nat, Wp K g (fr ++ (l ++ [(q, .inl (gC g 1, n, .inl (fun _ => 0)))])) (cs + 1) (ss + n) (pc + 2) lv (.ref q :: st)) : Wp K g (fr ++ l) cs ss pc lv (.int (I n) :: st) := by
  intro H locs ls hP hD hS hl
  have hr : R32 (n : Int) := ⟨by omega, by omega⟩
  refine va_newa (atype := .boolean) (ty := .boolean) (a0 := (n, .inl (fun _ => 0))) (N' := n) hK.x hK.b (hK.t _ hw) rfl hK.k hP hD hS hK.a (fun cA => rfl) (by rw [I_0, I_lt hr R32_0]; omega) (by show (I n).toInt.toNat = n; rw [I_to hr]; omega) (by show n * 1 ≤ _; omega) hc1 hs1 hd (fun q cA H1 hK1 hP1 hD1 hS1 => ?_)
  have e : cA = gC g 1 := ty_one (K := K) hK.k (t := 1) (ty := .boolean) rfl (hK1.2 4 (cA, .boolean) rfl).2
  subst e
  rw [List.append_assoc] at hP1 hD1
  exact k q H1 locs ls hP1 hD1 hS1 hl
theorem p_newq (hK : KC K g cc own d) {C : String} {t n idx : Nat} (hw : Cond.classLink own idx C ∈ TB) (ho : va_AO C (kS K)) (ht : (tys g)[t]? = some (gC g t, .object C)) (hn : n < 100000) (hc1 : cs + 1 ≤ (kR K).cells) (hs1 : ss + n ≤ (kR K).slots) (hd : decode cc pc = .ok (.anewarray idx, 3))
    (k : ∀ q : Nat, Wp K g (fr ++ (l ++ [(q, .inl (gC g t, n, .inr (.inr (.inr (.inr (fun _ => none))))))])) (cs + 1) (ss + n) (pc + 3) lv (.ref q :: st)) : Wp K g (fr ++ l) cs ss pc lv (.int (I n) :: st) := by
  intro H locs ls hP hD hS hl
  have hr : R32 (n : Int) := ⟨by omega, by omega⟩
  refine va_newq (N' := n) hK.x hK.b hK.o (hK.t _ hw) ho hK.k hP hD hS hK.a (by rw [I_0, I_lt hr R32_0]; omega) (by show (I n).toInt.toNat = n; rw [I_to hr]; omega) (by omega) hc1 hs1 hd (fun q cA H1 hK1 hP1 hD1 hS1 => ?_)
  have e : cA = gC g t := ty_one (K := K) hK.k ht (by obtain ⟨_, _, _, _, _, h⟩ := (hK1.2 4 (cA, .object C) rfl).2; exact h)
  subst e
  rw [List.append_assoc] at hP1 hD1
  exact k q H1 locs ls hP1 hD1 hS1 hl
variable {C : String} {T : u_T} {N ci j i idx a : Nat} {ty : Nat → FieldType} {fs : List Value} {v : Value}
theorem p_putF (hK : KC K g cc own d) (hnm : (kMe K).name = "<init>") (hc : ClsOk ci C T N ty) (ho : C = own) (hw : Cond.fieldLink own idx C (T j).2.1 (T j).2.2.1 ∈ TB) (hj : j < N) (hg : l[i]? = some (a, .inr (ci, fs))) (hfin : (T j).2.2.2 = true) (hn : narrow (ty j) v = v) (hfit : fits (ty j) v = true) (hl : j < fs.length) (hd : decode cc pc = .ok (.putfield idx, 3)) (hl' : l.set i (a, .inr (ci, fs.set j v)) = l')
    (k : Wp K g (fr ++ l') cs ss (pc + 3) lv st) : Wp K g (fr ++ l) cs ss pc lv (v :: .ref a :: st) := by
  intro H locs ls hP hD hS hlv
  refine va_putF (ty := ty j) hK.x hK.b hK.t hc.2.1 ty hc.2.2.1 hc.2.2.2.1 hK.o hK.k hP hD hS (fr.length + i) (by rw [fr_get]; exact hg) hc.1 j hj (hK.t _ hw) (fun x h => by rw [hc.2.2.2.2 j hj] at h; exact h) hfin hnm (by rw [hc.2.2.2.2 j hj]; exact ho) (hc.2.2.1 j hj) hn hfit hl hd (fun H1 locs1 hP1 hD1 hS1 => ?_)
  rw [fr_set, hl'] at hP1 hD1
  exact k H1 locs1 ls hP1 hD1 hS1 hlv
theorem p_put (hK : KC K g cc own d) (hc : ClsOk ci C T N ty) (hw : Cond.fieldLink own idx C (T j).2.1 (T j).2.2.1 ∈ TB) (hj : j < N) (hg : l[i]? = some (a, .inr (ci, fs))) (hfin : (T j).2.2.2 = false) (hn : narrow (ty j) v = v) (hfit : fits (ty j) v = true) (hl : j < fs.length) (hd : decode cc pc = .ok (.putfield idx, 3)) (hl' : l.set i (a, .inr (ci, fs.set j v)) = l')
    (k : Wp K g (fr ++ l') cs ss (pc + 3) lv st) : Wp K g (fr ++ l) cs ss pc lv (v :: .ref a :: st) := by
  intro H locs ls hP hD hS hlv
  refine va_put (ty := ty j) hK.x hK.b hK.t hc.2.1 ty hc.2.2.1 hc.2.2.2.1 hK.o hK.k hP hD hS (fr.length + i) (by rw [fr_get]; exact hg) hc.1 j hj (hK.t _ hw) (fun x h => by rw [hc.2.2.2.2 j hj] at h; exact h) hfin (hc.2.2.1 j hj) hn hfit hl hd (fun H1 locs1 hP1 hD1 hS1 => ?_)
  rw [fr_set, hl'] at hP1 hD1
  exact k H1 locs1 ls hP1 hD1 hS1 hlv
theorem p_get (hK : KC K g cc own d) (hc : ClsOk ci C T N ty) (hw : Cond.fieldLink own idx C (T j).2.1 (T j).2.2.1 ∈ TB) (hj : j < N) (hg : l[i]? = some (a, .inr (ci, fs))) (hv : fs[j]? = some v) (hd : decode cc pc = .ok (.getfield idx, 3))
    (k : Wp K g (fr ++ l) cs ss (pc + 3) lv (v :: st)) : Wp K g (fr ++ l) cs ss pc lv (.ref a :: st) :=
  fun H locs ls hP hD hS hlv => va_get hK.x hK.b hK.t hc.2.1 hK.o hK.k hP (fr.length + i) (by rw [fr_get]; exact hg) hc.1 j hj (hK.t _ hw) (fun x h => by rw [hc.2.2.2.2 j hj] at h; exact h) hv hd (k H locs ls hP hD hS hlv)
theorem p_iast (hK : KC K g cc own d) {n : Nat} {f : Nat → Int32} {x : Int} {z : Int32} (hg : l[i]? = some (a, .inl (gC g 0, n, .inl f))) (hn : n < 2147483648) (hx : 0 ≤ x ∧ x < n) (hd : decode cc pc = .ok (.iastore, 1)) (hl' : l.set i (a, .inl (gC g 0, n, .inl (upd f x.toNat z))) = l')
    (k : Wp K g (fr ++ l') cs ss (pc + 1) lv st) : Wp K g (fr ++ l) cs ss pc lv (.int z :: .int (I x) :: .ref a :: st) := by
  intro H locs ls hP hD hS hlv
  obtain ⟨h1, h2⟩ := I_nat hx.1 hx.2 hn
  refine va_iast hK.x hK.b hK.k hP hD hS (fr.length + i) 0 (by rw [fr_get]; exact hg) rfl h1 hd (fun H1 locs1 hP1 hD1 hS1 => ?_)
  rw [h2, fr_set, hl'] at hP1 hD1
  exact k H1 locs1 ls hP1 hD1 hS1 hlv
theorem p_alen (hK : KC K g cc own d) {n : Nat} {f : Nat → Int32} (hg : l[i]? = some (a, .inl (gC g 0, n, .inl f))) (hd : decode cc pc = .ok (.arraylength, 1)) (k : Wp K g (fr ++ l) cs ss (pc + 1) lv (.int (I n) :: st)) : Wp K g (fr ++ l) cs ss pc lv (.ref a :: st) :=
  fun H locs ls hP hD hS hlv => va_alen hK.x hK.b hK.k hP (fr.length + i) 0 (by rw [fr_get]; exact hg) (ty := .int) rfl (v := I n) rfl hd (k H locs ls hP hD hS hlv)
theorem p_aast (hK : KC K g cc own d) {t n b i2 : Nat} {f : Nat → Option Nat} {x : Int} {r : vw_C} {vs : List Value} (hg : l[i]? = some (a, .inl (gC g t, n, .inr (.inr (.inr (.inr f)))))) (ht : (tys g)[t]? = some (gC g t, .object r.1)) (hb : l[i2]? = some (b, .inr (ci, vs))) (hc : vwCl[ci]? = some r) (hn : n < 2147483648) (hx : 0 ≤ x ∧ x < n) (hd : decode cc pc = .ok (.aastore, 1)) (hl' : l.set i (a, .inl (gC g t, n, .inr (.inr (.inr (.inr (va_up f x.toNat (some b))))))) = l')
    (k : Wp K g (fr ++ l') cs ss (pc + 1) lv st) : Wp K g (fr ++ l) cs ss pc lv (.ref b :: .int (I x) :: .ref a :: st) := by
  intro H locs ls hP hD hS hlv
  obtain ⟨h1, h2⟩ := I_nat hx.1 hx.2 hn
  refine va_astq hK.x hK.b hK.k hP hD hS (fr.length + i) t (fr.length + i2) ci (r := r) (by rw [fr_get]; exact hg) ht (by rw [fr_get]; exact hb) hc h1 hd (fun H1 locs1 hP1 hD1 hS1 => ?_)
  rw [h2, fr_set, hl'] at hP1 hD1
  exact k H1 locs1 ls hP1 hD1 hS1 hlv
theorem p_aald (hK : KC K g cc own d) {t n : Nat} {f : Nat → Option Nat} {x : Int} {C : String} {b : Nat} (hg : l[i]? = some (a, .inl (gC g t, n, .inr (.inr (.inr (.inr f)))))) (ht : (tys g)[t]? = some (gC g t, .object C)) (hn : n < 2147483648) (hx : 0 ≤ x ∧ x < n) (hf : f x.toNat = some b) (hd : decode cc pc = .ok (.aaload, 1))
    (k : Wp K g (fr ++ l) cs ss (pc + 1) lv (.ref b :: st)) : Wp K g (fr ++ l) cs ss pc lv (.int (I x) :: .ref a :: st) := by
  intro H locs ls hP hD hS hlv
  obtain ⟨h1, h2⟩ := I_nat hx.1 hx.2 hn
  refine va_aldq hK.x hK.b hK.k hP (fr.length + i) t (by rw [fr_get]; exact hg) ht h1 hd ?_
  rw [h2, hf]
  exact k H locs ls hP hD hS hlv
theorem cw_at (hK : KC K g cc own d) {H : Heap} {locs : List Loc} {t : State} (hP : va_P (gD g) vwCl ws H) (hD : va_D (gS g) ws) (hS : va_S (gS g) (kS K).heap H locs) (ht : t.heap = H) (hW : (kS K).WarmedH t.vm) : CW g ws t :=
  ⟨by rw [ht]; exact hP, va_K.moved hW.alike hK.k, hD, hK.e.warm hW (fun q h1 h2 => by rw [ht]; exact hS.2.1 q h1 h2), fun q h => hK.a q (Nat.le_trans hS.1 (by rw [← ht]; exact h)), va_AO.moved hW.alike hK.ao.1, va_AO.moved hW.alike hK.ao.2⟩
theorem cw_blind (vals : List Value) : FrameBlind (va_Pc vals (CW g ws)) := by
  intro a U gg mk h
  obtain ⟨h0, h1, h2, h3, h4, h5, h6, h7⟩ := h
  exact ⟨h0, h1, va_K.moved (u := U) (U := U.calling gg mk a) (Vm.Alike.refl U.vm) h2, h3, h4.same rfl rfl, h5, va_AO.moved (u := U) (U := U.calling gg mk a) (Vm.Alike.refl U.vm) h6, va_AO.moved (u := U) (U := U.calling gg mk a) (Vm.Alike.refl U.vm) h7⟩
theorem p_ret (hK : KC K g cc own d) (hr : (kMe K).sig.returnType = none) {Post : va_W → Prop} (hQ : kQ K = MQ (kB K) (QK g Post) (kA K) (kS K) cs ss (gS g)) (hd : decode cc pc = .ok (.return_, 1)) (h : Post ws) : Wp K g ws cs ss pc lv [] := by
  intro H locs ls hP hD hS hl
  rw [hQ]
  exact W.vret hK.x hK.b hr (fun t ht hW => ⟨⟨ws, rfl, h, cw_at hK hP hD hS ht hW⟩, hS.F ht⟩) hS.2.2 hd hK.lk
theorem met_k {lx : Launch} {y : MethodName} {nL mc ms : Nat} {vals : List Value} {Post : va_W → Prop} (m : Nat) (hy : plainName y.cls = true) (hlen : (lg_sl vals).length ≤ nL) (hc : cat1s vals = true) (hlv : vals.map some ++ List.replicate m none = lv)
    (body : ∀ K : KT, KC K g cc y.cls d → kN K = nL → (kMe K).sig.returnType = none → kQ K = MQ (kB K) (QK g Post) (kA K) (kS K) mc ms (gS g) → (kMe K).name = y.name → (kR K).cells = mc → (kR K).slots = ms → Wp K g ws 0 0 0 lv []) : MetK lx y cc nL d mc ms g vals ws Post := by
  refine Met.ofW (cc := cc) (maxL := nL) (ret := none) hy rfl ?_
  intro p e s m' args below meth c s₁ B hml hv
  obtain ⟨rfl, hP, hK, hD, hE, hA, h1, h2⟩ := hv
  have hts := atoms_spec (ws := Cond.code y cc nL none :: TB) B.pre
  have h := body (p, lx, e, { frames := d, cells := mc, slots := ms, locals := 40 * d }, s, m', vals.toArray, below, meth, c, MQ below (QK g Post) vals.toArray s mc ms (gS g), nL, 0, 0) ⟨B.exec, B.bytes, hml, findClass_of_methodNamed B.named, fun w hw => hts w (List.mem_cons_of_mem _ hw), hK, hE, B.notSynchronized, Nat.le_refl _, Nat.le_refl _, hA, h1, h2⟩ rfl B.returns rfl (name_of_methodNamed B.named B.method).1 rfl rfl
  have hl := lv_entry vals (n := nL) hlen
  rw [lg_entry_eq]
  refine h s.heap [] _ hP hD va_S.rf ⟨hl.1, hl.2.1, fun i v hi => ?_⟩
  subst hlv
  have h3 : vals[i]? = some v := by
    rw [List.getElem?_append] at hi
    split at hi
    · simp at hi
      exact hi
    · rw [List.getElem?_replicate] at hi
      split at hi <;> cases hi
  have h4 := lv_args_mem (vals := vals) (b := 0) (i := i) (v := v) (fun w hw => by have := List.all_eq_true.mp hc w hw; simpa using this) h3
  rw [Nat.zero_add] at h4
  exact hl.2.2 (i, v) h4
theorem wp_call {vals rest : List Value} {H : Heap} {locs : List Loc} {ls : Array Slot} {st0 : List Value} {mc ms : Nat} {Post : va_W → Prop}
    (hr : va_Run (kP K) (kL K) (kE K) (kR K) (kS K) (kM K) (kA K) (kB K) (kMe K) (kC K) H locs cs ss mc ms (F0 (kM K) pc ls st0) rest (QK g Post vals.toArray) (gS g)) (hS : va_S (gS g) (kS K).heap H locs) (hl : lh ls (kN K) lv)
    (kk : ∀ ws' : va_W, Post ws' → Wp K g ws' (cs + mc) (ss + ms) (pc + 3) lv rest) : W (kP K) (kL K) (kE K) (kR K) (kS K) (kM K) (kA K) (kB K) (kMe K) (kC K) H locs cs ss (kQ K) (F0 (kM K) pc ls st0) := by
  intro T hT X
  obtain ⟨v, st₀, t, T', L, h0, X', hL, e1, e2, ⟨⟨ws', hv, hq, hw⟩, hz, hk⟩, go⟩ := hr T hT X
  cases hv
  rw [h0] at hz hk
  have hS' : va_S (gS g) (kS K).heap T'.heap (locs ++ L) := by
    refine ⟨Nat.le_trans hS.1 (by rw [e1]; exact hz), fun q h1 h2 => ?_, fun q hq => ?_⟩
    · rw [e1, hk q (Nat.lt_of_lt_of_le h1 hS.1) h2]
      exact hS.2.1 q h1 h2
    · rcases List.mem_append.mp hq with h | h
      · exact hS.2.2 q h
      · exact hL q h
  obtain ⟨t2, a1, b1⟩ := kk ws' hq T'.heap (locs ++ L) ls (by rw [e1]; exact hw.1) hw.2.2.1 hS' hl T' rfl X'
  exact ⟨t2, go t2 a1, b1⟩
variable {y : MethodName} {c2 : ByteArray} {nL n d' mc ms : Nat} {As : List Value} {Post : va_W → Prop} {host : String}
theorem p_callI (hK : KC K g cc own d) (hy : CkB y c2 nL none n) (hi : Cond.instanceMethod y ∈ TB) (hyn : y.name = "<init>") (hw : Cond.methodLink own idx y ∈ TB) (hdd : d' + 1 ≤ d) (hm : MetK (kL K) y c2 nL d' mc ms g (.ref a :: As) ws Post) (hn : As.length = n) (hst : (st.map fun v => v.category).sum ≤ 8) (hc1 : cs + mc ≤ (kR K).cells) (hs1 : ss + ms ≤ (kR K).slots) (hd : decode cc pc = .ok (.invokespecial idx, 3))
    (kk : ∀ ws' : va_W, Post ws' → Wp K g ws' (cs + mc) (ss + ms) (pc + 3) lv st) : Wp K g ws cs ss pc lv (As.reverse ++ .ref a :: st) := by
  intro H locs ls hP hD hS hl
  have hf := hK.f
  have hlo := hK.lo
  have h21 := hy.2.2.2
  refine wp_call (vals := .ref a :: As) (rest := st) (va_runI (As := As) (rest := st) ⟨hK.x, hK.b, hK.ml, hK.o, hK.t⟩ hm ⟨callB_of n hK.t (ck_gd hy) rfl rfl rfl (hK.t _ hy.2.1) (hK.t _ hw) hy.2.2.1 ⟨by show d' + 1 ≤ _; omega, by show 8 + (nL + 11) + 40 * d' ≤ _; omega⟩, hyn, hK.t _ hi⟩ ⟨cw_blind _, fun U hU hW => ⟨rfl, cw_at hK hP hD hS hU hW⟩⟩ rfl hn hl.1 rfl (lv_room hst) hd ⟨hc1, hs1⟩) hS hl kk
theorem p_callIN (hK : KC K g cc own d) (hy : CkB y c2 nL none n) (hi : Cond.instanceMethod y ∈ TB) (hyn : y.name = "<init>") (hw : Cond.methodLinkNest own idx y host ∈ NS) (hdd : d' + 1 ≤ d) (hm : MetK (kL K) y c2 nL d' mc ms g (.ref a :: As) ws Post) (hn : As.length = n) (hst : (st.map fun v => v.category).sum ≤ 8) (hc1 : cs + mc ≤ (kR K).cells) (hs1 : ss + ms ≤ (kR K).slots) (hd : decode cc pc = .ok (.invokespecial idx, 3))
    (kk : ∀ ws' : va_W, Post ws' → Wp K g ws' (cs + mc) (ss + ms) (pc + 3) lv st) : Wp K g ws cs ss pc lv (As.reverse ++ .ref a :: st) := by
  intro H locs ls hP hD hS hl
  have hf := hK.f
  have hlo := hK.lo
  have h21 := hy.2.2.2
  refine wp_call (vals := .ref a :: As) (rest := st) (va_runIN (As := As) (rest := st) ⟨hK.x, hK.b, hK.ml, hK.o, hK.t⟩ hm ⟨va_cnB n hK.t (ck_gd hy) rfl rfl rfl (hK.e.1 _ hw) (hK.t _ hy.2.1) hy.2.2.1 ⟨by show d' + 1 ≤ _; omega, by show 8 + (nL + 11) + 40 * d' ≤ _; omega⟩, hyn, hK.t _ hi⟩ ⟨cw_blind _, fun U hU hW => ⟨rfl, cw_at hK hP hD hS hU hW⟩⟩ rfl hn hl.1 rfl (lv_room hst) hd ⟨hc1, hs1⟩) hS hl kk
theorem p_callV (hK : KC K g cc own d) (hy : CkB y c2 nL none n) (hi : Cond.instanceMethod y ∈ TB) (hsel : Cond.selects y.cls y y ∈ TB) (hw : Cond.methodLink own idx y ∈ TB) (hdd : d' + 1 ≤ d) (hm : MetK (kL K) y c2 nL d' mc ms g (.ref a :: As) ws Post) (hc : ClsOk ci y.cls T N ty) (hg : ws[i]? = some (a, .inr (ci, fs))) (hn : As.length = n) (hst : (st.map fun v => v.category).sum ≤ 8) (hc1 : cs + mc ≤ (kR K).cells) (hs1 : ss + ms ≤ (kR K).slots) (hd : decode cc pc = .ok (.invokevirtual idx, 3))
    (kk : ∀ ws' : va_W, Post ws' → Wp K g ws' (cs + mc) (ss + ms) (pc + 3) lv st) : Wp K g ws cs ss pc lv (As.reverse ++ .ref a :: st) := by
  intro H locs ls hP hD hS hl
  have hf := hK.f
  have hlo := hK.lo
  have h21 := hy.2.2.2
  refine wp_call (vals := .ref a :: As) (rest := st) (va_runV (As := As) (rest := st) ⟨hK.x, hK.b, hK.ml, hK.o, hK.t⟩ hm ⟨callB_of n hK.t (ck_gd hy) rfl rfl rfl (hK.t _ hy.2.1) (hK.t _ hw) hy.2.2.1 ⟨by show d' + 1 ≤ _; omega, by show 8 + (nL + 11) + 40 * d' ≤ _; omega⟩, hK.t _ hi, hK.t _ hsel⟩ ⟨cw_blind _, va_recv hK.k hP hc.1 hg, fun U hU hW => ⟨rfl, cw_at hK hP hD hS hU hW⟩⟩ rfl hn hl.1 rfl (lv_room hst) hd ⟨hc1, hs1⟩) hS hl kk
theorem p_callS (hK : KC K g cc own d) (hy : CkB y c2 nL none n) (hi : Cond.static y ∈ TB) (hw : Cond.methodLink own idx y ∈ TB) (hdd : d' + 1 ≤ d) (hm : MetK (kL K) y c2 nL d' mc ms g As ws Post) (hn : As.length = n) (hst : (st.map fun v => v.category).sum ≤ 8) (hc1 : cs + mc ≤ (kR K).cells) (hs1 : ss + ms ≤ (kR K).slots) (hd : decode cc pc = .ok (.invokestatic idx, 3))
    (kk : ∀ ws' : va_W, Post ws' → Wp K g ws' (cs + mc) (ss + ms) (pc + 3) lv st) : Wp K g ws cs ss pc lv (As.reverse ++ st) := by
  intro H locs ls hP hD hS hl
  have hf := hK.f
  have hlo := hK.lo
  have h21 := hy.2.2.2
  refine wp_call (vals := As) (rest := st) (va_runS (As := As) (rest := st) ⟨hK.x, hK.b, hK.ml, hK.o, hK.t⟩ hm ⟨callB_of n hK.t (ck_gd hy) rfl rfl rfl (hK.t _ hy.2.1) (hK.t _ hw) hy.2.2.1 ⟨by show d' + 1 ≤ _; omega, by show 8 + (nL + 11) + 40 * d' ≤ _; omega⟩, hK.t _ hi⟩ ⟨cw_blind _, fun U hU hW => ⟨rfl, cw_at hK hP hD hS hU hW⟩⟩ rfl hn hl.1 rfl (lv_room hst) hd ⟨hc1, hs1⟩) hS hl kk
theorem p_mmax (hK : KC K g cc own d) {a b : Int} (hw : Cond.methodLink own idx Lib.Math.max.name ∈ TB) (hd1 : 1 ≤ d) (hst : (st.map fun v => v.category).sum ≤ 8) (hr : R32 a ∧ R32 b) (hc1 : cs ≤ (kR K).cells) (hs1 : ss ≤ (kR K).slots) (hd : decode cc pc = .ok (.invokestatic idx, 3)) (k : Wp K g ws cs ss (pc + 3) lv (.int (I (max a b)) :: st)) : Wp K g ws cs ss pc lv (.int (I b) :: .int (I a) :: st) := by
  intro H locs ls hP hD hS hl
  have hf := hK.f
  have hlo := hK.lo
  refine va_mmax hK.x hK.b (by rw [hK.ml]; exact hl.1.symm) hK.o (hK.t _ hw) (hK.t _ mt_max.1) (hK.t _ mt_max.2.1) (hK.t _ mt_max.2.2) (by omega) (by omega) hc1 hs1 hd ?_
  have e : (if I a < I b then I b else I a) = I (max a b) := by
    by_cases hc : a < b
    · rw [if_pos ((I_lt hr.1 hr.2).mpr hc), Int.max_eq_right (by omega)]
    · rw [if_neg (fun q => hc ((I_lt hr.1 hr.2).mp q)), Int.max_eq_left (by omega)]
  rw [e]
  exact k H locs ls hP hD hS hl
end GR

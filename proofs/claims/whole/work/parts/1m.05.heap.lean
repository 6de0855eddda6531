/-! ROWS of the heap, of calls and of ends. -/
/-- a class as the tables have it -/
def ClsOk (ci : Nat) (C : String) (T : u_T) (N : Nat) (ty : Nat → FieldType) : Prop := vwCl[ci]? = some (C, T, N) ∧ (∀ w ∈ u_ws C T N, w ∈ TB) ∧ (∀ k, k < N → parseFieldDescriptor (T k).2.2.1 = some (ty k)) ∧ (∀ a, a < N → ∀ b, b < N → a ≠ b → (T a).2.1 ≠ (T b).2.1) ∧ (∀ k, k < N → (T k).1 = C)
section HP
variable {K : KT} {g : GT} {cc : ByteArray} {own : String} {d : Nat} {M : Mem} {pc : Nat} {lv : List (Option Value)} {st : List Value} {C : String} {T : u_T} {N ci j k k' idx : Nat} {ty : Nat → FieldType} {fl : List (Option Nat)} {host : String}
theorem ws_o (hk : k < 114) (hs : sh k = .inr (ci, fl)) : (wsM g M)[k]? = some (gA g k, .inr (ci, fv g M k 0 fl)) := by rw [wsM_at hk, cellAt_o hs]
theorem ws_a {t n : Nat} (hk : k < 114) (hs : sh k = .inl (t, n)) (ht : t < 2) : (wsM g M)[k]? = some (gA g k, .inl (gC g t, n, .inl (fun j => I (M k j)))) := by rw [wsM_at hk, cellAt_a hs, av, if_pos ht]
theorem ws_r {t n : Nat} (hk : k < 114) (hs : sh k = .inl (t, n)) (ht : ¬ t < 2) : (wsM g M)[k]? = some (gA g k, .inl (gC g t, n, .inr (.inr (.inr (.inr (fun j => some (gA g (rb t + j)))))))) := by rw [wsM_at hk, cellAt_a hs, av, if_neg ht]
/-- getfield: a reference, a number -/
theorem r_getR (hK : Kok K g cc own d) (hc : ClsOk ci C T N ty) (hw : Cond.fieldLink own idx C (T j).2.1 (T j).2.2.1 ∈ TB) (hj : j < N) (hk : k < 114) (hs : sh k = .inr (ci, fl)) (hf : fl[j]? = some (some k')) (hd : decode cc pc = .ok (.getfield idx, 3))
    (kk : Wn K g M (pc + 3) lv (.ref (gA g k') :: st)) : Wn K g M pc lv (.ref (gA g k) :: st) :=
  fun H locs ls hP hS hl => va_get hK.x hK.b hK.t hc.2.1 hK.o hK.k hP k (ws_o hk hs) hc.1 j hj (hK.t _ hw) (fun x h => by rw [hc.2.2.2.2 j hj] at h; exact h) (fv_get_s hf) hd (kk H locs ls hP hS hl)
theorem r_getI (hK : Kok K g cc own d) (hc : ClsOk ci C T N ty) (hw : Cond.fieldLink own idx C (T j).2.1 (T j).2.2.1 ∈ TB) (hj : j < N) (hk : k < 114) (hs : sh k = .inr (ci, fl)) (hf : fl[j]? = some none) (hd : decode cc pc = .ok (.getfield idx, 3)) {z : Int} (hz : M k j = z)
    (kk : Wn K g M (pc + 3) lv (.int (I z) :: st)) : Wn K g M pc lv (.ref (gA g k) :: st) :=
  fun H locs ls hP hS hl => va_get hK.x hK.b hK.t hc.2.1 hK.o hK.k hP k (ws_o hk hs) hc.1 j hj (hK.t _ hw) (fun x h => by rw [hc.2.2.2.2 j hj] at h; exact h) (by have := fv_get_n (g := g) (M := M) (k := k) (b := 0) hf; rw [Nat.zero_add, hz] at this; exact this) hd (kk H locs ls hP hS hl)
theorem nest_w (hK : Kok K g cc own d) {w : Cond} (hn : w ∈ NS) : w.before (kA K) (kS K) = true := va_Nw.use (by have := (List.mem_filter.mp hn).2; cases w <;> first | rfl | (simp [isN] at this)) (hK.e.1 _ hn)
theorem r_getRN (hK : Kok K g cc own d) (hc : ClsOk ci C T N ty) (hw : Cond.fieldLinkNest own idx C (T j).2.1 (T j).2.2.1 host ∈ NS) (hj : j < N) (hk : k < 114) (hs : sh k = .inr (ci, fl)) (hf : fl[j]? = some (some k')) (hd : decode cc pc = .ok (.getfield idx, 3))
    (kk : Wn K g M (pc + 3) lv (.ref (gA g k') :: st)) : Wn K g M pc lv (.ref (gA g k) :: st) :=
  fun H locs ls hP hS hl => va_getN hK.x hK.b hK.t hc.2.1 hK.o hK.k hP k (ws_o hk hs) hc.1 j hj (nest_w hK hw) (fun x h => by rw [hc.2.2.2.2 j hj] at h; exact h) (fv_get_s hf) hd (kk H locs ls hP hS hl)
theorem r_getIN (hK : Kok K g cc own d) (hc : ClsOk ci C T N ty) (hw : Cond.fieldLinkNest own idx C (T j).2.1 (T j).2.2.1 host ∈ NS) (hj : j < N) (hk : k < 114) (hs : sh k = .inr (ci, fl)) (hf : fl[j]? = some none) (hd : decode cc pc = .ok (.getfield idx, 3)) {z : Int} (hz : M k j = z)
    (kk : Wn K g M (pc + 3) lv (.int (I z) :: st)) : Wn K g M pc lv (.ref (gA g k) :: st) :=
  fun H locs ls hP hS hl => va_getN hK.x hK.b hK.t hc.2.1 hK.o hK.k hP k (ws_o hk hs) hc.1 j hj (nest_w hK hw) (fun x h => by rw [hc.2.2.2.2 j hj] at h; exact h) (by have := fv_get_n (g := g) (M := M) (k := k) (b := 0) hf; rw [Nat.zero_add, hz] at this; exact this) hd (kk H locs ls hP hS hl)
/-- putfield of a number (M' the memory behind it) -/
theorem r_put (hK : Kok K g cc own d) (hc : ClsOk ci C T N ty) (hw : Cond.fieldLink own idx C (T j).2.1 (T j).2.2.1 ∈ TB) (hj : j < N) (hk : k < 114) (hs : sh k = .inr (ci, fl)) (hf : fl[j]? = some none) (hfin : (T j).2.2.2 = false) {z : Int} (hn : narrow (ty j) (.int (I z)) = .int (I z)) (hfit : fits (ty j) (.int (I z)) = true) (hd : decode cc pc = .ok (.putfield idx, 3)) {M' : Mem} (hM : up M k j z = M')
    (kk : Wn K g M' (pc + 3) lv st) : Wn K g M pc lv (.int (I z) :: .ref (gA g k) :: st) := by
  intro H locs ls hP hS hl
  refine va_put (ty := ty j) hK.x hK.b hK.t hc.2.1 ty hc.2.2.1 hc.2.2.2.1 hK.o hK.k hP (hK.dd M) hS k (ws_o hk hs) hc.1 j hj (hK.t _ hw) (fun x h => by rw [hc.2.2.2.2 j hj] at h; exact h) hfin (hc.2.2.1 j hj) hn hfit (by rw [fv_len]; rcases Nat.lt_or_ge j fl.length with q | q; exact q; rw [List.getElem?_eq_none q] at hf; cases hf) hd (fun H1 locs1 hP1 hD1 hS1 => ?_)
  rw [ws_putf hk hs hf, hM] at hP1
  exact kk H1 locs1 ls hP1 hS1 hl
theorem r_putN (hK : Kok K g cc own d) (hc : ClsOk ci C T N ty) (hw : Cond.fieldLinkNest own idx C (T j).2.1 (T j).2.2.1 host ∈ NS) (hj : j < N) (hk : k < 114) (hs : sh k = .inr (ci, fl)) (hf : fl[j]? = some none) (hfin : (T j).2.2.2 = false) {z : Int} (hn : narrow (ty j) (.int (I z)) = .int (I z)) (hfit : fits (ty j) (.int (I z)) = true) (hd : decode cc pc = .ok (.putfield idx, 3)) {M' : Mem} (hM : up M k j z = M')
    (kk : Wn K g M' (pc + 3) lv st) : Wn K g M pc lv (.int (I z) :: .ref (gA g k) :: st) := by
  intro H locs ls hP hS hl
  refine va_putN (ty := ty j) hK.x hK.b hK.t hc.2.1 ty hc.2.2.1 hc.2.2.2.1 hK.o hK.k hP (hK.dd M) hS k (ws_o hk hs) hc.1 j hj (nest_w hK hw) (fun x h => by rw [hc.2.2.2.2 j hj] at h; exact h) hfin (hc.2.2.1 j hj) hn hfit (by rw [fv_len]; rcases Nat.lt_or_ge j fl.length with q | q; exact q; rw [List.getElem?_eq_none q] at hf; cases hf) hd (fun H1 locs1 hP1 hD1 hS1 => ?_)
  rw [ws_putf hk hs hf, hM] at hP1
  exact kk H1 locs1 ls hP1 hS1 hl
/-- arrays -/
theorem r_alen (hK : Kok K g cc own d) {t n : Nat} (hk : k < 114) (hs : sh k = .inl (t, n)) (ht : t < 4) (hd : decode cc pc = .ok (.arraylength, 1)) (kk : Wn K g M (pc + 1) lv (.int (I n) :: st)) : Wn K g M pc lv (.ref (gA g k) :: st) := by
  intro H locs ls hP hS hl
  have hq : ∃ y, (tys g)[t]? = some (gC g t, y) := by
    rcases (show t = 0 ∨ t = 1 ∨ t = 2 ∨ t = 3 by omega) with rfl | rfl | rfl | rfl <;> exact ⟨_, rfl⟩
  obtain ⟨y, hy⟩ := hq
  have hx : (av g M k t n).1 = n := by unfold av; split <;> rfl
  exact va_alen hK.x hK.b hK.k hP k t (x := av g M k t n) (by rw [wsM_at hk, cellAt_a hs]) hy (v := I n) (by rw [hx]; rfl) hd (kk H locs ls hP hS hl)
theorem r_iaload (hK : Kok K g cc own d) {n : Nat} {i : Int} (hk : k < 114) (hs : sh k = .inl (0, n)) (hn : n < 2147483648) (hi : 0 ≤ i ∧ i < n) (hd : decode cc pc = .ok (.iaload, 1)) {z : Int} (hz : M k i.toNat = z)
    (kk : Wn K g M (pc + 1) lv (.int (I z) :: st)) : Wn K g M pc lv (.int (I i) :: .ref (gA g k) :: st) := by
  intro H locs ls hP hS hl
  obtain ⟨h1, h2⟩ := I_nat hi.1 hi.2 hn
  refine va_iald hK.x hK.b hK.k hP k 0 (ws_a hk hs (by decide)) rfl h1 hd ?_
  rw [h2, hz]
  exact kk H locs ls hP hS hl
theorem r_baload (hK : Kok K g cc own d) {n : Nat} {i : Int} (hk : k < 114) (hs : sh k = .inl (1, n)) (hn : n < 2147483648) (hi : 0 ≤ i ∧ i < n) (hd : decode cc pc = .ok (.baload, 1)) {z : Int} (hz : M k i.toNat = z)
    (kk : Wn K g M (pc + 1) lv (.int (I z) :: st)) : Wn K g M pc lv (.int (I i) :: .ref (gA g k) :: st) := by
  intro H locs ls hP hS hl
  obtain ⟨h1, h2⟩ := I_nat hi.1 hi.2 hn
  refine va_zald hK.x hK.b hK.k hP k 1 (ws_a hk hs (by decide)) rfl h1 hd ?_
  rw [h2, hz]
  exact kk H locs ls hP hS hl
theorem r_aaload (hK : Kok K g cc own d) {t n : Nat} {i : Int} (hk : k < 114) (hs : sh k = .inl (t, n)) (ht : t = 2 ∨ t = 3) (hn : n < 2147483648) (hi : 0 ≤ i ∧ i < n) (hd : decode cc pc = .ok (.aaload, 1))
    (kk : Wn K g M (pc + 1) lv (.ref (gA g (rb t + i.toNat)) :: st)) : Wn K g M pc lv (.int (I i) :: .ref (gA g k) :: st) := by
  intro H locs ls hP hS hl
  obtain ⟨h1, h2⟩ := I_nat hi.1 hi.2 hn
  rcases ht with rfl | rfl
  · refine va_aldq hK.x hK.b hK.k hP k 2 (ws_r hk hs (by decide)) rfl h1 hd ?_
    rw [h2]
    exact kk H locs ls hP hS hl
  · refine va_aldq hK.x hK.b hK.k hP k 3 (ws_r hk hs (by decide)) rfl h1 hd ?_
    rw [h2]
    exact kk H locs ls hP hS hl
theorem r_iastore (hK : Kok K g cc own d) {n : Nat} {i z : Int} (hk : k < 114) (hs : sh k = .inl (0, n)) (hn : n < 2147483648) (hi : 0 ≤ i ∧ i < n) (hd : decode cc pc = .ok (.iastore, 1)) {M' : Mem} (hM : up M k i.toNat z = M')
    (kk : Wn K g M' (pc + 1) lv st) : Wn K g M pc lv (.int (I z) :: .int (I i) :: .ref (gA g k) :: st) := by
  intro H locs ls hP hS hl
  obtain ⟨h1, h2⟩ := I_nat hi.1 hi.2 hn
  refine va_iast hK.x hK.b hK.k hP (hK.dd M) hS k 0 (ws_a hk hs (by decide)) rfl h1 hd (fun H1 locs1 hP1 hD1 hS1 => ?_)
  rw [h2, ws_puta hk hs (by decide), hM] at hP1
  exact kk H1 locs1 ls hP1 hS1 hl
theorem r_bastore (hK : Kok K g cc own d) {n : Nat} {i z : Int} (hk : k < 114) (hs : sh k = .inl (1, n)) (hn : n < 2147483648) (hi : 0 ≤ i ∧ i < n) (hz : vp_nar .boolean (I z) = I z) (hd : decode cc pc = .ok (.bastore, 1)) {M' : Mem} (hM : up M k i.toNat z = M')
    (kk : Wn K g M' (pc + 1) lv st) : Wn K g M pc lv (.int (I z) :: .int (I i) :: .ref (gA g k) :: st) := by
  intro H locs ls hP hS hl
  obtain ⟨h1, h2⟩ := I_nat hi.1 hi.2 hn
  refine va_zast hK.x hK.b hK.k hP (hK.dd M) hS k 1 (ws_a hk hs (by decide)) rfl h1 hd (fun H1 locs1 hP1 hD1 hS1 => ?_)
  rw [h2, hz, ws_puta hk hs (by decide), hM] at hP1
  exact kk H1 locs1 ls hP1 hS1 hl
end HP
/-! contracts: Qv says what comes back, and the memory then -/
def Qc (g : GT) (Qv : Option Value → Mem → Prop) : Array Value → State → Outcome → State → Prop := fun _ st oc t => (∃ (v : Option Value) (M : Mem), oc = .returned v ∧ Qv v M ∧ World g M t) ∧ va_F (gS g) st t
def MetC (l : Launch) (y : MethodName) (cc : ByteArray) (nL : Nat) (ret : Option FieldType) (d : Nat) (g : GT) (vals : List Value) (M : Mem) (Qv : Option Value → Mem → Prop) : Prop :=
  Met l y (Cond.code y cc nL ret :: TB) (rm d) (va_Pc vals (World g M)) (Qc g Qv) 0 0 (gS g)
def QI (φ : Mem → Mem) (Q : Mem → Int → Prop) : Option Value → Mem → Prop := fun v M => ∃ C z, v = some (.int (I z)) ∧ M = φ C ∧ Q C z
def QV (φ : Mem → Mem) (Q : Mem → Int → Prop) : Option Value → Mem → Prop := fun v M => ∃ C, v = none ∧ M = φ C ∧ Q C 0
def QL (φ : Mem → Mem) (Q : Mem → Int → Prop) : Option Value → Mem → Prop := fun v M => ∃ C z, v = some (.long (LL z)) ∧ M = φ C ∧ Q C z
def QP (g : GT) (φ : Mem → Mem) (Q : Mem → Nat → Prop) : Option Value → Mem → Prop := fun v M => ∃ C i, v = some (.ref (gA g (27 + i))) ∧ i < 34 ∧ M = φ C ∧ Q C i
section EN
variable {K : KT} {g : GT} {cc : ByteArray} {own : String} {d : Nat} {M : Mem} {pc : Nat} {lv : List (Option Value)} {st : List Value}
theorem World.warm {U V : State} (h : World g M U) (hW : U.WarmedH V.vm) (hh : V.heap = U.heap) : World g M V := by
  obtain ⟨h1, h2, h3, h4⟩ := h
  exact ⟨by rw [hh]; exact h1, va_K.moved hW.alike h2, h3, h4.warm hW (fun q _ _ => by rw [hh])⟩
theorem World.blind (vals : List Value) : FrameBlind (va_Pc vals (World g M)) := by
  intro a U gg mk h
  obtain ⟨h0, h1, h2, h3, h4⟩ := h
  exact ⟨h0, h1, va_K.moved (u := U) (U := U.calling gg mk a) (Vm.Alike.refl U.vm) h2, h3, h4.same rfl rfl⟩
/-- the state behind some rows is the world again -/
theorem world_at (hK : Kok K g cc own d) {H : Heap} {locs : List Loc} {t : State} (hP : va_P (gD g) vwCl (wsM g M) H) (hS : va_S (gS g) (kS K).heap H locs) (ht : t.heap = H) (hW : (kS K).WarmedH t.vm) : World g M t :=
  ⟨by rw [ht]; exact hP, va_K.moved hW.alike hK.k, hK.dd M, hK.e.warm hW (fun q h1 h2 => by rw [ht]; exact hS.2.1 q h1 h2)⟩
/-- ends -/
theorem r_ireturn (hK : Kok K g cc own d) {ty : FieldType} (hr : (kMe K).sig.returnType = some ty) {z : Int} {Qv : Option Value → Mem → Prop} (hQ : kQ K = MQ (kB K) (Qc g Qv) (kA K) (kS K) (kc K) (ks K) (gS g)) (hn : narrow ty (.int (I z)) = .int (I z)) (hd : decode cc pc = .ok (.ireturn, 1)) (h : Qv (some (.int (I z))) M) : Wn K g M pc lv [.int (I z)] := by
  intro H locs ls hP hS hl
  rw [hQ]
  exact W.zret hK.x hK.b hr hn (fun t ht hW => ⟨⟨_, M, rfl, h, world_at hK hP hS ht hW⟩, hS.F ht⟩) hS.2.2 hd hK.lk
theorem r_return (hK : Kok K g cc own d) (hr : (kMe K).sig.returnType = none) {Qv : Option Value → Mem → Prop} (hQ : kQ K = MQ (kB K) (Qc g Qv) (kA K) (kS K) (kc K) (ks K) (gS g)) (hd : decode cc pc = .ok (.return_, 1)) (h : Qv none M) : Wn K g M pc lv [] := by
  intro H locs ls hP hS hl
  rw [hQ]
  exact W.vret hK.x hK.b hr (fun t ht hW => ⟨⟨_, M, rfl, h, world_at hK hP hS ht hW⟩, hS.F ht⟩) hS.2.2 hd hK.lk
theorem r_lreturn (hK : Kok K g cc own d) (hr : (kMe K).sig.returnType = some .long) {z : Int} {Qv : Option Value → Mem → Prop} (hQ : kQ K = MQ (kB K) (Qc g Qv) (kA K) (kS K) (kc K) (ks K) (gS g)) (hd : decode cc pc = .ok (.lreturn, 1)) (h : Qv (some (.long (LL z))) M) : Wn K g M pc lv [.long (LL z)] := by
  intro H locs ls hP hS hl
  rw [hQ]
  exact W.lret hK.x hK.b hr (fun t ht hW => ⟨⟨_, M, rfl, h, world_at hK hP hS ht hW⟩, hS.F ht⟩) hS.2.2 hd hK.lk
theorem r_areturn (hK : Kok K g cc own d) {n : String} (hr : (kMe K).sig.returnType = some (.object n)) {a : Nat} {Qv : Option Value → Mem → Prop} (hQ : kQ K = MQ (kB K) (Qc g Qv) (kA K) (kS K) (kc K) (ks K) (gS g)) (hd : decode cc pc = .ok (.areturn, 1)) (h : Qv (some (.ref a)) M) : Wn K g M pc lv [.ref a] := by
  intro H locs ls hP hS hl
  rw [hQ]
  exact W.aret hK.x hK.b hr (Or.inl ⟨n, rfl⟩) (Or.inr ⟨a, rfl⟩) (fun t ht hW => ⟨⟨_, M, rfl, h, world_at hK hP hS ht hW⟩, hS.F ht⟩) hS.2.2 hd hK.lk
/-- a contract out of a walk -/
theorem met_of {l : Launch} {y : MethodName} {nL : Nat} {ret : Option FieldType} {vals : List Value} {Qv : Option Value → Mem → Prop} (hy : plainName y.cls = true) (hlen : (lg_sl vals).length ≤ nL) (hlv : ∀ (i : Nat) (v : Value), lv[i]? = some (some v) → (i, v) ∈ lv_args 0 vals)
    (body : ∀ K : KT, Kok K g cc y.cls d → kN K = nL → kL K = l → (kMe K).sig.returnType = ret → kQ K = MQ (kB K) (Qc g Qv) (kA K) (kS K) (kc K) (ks K) (gS g) → (kMe K).name = y.name → Wn K g M 0 lv []) : MetC l y cc nL ret d g vals M Qv := by
  refine Met.ofW (cc := cc) (maxL := nL) (ret := ret) hy rfl ?_
  intro p e s m args below meth c s₁ B hml hv
  obtain ⟨rfl, hP, hK, hD, hE⟩ := hv
  have hts := atoms_spec (ws := Cond.code y cc nL ret :: TB) B.pre
  have h := body (p, l, e, rm d, s, m, vals.toArray, below, meth, c, MQ below (Qc g Qv) vals.toArray s 0 0 (gS g), nL, 0, 0) ⟨B.exec, B.bytes, hml, findClass_of_methodNamed B.named, fun w hw => hts w (List.mem_cons_of_mem _ hw), hK, fun M' => wsM_D hD, hE, B.notSynchronized, Nat.le_refl _, Nat.le_refl _, Nat.le_refl _, Nat.le_refl _⟩ rfl rfl B.returns rfl (name_of_methodNamed B.named B.method).1
  have hl := lv_entry vals (n := nL) hlen
  rw [lg_entry_eq]
  exact h s.heap [] _ hP va_S.rf ⟨hl.1, hl.2.1, fun i v hi => hl.2.2 (i, v) (hlv i v hi)⟩
/-- calls -/
theorem w_call {vals rest : List Value} {H : Heap} {locs : List Loc} {ls : Array Slot} {st0 : List Value} {Qv : Option Value → Mem → Prop} (hK : Kok K g cc own d)
    (hr : va_Run (kP K) (kL K) (kE K) (kR K) (kS K) (kM K) (kA K) (kB K) (kMe K) (kC K) H locs (kc K) (ks K) 0 0 (F0 (kM K) pc ls st0) rest (Qc g Qv vals.toArray) (gS g)) (hS : va_S (gS g) (kS K).heap H locs) (hl : lh ls (kN K) lv)
    (kk : ∀ (v : Option Value) (M' : Mem), Qv v M' → Wn K g M' (pc + 3) lv (v.toList ++ rest)) : W (kP K) (kL K) (kE K) (kR K) (kS K) (kM K) (kA K) (kB K) (kMe K) (kC K) H locs (kc K) (ks K) (kQ K) (F0 (kM K) pc ls st0) := by
  intro T hT X
  obtain ⟨v, st₀, t, T', L, h0, X', hL, e1, e2, ⟨⟨v', M', hv, hq, hw⟩, hz, hk⟩, go⟩ := hr T hT X
  cases hv
  rw [h0] at hz hk
  have hS' : va_S (gS g) (kS K).heap T'.heap (locs ++ L) := by
    refine ⟨Nat.le_trans hS.1 (by rw [e1]; exact hz), fun q h1 h2 => ?_, fun q hq => ?_⟩
    · rw [e1, hk q (Nat.lt_of_lt_of_le h1 hS.1) h2]
      exact hS.2.1 q h1 h2
    · rcases List.mem_append.mp hq with h | h
      · exact hS.2.2 q h
      · exact hL q h
  obtain ⟨t2, a1, b1⟩ := kk v M' hq T'.heap (locs ++ L) ls (by rw [e1]; exact hw.1) hS' hl T' rfl X'
  exact ⟨t2, go t2 a1, b1⟩
/-- what the tables say of a method that is called -/
def CkB (y : MethodName) (cc : ByteArray) (nL : Nat) (ret : Option FieldType) (n : Nat) : Prop := Cond.code y cc nL ret ∈ TB ∧ Cond.initialized y.cls ∈ TB ∧ (y.cls ≠ "java/lang/invoke/MethodHandle" ∧ y.cls ≠ "java/lang/invoke/VarHandle" ∧ (parseMethodDescriptor y.desc).map (fun d => d.parameters.length) = some n) ∧ nL ≤ 21
variable {y : MethodName} {c2 : ByteArray} {nL n d' idx k ci : Nat} {ret : Option FieldType} {As : List Value} {Qv : Option Value → Mem → Prop} {fl : List (Option Nat)} {C : String} {T : u_T} {N : Nat} {ty : Nat → FieldType} {host : String}
theorem ck_gd (hy : CkB y c2 nL ret n) : GoodIn TB (Cond.code y c2 nL ret :: TB) := TB_GoodIn (fun w h => (List.mem_cons.mp h).elim (fun e => by rw [e]; exact hy.1) id)
theorem room_le (hK : Kok K g cc own d) (hd : d' + 1 ≤ d) (hn : nL ≤ 21) : (rm d').frames + 1 ≤ (kR K).frames ∧ 8 + (nL + 11) + (rm d').locals ≤ (kR K).locals := by
  have h1 := hK.f
  have h2 := hK.l
  refine ⟨?_, ?_⟩
  · show d' + 1 ≤ _; omega
  · show 8 + (nL + 11) + 40 * d' ≤ _; omega
theorem ck_B (hK : Kok K g cc own d) (hy : CkB y c2 nL ret n) (hw : Cond.methodLink own idx y ∈ TB) (hdd : d' + 1 ≤ d) : CallB (kR K) (kS K) (kA K) own idx y c2 nL ret (Cond.code y c2 nL ret :: TB) (rm d') 0 0 n :=
  callB_of n hK.t (ck_gd hy) rfl rfl rfl (hK.t _ hy.2.1) (hK.t _ hw) hy.2.2.1 (room_le hK hdd hy.2.2.2)
theorem ck_N (hK : Kok K g cc own d) (hy : CkB y c2 nL ret n) (hw : Cond.methodLinkNest own idx y host ∈ NS) (hdd : d' + 1 ≤ d) : va_CN (kR K) (kS K) (kA K) own idx y host c2 nL ret (Cond.code y c2 nL ret :: TB) (rm d') 0 0 n :=
  va_cnB n hK.t (ck_gd hy) rfl rfl rfl (hK.e.1 _ hw) (hK.t _ hy.2.1) hy.2.2.1 (room_le hK hdd hy.2.2.2)
theorem r_callV (hK : Kok K g cc own d) (hy : CkB y c2 nL ret n) (hi : Cond.instanceMethod y ∈ TB) (hsel : Cond.selects y.cls y y ∈ TB) (hw : Cond.methodLink own idx y ∈ TB) (hdd : d' + 1 ≤ d) (hm : MetC (kL K) y c2 nL ret d' g (.ref (gA g k) :: As) M Qv) (hc : ClsOk ci y.cls T N ty) (hk : k < 114) (hs : sh k = .inr (ci, fl)) (hn : As.length = n) (hst : (st.map fun v => v.category).sum ≤ 8) (hd : decode cc pc = .ok (.invokevirtual idx, 3))
    (kk : ∀ (v : Option Value) (M' : Mem), Qv v M' → Wn K g M' (pc + 3) lv (v.toList ++ st)) : Wn K g M pc lv (As.reverse ++ .ref (gA g k) :: st) := by
  intro H locs ls hP hS hl
  refine w_call hK (vals := .ref (gA g k) :: As) (rest := st) (va_runV (As := As) (rest := st) ⟨hK.x, hK.b, hK.ml, hK.o, hK.t⟩ hm ⟨ck_B hK hy hw hdd, hK.t _ hi, hK.t _ hsel⟩ ⟨World.blind _, va_recv hK.k hP hc.1 (ws_o hk hs), fun U hU hW => ⟨rfl, world_at hK hP hS hU hW⟩⟩ rfl hn hl.1 rfl (lv_room hst) hd hK.cs) hS hl kk
theorem r_callS (hK : Kok K g cc own d) (hy : CkB y c2 nL ret n) (hi : Cond.static y ∈ TB) (hw : Cond.methodLink own idx y ∈ TB) (hdd : d' + 1 ≤ d) (hm : MetC (kL K) y c2 nL ret d' g As M Qv) (hn : As.length = n) (hst : (st.map fun v => v.category).sum ≤ 8) (hd : decode cc pc = .ok (.invokestatic idx, 3))
    (kk : ∀ (v : Option Value) (M' : Mem), Qv v M' → Wn K g M' (pc + 3) lv (v.toList ++ st)) : Wn K g M pc lv (As.reverse ++ st) := by
  intro H locs ls hP hS hl
  refine w_call hK (vals := As) (rest := st) (va_runS (As := As) (rest := st) ⟨hK.x, hK.b, hK.ml, hK.o, hK.t⟩ hm ⟨ck_B hK hy hw hdd, hK.t _ hi⟩ ⟨World.blind _, fun U hU hW => ⟨rfl, world_at hK hP hS hU hW⟩⟩ rfl hn hl.1 rfl (lv_room hst) hd hK.cs) hS hl kk
theorem r_callSN (hK : Kok K g cc own d) (hy : CkB y c2 nL ret n) (hi : Cond.static y ∈ TB) (hw : Cond.methodLinkNest own idx y host ∈ NS) (hdd : d' + 1 ≤ d) (hm : MetC (kL K) y c2 nL ret d' g As M Qv) (hn : As.length = n) (hst : (st.map fun v => v.category).sum ≤ 8) (hd : decode cc pc = .ok (.invokestatic idx, 3))
    (kk : ∀ (v : Option Value) (M' : Mem), Qv v M' → Wn K g M' (pc + 3) lv (v.toList ++ st)) : Wn K g M pc lv (As.reverse ++ st) := by
  intro H locs ls hP hS hl
  refine w_call hK (vals := As) (rest := st) (va_runSN (As := As) (rest := st) ⟨hK.x, hK.b, hK.ml, hK.o, hK.t⟩ hm ⟨ck_N hK hy hw hdd, hK.t _ hi, trivial⟩ ⟨World.blind _, fun U hU hW => ⟨rfl, world_at hK hP hS hU hW⟩⟩ rfl hn hl.1 rfl (lv_room hst) hd hK.cs) hS hl kk
theorem r_callVN (hK : Kok K g cc own d) (hy : CkB y c2 nL ret n) (hi : Cond.instanceMethod y ∈ TB) (hsel : Cond.selects y.cls y y ∈ TB) (hw : Cond.methodLinkNest own idx y host ∈ NS) (hdd : d' + 1 ≤ d) (hm : MetC (kL K) y c2 nL ret d' g (.ref (gA g k) :: As) M Qv) (hc : ClsOk ci y.cls T N ty) (hk : k < 114) (hs : sh k = .inr (ci, fl)) (hn : As.length = n) (hst : (st.map fun v => v.category).sum ≤ 8) (hd : decode cc pc = .ok (.invokevirtual idx, 3))
    (kk : ∀ (v : Option Value) (M' : Mem), Qv v M' → Wn K g M' (pc + 3) lv (v.toList ++ st)) : Wn K g M pc lv (As.reverse ++ .ref (gA g k) :: st) := by
  intro H locs ls hP hS hl
  refine w_call hK (vals := .ref (gA g k) :: As) (rest := st) (va_runVN (As := As) (rest := st) ⟨hK.x, hK.b, hK.ml, hK.o, hK.t⟩ hm ⟨ck_N hK hy hw hdd, hK.t _ hi, hK.t _ hsel⟩ ⟨World.blind _, va_recv hK.k hP hc.1 (ws_o hk hs), fun U hU hW => ⟨rfl, world_at hK hP hS hU hW⟩⟩ rfl hn hl.1 rfl (lv_room hst) hd hK.cs) hS hl kk
end EN

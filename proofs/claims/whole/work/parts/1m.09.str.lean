/-! STRING CONSTANTS: length and charAt of the three command words, by the JDK's own code. -/
section ST
variable {K : KT} {g : GT} {cc : ByteArray} {own : String} {d : Nat} {M : Mem} {pc : Nat} {lv : List (Option Value)} {st : List Value}
theorem r_ldcS (hK : Kok K g cc own d) {idx q : Nat} {tx : String} (hZ : vk_R own idx tx q (kS K)) (hd : decode cc pc = .ok (.ldc idx, 2)) (k : Wn K g M (pc + 2) lv (.ref q :: st)) : Wn K g M pc lv st :=
  fun H locs ls hP hS hl => va_ldcS hK.x hK.b hK.o hZ hd (k H locs ls hP hS hl)
theorem r_gets (hK : Kok K g cc own d) {C n de : String} {v : Value} {idx : Nat} (hZ : va_Z C n de v (gS g) (kS K) (kS K).heap) (hw : Cond.fieldLink own idx C n de ∈ TB) (hd : decode cc pc = .ok (.getstatic idx, 3)) (k : Wn K g M (pc + 3) lv (v :: st)) : Wn K g M pc lv st :=
  fun H locs ls hP hS hl => va_gets hK.x hK.b hZ hS hK.o (hK.t _ hw) (fun _ h => h) hd (k H locs ls hP hS hl)
theorem r_sget (hK : Kok K g cc own d) {n de : String} {v : Value} {idx q : Nat} (hE : va_OF "java/lang/String" n de v q (gS g) (kS K) (kS K).heap) (hw : Cond.fieldLink own idx "java/lang/String" n de ∈ TB) (hd : decode cc pc = .ok (.getfield idx, 3)) (k : Wn K g M (pc + 3) lv (v :: st)) : Wn K g M pc lv (.ref q :: st) :=
  fun H locs ls hP hS hl => vk_getf hK.x hK.b hE hS hK.o (hK.t _ hw) (fun _ h => h) hd (k H locs ls hP hS hl)
theorem r_slen (hK : Kok K g cc own d) {t n : Nat} {f : Nat → Value} (hT : va_T .byte t n f (gS g) (kS K) (kS K).heap) (hd : decode cc pc = .ok (.arraylength, 1)) (k : Wn K g M (pc + 1) lv (.int (I n) :: st)) : Wn K g M pc lv (.ref t :: st) :=
  fun H locs ls hP hS hl => va_tlen hK.x hK.b hT hS (v := I n) rfl hd (k H locs ls hP hS hl)
theorem r_sld (hK : Kok K g cc own d) {t n : Nat} {f : Nat → Value} {i : Int} {v : Value} (hT : va_T .byte t n f (gS g) (kS K) (kS K).heap) (hn : n < 2147483648) (hi : 0 ≤ i ∧ i < n) (hv : f i.toNat = v) (hd : decode cc pc = .ok (.baload, 1)) (k : Wn K g M (pc + 1) lv (v :: st)) : Wn K g M pc lv (.int (I i) :: .ref t :: st) := by
  intro H locs ls hP hS hl
  obtain ⟨h1, h2⟩ := I_nat hi.1 hi.2 hn
  exact va_tb hK.x hK.b hT hS h1 (v := v) (by rw [h2]; exact hv) hd (k H locs ls hP hS hl)
theorem r_ishr (hK : Kok K g cc own d) {x y z : Int32} (hz : x >>> (y &&& 31) = z) (hd : decode cc pc = .ok (.ishr, 1)) (k : Wn K g M (pc + 1) lv (.int z :: st)) : Wn K g M pc lv (.int y :: .int x :: st) :=
  fun H locs ls hP hS hl => lv_ishr hK.x hK.b hd (by rw [hz]; exact k H locs ls hP hS hl)
theorem r_iandV (hK : Kok K g cc own d) {x y : Int32} (hd : decode cc pc = .ok (.iand, 1)) (k : Wn K g M (pc + 1) lv (.int (x &&& y) :: st)) : Wn K g M pc lv (.int y :: .int x :: st) :=
  fun H locs ls hP hS hl => lv_iand hK.x hK.b hd (k H locs ls hP hS hl)
theorem r_i2c (hK : Kok K g cc own d) {x v : Int32} (hv : (x.toUInt32 % 65536).toInt32 = v) (hd : decode cc pc = .ok (.i2c, 1)) (k : Wn K g M (pc + 1) lv (.int v :: st)) : Wn K g M pc lv (.int x :: st) :=
  fun H locs ls hP hS hl => lv_i2c hK.x hK.b hd hv (k H locs ls hP hS hl)
theorem r_pop (hK : Kok K g cc own d) {v : Value} (hv : v.category = 1) (hd : decode cc pc = .ok (.pop, 1)) (k : Wn K g M (pc + 1) lv st) : Wn K g M pc lv (v :: st) :=
  fun H locs ls hP hS hl => lv_pop hK.x hK.b hd hv (k H locs ls hP hS hl)
variable {y : MethodName} {c2 : ByteArray} {nL n d' idx w : Nat} {ret : Option FieldType} {As : List Value} {Qv : Option Value → Mem → Prop}
theorem r_callStr0 (hK : Kok K g cc own d) (hw3 : w < 3) (hy : CkB y c2 nL ret n) (hyc : y.cls = "java/lang/String") (hi : Cond.instanceMethod y ∈ TB) (hsel : Cond.selects y.cls y y ∈ TB) (hw : Cond.methodLink own idx y ∈ TB) (hdd : d' + 1 ≤ d) (hm : MetC (kL K) y c2 nL ret d' g (.ref (gK g w) :: As) M Qv) (hn : As.length = n) (hst : (st.map fun v => v.category).sum ≤ 8) (hd : decode cc pc = .ok (.invokevirtual idx, 3))
    (kk : ∀ (v : Option Value) (M' : Mem), Qv v M' → Wn K g M' (pc + 3) lv (v.toList ++ st)) : Wn K g M pc lv (As.reverse ++ .ref (gK g w) :: st) := by
  intro H locs ls hP hS hl
  refine w_call hK (vals := .ref (gK g w) :: As) (rest := st) (va_runV (As := As) (rest := st) ⟨hK.x, hK.b, hK.ml, hK.o, hK.t⟩ hm ⟨ck_B hK hy hw hdd, hK.t _ hi, hK.t _ hsel⟩ ⟨World.blind _, by rw [hyc]; exact vk_recv hK.e.2.1 hw3 hS, fun U hU hW => ⟨rfl, world_at hK hP hS hU hW⟩⟩ rfl hn hl.1 rfl (lv_room hst) hd hK.cs) hS hl kk
end ST
theorem tx_len : ∀ w, w < 3 → txL.getD w 0 < 5 := by decide
theorem tx_ch : ∀ w, w < 3 → ∀ j, j < txL.getD w 0 → ((((txB.getD w []).getD j 0) &&& I 255).toUInt32 % 65536).toInt32 = I (((txB.getD w []).getD j 0).toInt) ∧ narrow .char (.int (I (((txB.getD w []).getD j 0).toInt))) = .int (I (((txB.getD w []).getD j 0).toInt)) := by decide +kernel
theorem tx_shr : ∀ w, w < 3 → I (txL.getD w 0 : Nat) >>> ((I 0) &&& 31) = I (txL.getD w 0 : Nat) := by decide +kernel
theorem kf_38 : Cond.fieldLink RJ0 38 "java/lang/String" "COMPACT_STRINGS" "Z" ∈ TB := by decide +kernel
theorem kf_15 : Cond.fieldLink RJ0 15 "java/lang/String" "coder" "B" ∈ TB := by decide +kernel
theorem kf_9 : Cond.fieldLink RJ0 9 "java/lang/String" "value" "[B" ∈ TB := by decide +kernel
theorem kf_1053 : Cond.fieldLink RJ0 1053 "jdk/internal/util/Preconditions" "SIOOBE_FORMATTER" "Ljava/util/function/BiFunction;" ∈ TB := by decide +kernel
theorem km_335 : Cond.methodLink RJ0 335 yJ0_coder_7d493 ∈ TB := by decide +kernel
theorem km_492 : Cond.methodLink RJ0 492 yJ0_isLatin1_aae02 ∈ TB := by decide +kernel
theorem km_495 : Cond.methodLink RJ0 495 yJ1_charAt_3b067 ∈ TB := by decide +kernel
theorem km_9 : Cond.methodLink RJ1 9 yJ0_checkIndex_df160 ∈ TB := by decide +kernel
theorem km_1059 : Cond.methodLink RJ0 1059 yJ3_checkIndex_8e157 ∈ TB := by decide +kernel
theorem ck_J0_coder : CkB yJ0_coder_7d493 cJ0_coder_7d493 1 (some .byte) 0 := ⟨by decide +kernel, by decide +kernel, by decide +kernel, by decide⟩
theorem ck_J0_isLatin1 : CkB yJ0_isLatin1_aae02 cJ0_isLatin1_aae02 1 (some .boolean) 0 := ⟨by decide +kernel, by decide +kernel, by decide +kernel, by decide⟩
theorem ck_J1_charAt : CkB yJ1_charAt_3b067 cJ1_charAt_3b067 2 (some .char) 2 := ⟨by decide +kernel, by decide +kernel, by decide +kernel, by decide⟩
theorem ck_J0_checkIndex : CkB yJ0_checkIndex_df160 cJ0_checkIndex_df160 2 none 2 := ⟨by decide +kernel, by decide +kernel, by decide +kernel, by decide⟩
theorem ck_J3_checkIndex : CkB yJ3_checkIndex_8e157 cJ3_checkIndex_8e157 3 (some .int) 3 := ⟨by decide +kernel, by decide +kernel, by decide +kernel, by decide⟩
theorem im_J0_coder : Cond.instanceMethod yJ0_coder_7d493 ∈ TB := by decide +kernel
theorem sl_J0_coder : Cond.selects yJ0_coder_7d493.cls yJ0_coder_7d493 yJ0_coder_7d493 ∈ TB := by decide +kernel
theorem im_J0_isLatin1 : Cond.instanceMethod yJ0_isLatin1_aae02 ∈ TB := by decide +kernel
theorem sl_J0_isLatin1 : Cond.selects yJ0_isLatin1_aae02.cls yJ0_isLatin1_aae02 yJ0_isLatin1_aae02 ∈ TB := by decide +kernel
theorem sc_J1_charAt : Cond.static yJ1_charAt_3b067 ∈ TB := by decide +kernel
theorem sc_J0_checkIndex : Cond.static yJ0_checkIndex_df160 ∈ TB := by decide +kernel
theorem sc_J3_checkIndex : Cond.static yJ3_checkIndex_8e157 ∈ TB := by decide +kernel
def QM (M : Mem) (r : Option Value) : Option Value → Mem → Prop := fun v M' => v = r ∧ M' = M
theorem kkM {K : KT} {g : GT} {M : Mem} {pc : Nat} {lv : List (Option Value)} {st : List Value} {r : Option Value} (k : Wn K g M pc lv (r.toList ++ st)) : ∀ (v : Option Value) (M' : Mem), QM M r v M' → Wn K g M' pc lv (v.toList ++ st) := by
  rintro v M' ⟨rfl, rfl⟩
  exact k
theorem R32_c {z : Int} (h : -2147483648 ≤ z ∧ z < 2147483648) : R32 z := h
theorem c_coder {l : Launch} {g : GT} {M : Mem} {w : Nat} (hw : w < 3) : MetC l yJ0_coder_7d493 cJ0_coder_7d493 1 (some .byte) 1 g [.ref (gK g w)] M (QM M (some (.int (I 0)))) := by
  refine met_at 0 (lv := [some (.ref (gK g w))]) (by decide) (Nat.le_of_ble_eq_true rfl) rfl rfl (fun K hK hN hr hQ => ?_)
  refine r_gets (v := .int (I 1)) hK hK.e.2.2.2.2.2.1 kf_38 dJ0_coder_7d493_0 ?_
  refine r_if_eq (A := False) (B := True) hK dJ0_coder_7d493_3 (t := 13) (by decide) ⟨⟨by decide, by decide⟩, fun h => (by omega), fun _ => trivial⟩ (fun h => h.elim) (fun _ => ?_)
  refine r_aload_n hK dJ0_coder_7d493_6 rfl ?_
  refine r_sget (v := .int (I 0)) hK (hK.e.2.1.1 w hw).2.1 kf_15 dJ0_coder_7d493_7 ?_
  refine r_goto hK dJ0_coder_7d493_10 (t := 14) (by decide) ?_
  exact r_ireturn hK hr hQ (by decide) dJ0_coder_7d493_14 ⟨rfl, rfl⟩
theorem c_isLatin1 {l : Launch} {g : GT} {M : Mem} {w : Nat} (hw : w < 3) : MetC l yJ0_isLatin1_aae02 cJ0_isLatin1_aae02 1 (some .boolean) 1 g [.ref (gK g w)] M (QM M (some (.int (I 1)))) := by
  refine met_at 0 (lv := [some (.ref (gK g w))]) (by decide) (Nat.le_of_ble_eq_true rfl) rfl rfl (fun K hK hN hr hQ => ?_)
  refine r_gets (v := .int (I 1)) hK hK.e.2.2.2.2.2.1 kf_38 dJ0_isLatin1_aae02_0 ?_
  refine r_if_eq (A := False) (B := True) hK dJ0_isLatin1_aae02_3 (t := 17) (by decide) ⟨⟨by decide, by decide⟩, fun h => (by omega), fun _ => trivial⟩ (fun h => h.elim) (fun _ => ?_)
  refine r_aload_n hK dJ0_isLatin1_aae02_6 rfl ?_
  refine r_sget (v := .int (I 0)) hK (hK.e.2.1.1 w hw).2.1 kf_15 dJ0_isLatin1_aae02_7 ?_
  refine r_if_ne (A := True) (B := False) hK dJ0_isLatin1_aae02_10 (t := 17) (by decide) ⟨⟨by decide, by decide⟩, fun _ => trivial, fun h => h rfl⟩ (fun _ => ?_) (fun h => h.elim)
  refine r_iconst hK dJ0_isLatin1_aae02_13 ?_
  refine r_goto hK dJ0_isLatin1_aae02_14 (t := 18) (by decide) ?_
  exact r_ireturn hK hr hQ (by decide) dJ0_isLatin1_aae02_18 ⟨rfl, rfl⟩
theorem c_s_len {l : Launch} {g : GT} {X : Mem} {Q : Mem → Int → Prop} (a0 : Nat) (ha0 : a0 < 3) (C : Mem) (h : wpO (f_s_len a0 C) Q) : MetC l yJ0_length_8abf5 cJ0_length_8abf5 1 (some .int) 2 g [.ref (gK g a0)] (mrg C X) (QI (fun c => mrg c X) Q) := by
  refine met_at 0 (lv := [some (.ref (gK g a0))]) (by decide) (Nat.le_of_ble_eq_true rfl) rfl rfl (fun K hK hN hr hQ => ?_)
  unfold f_s_len at h
  refine r_aload_n hK dJ0_length_8abf5_0 rfl ?_
  refine r_sget (v := .ref (gV g a0)) hK (hK.e.2.1.1 a0 ha0).2.2.1 kf_9 dJ0_length_8abf5_1 ?_
  refine r_slen hK (hK.e.2.1.1 a0 ha0).2.2.2 dJ0_length_8abf5_4 ?_
  refine r_aload_n hK dJ0_length_8abf5_5 rfl ?_
  refine r_callStr0 hK ha0 ck_J0_coder rfl im_J0_coder sl_J0_coder km_335 (by decide) (c_coder ha0) (As := []) (st := [.int (I (txL.getD a0 0 : Nat))]) rfl (Nat.le_of_ble_eq_true rfl) dJ0_length_8abf5_6 (kkM ?_)
  refine r_ishr hK (tx_shr a0 ha0) dJ0_length_8abf5_9 ?_
  exact r_ireturn hK hr hQ rfl dJ0_length_8abf5_10 ⟨C, _, rfl, rfl, wpO_some h⟩
theorem c_preIndex {l : Launch} {g : GT} {M : Mem} {i n : Int} {v : Value} (hv : v.category = 1) (hi : 0 ≤ i ∧ i < n) (hn : n < 2147483648) : MetC l yJ3_checkIndex_8e157 cJ3_checkIndex_8e157 3 (some .int) 1 g [.int (I i), .int (I n), v] M (QM M (some (.int (I i)))) := by
  refine met_at 0 (lv := [some (.int (I i)), some (.int (I n)), some v]) (by decide) (by cases v <;> first | exact Nat.le_of_ble_eq_true rfl | cases hv) (by cases v <;> first | rfl | cases hv) rfl (fun K hK hN hr hQ => ?_)
  refine r_iload_n hK dJ3_checkIndex_8e157_0 rfl ?_
  refine r_if_lt (A := False) (B := True) hK dJ3_checkIndex_8e157_1 (t := 9) (by decide) ⟨⟨by constructor <;> omega, by decide⟩, fun h => by omega, fun _ => trivial⟩ (fun h => h.elim) (fun _ => ?_)
  refine r_iload_n hK dJ3_checkIndex_8e157_4 rfl ?_
  refine r_iload_n hK dJ3_checkIndex_8e157_5 rfl ?_
  refine r_icmp_lt (A := True) (B := False) hK dJ3_checkIndex_8e157_6 (t := 16) (by decide) ⟨⟨by constructor <;> omega, by constructor <;> omega⟩, fun _ => trivial, fun h => by omega⟩ (fun _ => ?_) (fun h => h.elim)
  refine r_iload_n hK dJ3_checkIndex_8e157_16 rfl ?_
  exact r_ireturn hK hr hQ rfl dJ3_checkIndex_8e157_17 ⟨rfl, rfl⟩
theorem c_strIndex {l : Launch} {g : GT} {M : Mem} {i n : Int} (hi : 0 ≤ i ∧ i < n) (hn : n < 2147483648) : MetC l yJ0_checkIndex_df160 cJ0_checkIndex_df160 2 none 2 g [.int (I i), .int (I n)] M (QM M none) := by
  refine met_at 0 (lv := [some (.int (I i)), some (.int (I n))]) (by decide) (Nat.le_of_ble_eq_true rfl) rfl rfl (fun K hK hN hr hQ => ?_)
  refine r_iload_n hK dJ0_checkIndex_df160_0 rfl ?_
  refine r_iload_n hK dJ0_checkIndex_df160_1 rfl ?_
  rcases hK.e.2.2.2.2.2.2 with hz | ⟨t, hz⟩
  · refine r_gets (v := .null) hK hz kf_1053 dJ0_checkIndex_df160_2 ?_
    refine r_callS hK ck_J3_checkIndex sc_J3_checkIndex km_1059 (by decide) (c_preIndex rfl hi hn) (As := [.int (I i), .int (I n), .null]) (st := []) rfl (Nat.le_of_ble_eq_true rfl) dJ0_checkIndex_df160_5 (kkM ?_)
    refine r_pop hK rfl dJ0_checkIndex_df160_8 ?_
    exact r_return hK hr hQ dJ0_checkIndex_df160_9 ⟨rfl, rfl⟩
  · refine r_gets (v := .ref t) hK hz kf_1053 dJ0_checkIndex_df160_2 ?_
    refine r_callS hK ck_J3_checkIndex sc_J3_checkIndex km_1059 (by decide) (c_preIndex rfl hi hn) (As := [.int (I i), .int (I n), .ref t]) (st := []) rfl (Nat.le_of_ble_eq_true rfl) dJ0_checkIndex_df160_5 (kkM ?_)
    refine r_pop hK rfl dJ0_checkIndex_df160_8 ?_
    exact r_return hK hr hQ dJ0_checkIndex_df160_9 ⟨rfl, rfl⟩
theorem c_latin {l : Launch} {g : GT} {M : Mem} {w : Nat} {i : Int} (hw : w < 3) (hi : 0 ≤ i ∧ i < (txL.getD w 0 : Nat)) : MetC l yJ1_charAt_3b067 cJ1_charAt_3b067 2 (some .char) 3 g [.ref (gV g w), .int (I i)] M (QM M (some (.int (I (((txB.getD w []).getD i.toNat 0).toInt))))) := by
  have hl5 := tx_len w hw
  refine met_at 0 (lv := [some (.ref (gV g w)), some (.int (I i))]) (by decide) (Nat.le_of_ble_eq_true rfl) rfl rfl (fun K hK hN hr hQ => ?_)
  refine r_iload_n hK dJ1_charAt_3b067_0 rfl ?_
  refine r_aload_n hK dJ1_charAt_3b067_1 rfl ?_
  refine r_slen hK (hK.e.2.1.1 w hw).2.2.2 dJ1_charAt_3b067_2 ?_
  refine r_callS hK ck_J0_checkIndex sc_J0_checkIndex km_9 (by decide) (c_strIndex hi (by omega)) (As := [.int (I i), .int (I (txL.getD w 0 : Nat))]) (st := []) rfl (Nat.le_of_ble_eq_true rfl) dJ1_charAt_3b067_3 (kkM ?_)
  refine r_aload_n hK dJ1_charAt_3b067_6 rfl ?_
  refine r_iload_n hK dJ1_charAt_3b067_7 rfl ?_
  refine r_sld hK (hK.e.2.1.1 w hw).2.2.2 (by omega) hi rfl dJ1_charAt_3b067_8 ?_
  refine r_sipush hK dJ1_charAt_3b067_9 (by decide) ?_
  refine r_iandV hK dJ1_charAt_3b067_12 ?_
  obtain ⟨e1, e2⟩ := tx_ch w hw i.toNat (by omega)
  refine r_i2c hK e1 dJ1_charAt_3b067_13 ?_
  exact r_ireturn hK hr hQ e2 dJ1_charAt_3b067_14 ⟨rfl, rfl⟩
theorem c_s_cha {l : Launch} {g : GT} {X : Mem} {Q : Mem → Int → Prop} (a0 : Nat) (a1 : Int) (ha0 : a0 < 3) (C : Mem) (h : wpO (f_s_cha a0 a1 C) Q) : MetC l yJ0_charAt_5068e cJ0_charAt_5068e 2 (some .char) 4 g [.ref (gK g a0), .int (I a1)] (mrg C X) (QI (fun c => mrg c X) Q) := by
  refine met_at 0 (lv := [some (.ref (gK g a0)), some (.int (I a1))]) (by decide) (Nat.le_of_ble_eq_true rfl) rfl rfl (fun K hK hN hr hQ => ?_)
  unfold f_s_cha at h
  obtain ⟨hi, h⟩ := wpO_ix h
  refine r_aload_n hK dJ0_charAt_5068e_0 rfl ?_
  refine r_callStr0 hK ha0 ck_J0_isLatin1 rfl im_J0_isLatin1 sl_J0_isLatin1 km_492 (by decide) (c_isLatin1 ha0) (As := []) (st := []) rfl (Nat.le_of_ble_eq_true rfl) dJ0_charAt_5068e_1 (kkM ?_)
  refine r_if_eq (A := False) (B := True) hK dJ0_charAt_5068e_4 (t := 16) (by decide) ⟨⟨by decide, by decide⟩, fun h => (by omega), fun _ => trivial⟩ (fun h => h.elim) (fun _ => ?_)
  refine r_aload_n hK dJ0_charAt_5068e_7 rfl ?_
  refine r_sget (v := .ref (gV g a0)) hK (hK.e.2.1.1 a0 ha0).2.2.1 kf_9 dJ0_charAt_5068e_8 ?_
  refine r_iload_n hK dJ0_charAt_5068e_11 rfl ?_
  refine r_callS hK ck_J1_charAt sc_J1_charAt km_495 (by decide) (c_latin ha0 hi) (As := [.ref (gV g a0), .int (I a1)]) (st := []) rfl (Nat.le_of_ble_eq_true rfl) dJ0_charAt_5068e_12 (kkM ?_)
  exact r_ireturn hK hr hQ (tx_ch a0 ha0 a1.toNat (by omega)).2 dJ0_charAt_5068e_15 ⟨C, _, rfl, rfl, wpO_some h⟩
theorem r_callStr {K : KT} {g : GT} {cc : ByteArray} {own : String} {d : Nat} {M : Mem} {pc : Nat} {lv : List (Option Value)} {st : List Value} {y : MethodName} {c2 : ByteArray} {nL n d' idx w : Nat} {ret : Option FieldType} {As : List Value} {Qv : Option Value → Mem → Prop} (hK : Kok K g cc own d) (hw3 : w < 3) (hy : CkB y c2 nL ret n) (hi : Cond.instanceMethod y ∈ TB) (hsel : Cond.selects y.cls y y ∈ TB) (hw : Cond.methodLink own idx y ∈ TB) (hdd : d' + 1 ≤ d) (hm : MetC (kL K) y c2 nL ret d' g (.ref (gK g w) :: As) M Qv) (hn : As.length = n) (hst : (st.map fun v => v.category).sum ≤ 8) (hd : decode cc pc = .ok (.invokevirtual idx, 3))
    (kk : ∀ (v : Option Value) (M' : Mem), Qv v M' → Wn K g M' (pc + 3) lv (v.toList ++ st)) (hyc : y.cls = "java/lang/String" := by rfl) : Wn K g M pc lv (As.reverse ++ .ref (gK g w) :: st) := r_callStr0 hK hw3 hy hyc hi hsel hw hdd hm hn hst hd kk

set_option maxRecDepth 100000 in
set_option maxHeartbeats 4000000 in
theorem c_X8_path {l : Launch} {g : GT} {Y : Mem} {Q : Mem → Int → Prop} (a1 : Int) (a2 : Int) (a3 : Int) (C : Mem) (h : wpO (f_X8_path a1 a2 a3 C) Q) : MetC l yX8_path cX8_path 4 (some .int) 5 g [.ref (gA g 95), .int (I (a1)), .int (I (a2)), .int (I (a3))] (mrg Y C) (QI (fun c => mrg Y c) Q) := by
  refine met_at 0 (lv := [some (.ref (gA g 95)), some (.int (I (a1))), some (.int (I (a2))), some (.int (I (a3)))]) (by decide) (Nat.le_of_ble_eq_true rfl) rfl rfl (fun K hK hN hr hQ => ?_)
  unfold f_X8_path at h
  refine r_iload_n hK dX8_path_0 rfl ?_
  refine r_iload_n hK dX8_path_1 rfl ?_
  refine r_callS hK ck_X8_isSpelled sc_X8_isSpelled ml_RX8_162 (by omega) (c_X8_isSpelled (l := kL K) (g := g) (Y := Y) (a1) (a2) C (wpO_bd h)) (As := [.int (I (a1)), .int (I (a2))]) (st := []) rfl (Nat.le_of_ble_eq_true rfl) dX8_path_2 (kkI (fun C2 r2 h => ?_))
  refine r_if_eq hK dX8_path_5 (t := 12) (by decide) (wpO_eq h) (fun h => ?_) (fun h => ?_)
  · refine r_iconst hK dX8_path_12 ?_
    exact r_ireturn hK hr hQ rfl dX8_path_13 ⟨C2, (-1), rfl, rfl, wpO_some h⟩
  · refine r_iload_n hK dX8_path_8 rfl ?_
    refine r_if_ge hK dX8_path_9 (t := 14) (by decide) (wpO_lt h) (fun h => ?_) (fun h => ?_)
    · refine r_iconst hK dX8_path_12 ?_
      exact r_ireturn hK hr hQ rfl dX8_path_13 ⟨C2, (-1), rfl, rfl, wpO_some h⟩
    · refine r_aload_n hK dX8_path_14 rfl ?_
      refine r_iload_n hK dX8_path_15 rfl ?_
      refine r_iload_n hK dX8_path_16 rfl ?_
      refine r_callV hK ck_X8_spells im_X8_spells sl_X8_spells ml_RX8_165 (by omega) (c_X8_spells (l := kL K) (g := g) (Y := Y) (a1) (a2) C2 (wpO_bd h)) cls_8 (k := 95) (by omega) rfl (As := [.int (I (a1)), .int (I (a2))]) (st := []) rfl (Nat.le_of_ble_eq_true rfl) dX8_path_17 (kkV (fun C17 h => ?_))
      refine r_aload_n hK dX8_path_20 rfl ?_
      refine r_callV hK ck_X8_goesDown im_X8_goesDown sl_X8_goesDown ml_RX8_127 (by omega) (c_X8_goesDown (l := kL K) (g := g) (Y := Y) C17 (wpO_bd h)) cls_8 (k := 95) (by omega) rfl (As := []) (st := []) rfl (Nat.le_of_ble_eq_true rfl) dX8_path_21 (kkV (fun C21 h => ?_))
      refine r_iload_n hK dX8_path_24 rfl ?_
      refine r_aload_n hK dX8_path_25 rfl ?_
      refine r_getI (k := 95) hK cls_8 fl_RX8_13 (by decide) (by omega) rfl rfl dX8_path_26 (mrg_x (by omega)) ?_
      refine r_icmp_ge hK dX8_path_29 (t := 41) (by decide) (wpO_lt h) (fun h => ?_) (fun h => ?_)
      · refine r_aload_n hK dX8_path_32 rfl ?_
        refine r_getR (k := 95) (k' := (102)) hK cls_8 fl_RX8_32 (by decide) (by omega) rfl rfl dX8_path_33 ?_
        refine r_iload_n hK dX8_path_36 rfl ?_
        obtain ⟨hb37, h⟩ := wpO_ix h
        refine r_iaload (k := (102)) hK (by omega) rfl (by decide) hb37 dX8_path_37 (mrg_x (by omega)) ?_
        refine r_goto hK dX8_path_38 (t := 43) (by decide) ?_
        exact r_ireturn hK hr hQ rfl dX8_path_43 ⟨C21, (C21 (102) (a3).toNat), rfl, rfl, wpO_some h⟩
      · refine r_bipush hK dX8_path_41 (by decide) ?_
        exact r_ireturn hK hr hQ rfl dX8_path_43 ⟨C21, (-9), rfl, rfl, wpO_some h⟩
set_option maxRecDepth 100000 in
set_option maxHeartbeats 4000000 in
theorem w_X8_keys_7 {K : KT} {g : GT} {Y : Mem} {dd : Nat} (hK : Kok K g cX8_keys RX8 dd) (hN : kN K = 3) (hr : (kMe K).sig.returnType = (some .int)) {Q : Mem → Int → Prop} (hQ : kQ K = MQ (kB K) (Qc g (QI (fun c => mrg Y c) Q)) (kA K) (kS K) (kc K) (ks K) (gS g)) (hdd : 3 ≤ dd) (k : Int → Int → Mem → Option (Mem × Int)) (hk : ∀ (v1 : Int) (v2 : Int) (C : Mem), wpO (k v1 v2 C) Q → Wn K g (mrg Y C) 31 [some (.ref (gA g 95)), some (.int (I (v1))), some (.int (I (v2)))] []) : ∀ (n : Nat) (v1 : Int) (v2 : Int) (C : Mem), wpO (f_X8_keys_7 k n v1 v2 C) Q → Wn K g (mrg Y C) 7 [some (.ref (gA g 95)), some (.int (I (v1))), some (.int (I (v2)))] [] := by
  intro n
  induction n with
  | zero => intro v1 v2 C h; exact (wpO_none h).elim
  | succ n ih =>
    intro v1 v2 C h
    unfold f_X8_keys_7 at h
    refine r_iload_n hK dX8_keys_7 rfl ?_
    refine r_bipush hK dX8_keys_8 (by decide) ?_
    refine r_icmp_eq hK dX8_keys_10 (t := 31) (by decide) (wpO_eq h) (fun h => ?_) (fun h => ?_)
    · exact hk (v1) (v2) C h
    · refine r_iload_n hK dX8_keys_13 rfl ?_
      refine r_aload_n hK dX8_keys_14 rfl ?_
      refine r_iload_n hK dX8_keys_15 rfl ?_
      refine r_iconst hK dX8_keys_16 ?_
      refine r_callV hK ck_X8_at im_X8_at sl_X8_at ml_RX8_69 (by omega) (c_X8_at (l := kL K) (g := g) (Y := Y) (v2) (1) C (wpO_bd h)) cls_8 (k := 95) (by omega) rfl (As := [.int (I (v2)), .int (I (1))]) (st := [.int (I (v1))]) rfl (Nat.le_of_ble_eq_true rfl) dX8_keys_17 (kkI (fun C17 r17 h => ?_))
      refine r_iadd hK dX8_keys_20 ?_
      refine r_istore_n hK dX8_keys_21 (by rw [hN]; decide) rfl (lv' := [some (.ref (gA g 95)), some (.int (I (v1 + r17))), some (.int (I (v2)))]) rfl ?_
      refine r_aload_n hK dX8_keys_22 rfl ?_
      refine r_iload_n hK dX8_keys_23 rfl ?_
      refine r_callV hK ck_X8_nextLeaf im_X8_nextLeaf sl_X8_nextLeaf ml_RX8_209 (by omega) (c_X8_nextLeaf (l := kL K) (g := g) (Y := Y) (v2) C17 (wpO_bd h)) cls_8 (k := 95) (by omega) rfl (As := [.int (I (v2))]) (st := []) rfl (Nat.le_of_ble_eq_true rfl) dX8_keys_24 (kkI (fun C24 r24 h => ?_))
      refine r_istore_n hK dX8_keys_27 (by rw [hN]; decide) rfl (lv' := [some (.ref (gA g 95)), some (.int (I (v1 + r17))), some (.int (I (r24)))]) rfl ?_
      refine r_goto hK dX8_keys_28 (t := 7) (by decide) ?_
      exact ih (v1 + r17) (r24) C24 h
set_option maxRecDepth 100000 in
set_option maxHeartbeats 4000000 in
theorem c_X8_keys {l : Launch} {g : GT} {Y : Mem} {Q : Mem → Int → Prop} (C : Mem) (h : wpO (f_X8_keys C) Q) : MetC l yX8_keys cX8_keys 3 (some .int) 3 g [.ref (gA g 95)] (mrg Y C) (QI (fun c => mrg Y c) Q) := by
  refine met_at 2 (lv := [some (.ref (gA g 95)), none, none]) (by decide) (Nat.le_of_ble_eq_true rfl) rfl rfl (fun K hK hN hr hQ => ?_)
  unfold f_X8_keys at h
  refine r_iconst hK dX8_keys_0 ?_
  refine r_istore_n hK dX8_keys_1 (by rw [hN]; decide) rfl (lv' := [some (.ref (gA g 95)), some (.int (I (0))), none]) rfl ?_
  refine r_aload_n hK dX8_keys_2 rfl ?_
  refine r_callV hK ck_X8_firstLeaf im_X8_firstLeaf sl_X8_firstLeaf ml_RX8_203 (by omega) (c_X8_firstLeaf (l := kL K) (g := g) (Y := Y) C (wpO_bd h)) cls_8 (k := 95) (by omega) rfl (As := []) (st := []) rfl (Nat.le_of_ble_eq_true rfl) dX8_keys_3 (kkI (fun C3 r3 h => ?_))
  refine r_istore_n hK dX8_keys_6 (by rw [hN]; decide) rfl (lv' := [some (.ref (gA g 95)), some (.int (I (0))), some (.int (I (r3)))]) rfl ?_
  refine w_X8_keys_7 hK hN hr hQ (by omega) _ (fun v1_e7 v2_e7 C_e7 h => ?_) FU (0) (r3) C3 h
  refine r_iload_n hK dX8_keys_31 rfl ?_
  exact r_ireturn hK hr hQ rfl dX8_keys_32 ⟨C_e7, v1_e7, rfl, rfl, wpO_some h⟩
set_option maxRecDepth 100000 in
set_option maxHeartbeats 4000000 in
theorem w_X8_whereIs_7 {K : KT} {g : GT} {Y : Mem} {dd : Nat} (hK : Kok K g cX8_whereIs RX8 dd) (hN : kN K = 4) (hr : (kMe K).sig.returnType = (some .int)) {Q : Mem → Int → Prop} (hQ : kQ K = MQ (kB K) (Qc g (QI (fun c => mrg Y c) Q)) (kA K) (kS K) (kc K) (ks K) (gS g)) (hdd : 3 ≤ dd) (k : Int → Int → Mem → Option (Mem × Int)) (hk : ∀ (v2 : Int) (v3 : Int) (C : Mem), wpO (k v2 v3 C) Q → Wn K g (mrg Y C) 35 [some (.ref (gA g 95)), none, some (.int (I (v2))), some (.int (I (v3)))] []) : ∀ (n : Nat) (v2 : Int) (v3 : Int) (C : Mem), wpO (f_X8_whereIs_7 k n v2 v3 C) Q → Wn K g (mrg Y C) 7 [some (.ref (gA g 95)), none, some (.int (I (v2))), some (.int (I (v3)))] [] := by
  intro n
  induction n with
  | zero => intro v2 v3 C h; exact (wpO_none h).elim
  | succ n ih =>
    intro v2 v3 C h
    unfold f_X8_whereIs_7 at h
    refine r_iload_n hK dX8_whereIs_7 rfl ?_
    refine r_aload_n hK dX8_whereIs_8 rfl ?_
    refine r_iload_n hK dX8_whereIs_9 rfl ?_
    refine r_iconst hK dX8_whereIs_10 ?_
    refine r_callV hK ck_X8_at im_X8_at sl_X8_at ml_RX8_69 (by omega) (c_X8_at (l := kL K) (g := g) (Y := Y) (v3) (1) C (wpO_bd h)) cls_8 (k := 95) (by omega) rfl (As := [.int (I (v3)), .int (I (1))]) (st := [.int (I (v2))]) rfl (Nat.le_of_ble_eq_true rfl) dX8_whereIs_11 (kkI (fun C11 r11 h => ?_))
    refine r_icmp_lt hK dX8_whereIs_14 (t := 35) (by decide) (wpO_lt h) (fun h => ?_) (fun h => ?_)
    · exact hk (v2) (v3) C11 h
    · refine r_iload_n hK dX8_whereIs_17 rfl ?_
      refine r_aload_n hK dX8_whereIs_18 rfl ?_
      refine r_iload_n hK dX8_whereIs_19 rfl ?_
      refine r_iconst hK dX8_whereIs_20 ?_
      refine r_callV hK ck_X8_at im_X8_at sl_X8_at ml_RX8_69 (by omega) (c_X8_at (l := kL K) (g := g) (Y := Y) (v3) (1) C11 (wpO_bd h)) cls_8 (k := 95) (by omega) rfl (As := [.int (I (v3)), .int (I (1))]) (st := [.int (I (v2))]) rfl (Nat.le_of_ble_eq_true rfl) dX8_whereIs_21 (kkI (fun C21 r21 h => ?_))
      refine r_isub hK dX8_whereIs_24 ?_
      refine r_istore_n hK dX8_whereIs_25 (by rw [hN]; decide) rfl (lv' := [some (.ref (gA g 95)), none, some (.int (I (v2 - r21))), some (.int (I (v3)))]) rfl ?_
      refine r_aload_n hK dX8_whereIs_26 rfl ?_
      refine r_iload_n hK dX8_whereIs_27 rfl ?_
      refine r_callV hK ck_X8_nextLeaf im_X8_nextLeaf sl_X8_nextLeaf ml_RX8_209 (by omega) (c_X8_nextLeaf (l := kL K) (g := g) (Y := Y) (v3) C21 (wpO_bd h)) cls_8 (k := 95) (by omega) rfl (As := [.int (I (v3))]) (st := []) rfl (Nat.le_of_ble_eq_true rfl) dX8_whereIs_28 (kkI (fun C28 r28 h => ?_))
      refine r_istore_n hK dX8_whereIs_31 (by rw [hN]; decide) rfl (lv' := [some (.ref (gA g 95)), none, some (.int (I (v2 - r21))), some (.int (I (r28)))]) rfl ?_
      refine r_goto hK dX8_whereIs_32 (t := 7) (by decide) ?_
      exact ih (v2 - r21) (r28) C28 h
set_option maxRecDepth 100000 in
set_option maxHeartbeats 4000000 in
theorem c_X8_whereIs {l : Launch} {g : GT} {Y : Mem} {Q : Mem → Int → Prop} (a1 : Int) (C : Mem) (h : wpO (f_X8_whereIs a1 C) Q) : MetC l yX8_whereIs cX8_whereIs 4 (some .int) 3 g [.ref (gA g 95), .int (I (a1))] (mrg Y C) (QI (fun c => mrg Y c) Q) := by
  refine met_at 2 (lv := [some (.ref (gA g 95)), some (.int (I (a1))), none, none]) (by decide) (Nat.le_of_ble_eq_true rfl) rfl rfl (fun K hK hN hr hQ => ?_)
  unfold f_X8_whereIs at h
  refine r_iload_n hK dX8_whereIs_0 rfl ?_
  refine r_istore_n hK dX8_whereIs_1 (by rw [hN]; decide) rfl (lv' := [some (.ref (gA g 95)), some (.int (I (a1))), some (.int (I (a1))), none]) rfl ?_
  refine r_aload_n hK dX8_whereIs_2 rfl ?_
  refine r_callV hK ck_X8_firstLeaf im_X8_firstLeaf sl_X8_firstLeaf ml_RX8_203 (by omega) (c_X8_firstLeaf (l := kL K) (g := g) (Y := Y) C (wpO_bd h)) cls_8 (k := 95) (by omega) rfl (As := []) (st := []) rfl (Nat.le_of_ble_eq_true rfl) dX8_whereIs_3 (kkI (fun C3 r3 h => ?_))
  refine r_istore_n hK dX8_whereIs_6 (by rw [hN]; decide) rfl (lv' := [some (.ref (gA g 95)), some (.int (I (a1))), some (.int (I (a1))), some (.int (I (r3)))]) rfl ?_
  refine r_cut [true, false, true, true] (lv' := [some (.ref (gA g 95)), none, some (.int (I (a1))), some (.int (I (r3)))]) rfl ?_
  refine w_X8_whereIs_7 hK hN hr hQ (by omega) _ (fun v2_e7 v3_e7 C_e7 h => ?_) FU (a1) (r3) C3 h
  refine r_bipush hK dX8_whereIs_35 (by decide) ?_
  refine r_iload_n hK dX8_whereIs_37 rfl ?_
  refine r_imul hK dX8_whereIs_38 ?_
  refine r_aload_n hK dX8_whereIs_39 rfl ?_
  refine r_iload_n hK dX8_whereIs_40 rfl ?_
  refine r_iload_n hK dX8_whereIs_41 rfl ?_
  refine r_callV hK ck_X8_startOf im_X8_startOf sl_X8_startOf ml_RX8_73 (by omega) (c_X8_startOf (l := kL K) (g := g) (Y := Y) (v3_e7) (v2_e7) C_e7 (wpO_bd h)) cls_8 (k := 95) (by omega) rfl (As := [.int (I (v3_e7)), .int (I (v2_e7))]) (st := [.int (I (64 * v3_e7))]) rfl (Nat.le_of_ble_eq_true rfl) dX8_whereIs_42 (kkI (fun C42 r42 h => ?_))
  refine r_iadd hK dX8_whereIs_45 ?_
  exact r_ireturn hK hr hQ rfl dX8_whereIs_46 ⟨C42, ((64 * v3_e7) + r42), rfl, rfl, wpO_some h⟩
set_option maxRecDepth 100000 in
set_option maxHeartbeats 4000000 in
theorem c_X8_letter {l : Launch} {g : GT} {Y : Mem} {Q : Mem → Int → Prop} (a1 : Int) (a2 : Int) (C : Mem) (h : wpO (f_X8_letter a1 a2 C) Q) : MetC l yX8_letter cX8_letter 4 (some .int) 4 g [.ref (gA g 95), .int (I (a1)), .int (I (a2))] (mrg Y C) (QI (fun c => mrg Y c) Q) := by
  refine met_at 1 (lv := [some (.ref (gA g 95)), some (.int (I (a1))), some (.int (I (a2))), none]) (by decide) (Nat.le_of_ble_eq_true rfl) rfl rfl (fun K hK hN hr hQ => ?_)
  unfold f_X8_letter at h
  refine r_iload_n hK dX8_letter_0 rfl ?_
  refine r_iconst hK dX8_letter_1 ?_
  refine r_aload_n hK dX8_letter_2 rfl ?_
  refine r_callV hK ck_X8_keys im_X8_keys sl_X8_keys ml_RX8_212 (by omega) (c_X8_keys (l := kL K) (g := g) (Y := Y) C (wpO_bd h)) cls_8 (k := 95) (by omega) rfl (As := []) (st := [.int (I (0)), .int (I (a1))]) rfl (Nat.le_of_ble_eq_true rfl) dX8_letter_3 (kkI (fun C3 r3 h => ?_))
  refine r_iconst hK dX8_letter_6 ?_
  refine r_isub hK dX8_letter_7 ?_
  refine r_callS hK ck_X8_in sc_X8_in ml_RX8_114 (by omega) (c_X8_in (l := kL K) (g := g) (Y := Y) (a1) (0) (r3 - 1) C3 (wpO_bd h)) (As := [.int (I (a1)), .int (I (0)), .int (I (r3 - 1))]) (st := []) rfl (Nat.le_of_ble_eq_true rfl) dX8_letter_8 (kkI (fun C8 r8 h => ?_))
  refine r_if_eq hK dX8_letter_11 (t := 24) (by decide) (wpO_eq h) (fun h => ?_) (fun h => ?_)
  · refine r_iconst hK dX8_letter_24 ?_
    exact r_ireturn hK hr hQ rfl dX8_letter_25 ⟨C8, (-1), rfl, rfl, wpO_some h⟩
  · refine r_iload_n hK dX8_letter_14 rfl ?_
    refine r_iconst hK dX8_letter_15 ?_
    refine r_bipush hK dX8_letter_16 (by decide) ?_
    refine r_callS hK ck_X8_in sc_X8_in ml_RX8_114 (by omega) (c_X8_in (l := kL K) (g := g) (Y := Y) (a2) (0) (7) C8 (wpO_bd h)) (As := [.int (I (a2)), .int (I (0)), .int (I (7))]) (st := []) rfl (Nat.le_of_ble_eq_true rfl) dX8_letter_18 (kkI (fun C18 r18 h => ?_))
    refine r_if_ne hK dX8_letter_21 (t := 26) (by decide) (wpO_eq h) (fun h => ?_) (fun h => ?_)
    · refine r_iconst hK dX8_letter_24 ?_
      exact r_ireturn hK hr hQ rfl dX8_letter_25 ⟨C18, (-1), rfl, rfl, wpO_some h⟩
    · refine r_aload_n hK dX8_letter_26 rfl ?_
      refine r_iload_n hK dX8_letter_27 rfl ?_
      refine r_callV hK ck_X8_whereIs im_X8_whereIs sl_X8_whereIs ml_RX8_215 (by omega) (c_X8_whereIs (l := kL K) (g := g) (Y := Y) (a1) C18 (wpO_bd h)) cls_8 (k := 95) (by omega) rfl (As := [.int (I (a1))]) (st := []) rfl (Nat.le_of_ble_eq_true rfl) dX8_letter_28 (kkI (fun C28 r28 h => ?_))
      refine r_istore_n hK dX8_letter_31 (by rw [hN]; decide) rfl (lv' := [some (.ref (gA g 95)), some (.int (I (a1))), some (.int (I (a2))), some (.int (I (r28)))]) rfl ?_
      refine r_iload_n hK dX8_letter_32 rfl ?_
      refine r_aload_n hK dX8_letter_33 rfl ?_
      refine r_getR (k := 95) (k' := (96)) hK cls_8 fl_RX8_7 (by decide) (by omega) rfl rfl dX8_letter_34 ?_
      refine r_iload_n hK dX8_letter_37 rfl ?_
      obtain ⟨hb38, h⟩ := wpO_ix h
      refine r_iaload (k := (96)) hK (by omega) rfl (by decide) hb38 dX8_letter_38 (mrg_x (by omega)) ?_
      refine r_icmp_ge hK dX8_letter_39 (t := 55) (by decide) (wpO_lt h) (fun h => ?_) (fun h => ?_)
      · refine r_aload_n hK dX8_letter_42 rfl ?_
        refine r_getR (k := 95) (k' := (96)) hK cls_8 fl_RX8_7 (by decide) (by omega) rfl rfl dX8_letter_43 ?_
        refine r_iload_n hK dX8_letter_46 rfl ?_
        refine r_iconst hK dX8_letter_47 ?_
        refine r_iadd hK dX8_letter_48 ?_
        refine r_iload_n hK dX8_letter_49 rfl ?_
        refine r_iadd hK dX8_letter_50 ?_
        obtain ⟨hb51, h⟩ := wpO_ix h
        refine r_iaload (k := (96)) hK (by omega) rfl (by decide) hb51 dX8_letter_51 (mrg_x (by omega)) ?_
        refine r_goto hK dX8_letter_52 (t := 57) (by decide) ?_
        exact r_ireturn hK hr hQ rfl dX8_letter_57 ⟨C28, (C28 (96) ((r28 + 1) + a2).toNat), rfl, rfl, wpO_some h⟩
      · refine r_bipush hK dX8_letter_55 (by decide) ?_
        exact r_ireturn hK hr hQ rfl dX8_letter_57 ⟨C28, (-9), rfl, rfl, wpO_some h⟩
set_option maxRecDepth 100000 in
set_option maxHeartbeats 4000000 in
theorem c_X8_value {l : Launch} {g : GT} {Y : Mem} {Q : Mem → Int → Prop} (a1 : Int) (C : Mem) (h : wpO (f_X8_value a1 C) Q) : MetC l yX8_value cX8_value 3 (some .int) 4 g [.ref (gA g 95), .int (I (a1))] (mrg Y C) (QI (fun c => mrg Y c) Q) := by
  refine met_at 1 (lv := [some (.ref (gA g 95)), some (.int (I (a1))), none]) (by decide) (Nat.le_of_ble_eq_true rfl) rfl rfl (fun K hK hN hr hQ => ?_)
  unfold f_X8_value at h
  refine r_iload_n hK dX8_value_0 rfl ?_
  refine r_iconst hK dX8_value_1 ?_
  refine r_aload_n hK dX8_value_2 rfl ?_
  refine r_callV hK ck_X8_keys im_X8_keys sl_X8_keys ml_RX8_212 (by omega) (c_X8_keys (l := kL K) (g := g) (Y := Y) C (wpO_bd h)) cls_8 (k := 95) (by omega) rfl (As := []) (st := [.int (I (0)), .int (I (a1))]) rfl (Nat.le_of_ble_eq_true rfl) dX8_value_3 (kkI (fun C3 r3 h => ?_))
  refine r_iconst hK dX8_value_6 ?_
  refine r_isub hK dX8_value_7 ?_
  refine r_callS hK ck_X8_in sc_X8_in ml_RX8_114 (by omega) (c_X8_in (l := kL K) (g := g) (Y := Y) (a1) (0) (r3 - 1) C3 (wpO_bd h)) (As := [.int (I (a1)), .int (I (0)), .int (I (r3 - 1))]) (st := []) rfl (Nat.le_of_ble_eq_true rfl) dX8_value_8 (kkI (fun C8 r8 h => ?_))
  refine r_if_ne hK dX8_value_11 (t := 16) (by decide) (wpO_eq h) (fun h => ?_) (fun h => ?_)
  · refine r_iconst hK dX8_value_14 ?_
    exact r_ireturn hK hr hQ rfl dX8_value_15 ⟨C8, (-1), rfl, rfl, wpO_some h⟩
  · refine r_aload_n hK dX8_value_16 rfl ?_
    refine r_iload_n hK dX8_value_17 rfl ?_
    refine r_callV hK ck_X8_whereIs im_X8_whereIs sl_X8_whereIs ml_RX8_215 (by omega) (c_X8_whereIs (l := kL K) (g := g) (Y := Y) (a1) C8 (wpO_bd h)) cls_8 (k := 95) (by omega) rfl (As := [.int (I (a1))]) (st := []) rfl (Nat.le_of_ble_eq_true rfl) dX8_value_18 (kkI (fun C18 r18 h => ?_))
    refine r_istore_n hK dX8_value_21 (by rw [hN]; decide) rfl (lv' := [some (.ref (gA g 95)), some (.int (I (a1))), some (.int (I (r18)))]) rfl ?_
    refine r_aload_n hK dX8_value_22 rfl ?_
    refine r_getR (k := 95) (k' := (96)) hK cls_8 fl_RX8_7 (by decide) (by omega) rfl rfl dX8_value_23 ?_
    refine r_iload_n hK dX8_value_26 rfl ?_
    refine r_aload_n hK dX8_value_27 rfl ?_
    refine r_getR (k := 95) (k' := (96)) hK cls_8 fl_RX8_7 (by decide) (by omega) rfl rfl dX8_value_28 ?_
    refine r_iload_n hK dX8_value_31 rfl ?_
    obtain ⟨hb32, h⟩ := wpO_ix h
    refine r_iaload (k := (96)) hK (by omega) rfl (by decide) hb32 dX8_value_32 (mrg_x (by omega)) ?_
    refine r_iadd hK dX8_value_33 ?_
    refine r_iconst hK dX8_value_34 ?_
    refine r_iadd hK dX8_value_35 ?_
    obtain ⟨hb36, h⟩ := wpO_ix h
    refine r_iaload (k := (96)) hK (by omega) rfl (by decide) hb36 dX8_value_36 (mrg_x (by omega)) ?_
    exact r_ireturn hK hr hQ rfl dX8_value_37 ⟨C18, (C18 (96) ((r18 + (C18 (96) (r18).toNat)) + 1).toNat), rfl, rfl, wpO_some h⟩
set_option maxRecDepth 100000 in
set_option maxHeartbeats 4000000 in
theorem c_X8_isPage {l : Launch} {g : GT} {Y : Mem} {Q : Mem → Int → Prop} (a0 : Int) (C : Mem) (h : wpO (f_X8_isPage a0 C) Q) : MetC l yX8_isPage cX8_isPage 1 (some .boolean) 2 g [.int (I (a0))] (mrg Y C) (QI (fun c => mrg Y c) Q) := by
  refine met_at 0 (lv := [some (.int (I (a0)))]) (by decide) (Nat.le_of_ble_eq_true rfl) rfl rfl (fun K hK hN hr hQ => ?_)
  unfold f_X8_isPage at h
  refine r_iload_n hK dX8_isPage_0 rfl ?_
  refine r_iconst hK dX8_isPage_1 ?_
  refine r_bipush hK dX8_isPage_2 (by decide) ?_
  refine r_callS hK ck_X8_in sc_X8_in ml_RX8_114 (by omega) (c_X8_in (l := kL K) (g := g) (Y := Y) (a0) (0) (31) C (wpO_bd h)) (As := [.int (I (a0)), .int (I (0)), .int (I (31))]) (st := []) rfl (Nat.le_of_ble_eq_true rfl) dX8_isPage_4 (kkI (fun C4 r4 h => ?_))
  obtain ⟨hbo7, h⟩ := wpO_bo h
  exact r_ireturn hK hr hQ (nar_b hbo7) dX8_isPage_7 ⟨C4, r4, rfl, rfl, wpO_some h⟩
set_option maxRecDepth 100000 in
set_option maxHeartbeats 4000000 in
theorem c_X8_page {l : Launch} {g : GT} {Y : Mem} {Q : Mem → Int → Prop} (a1 : Int) (a2 : Int) (C : Mem) (h : wpO (f_X8_page a1 a2 C) Q) : MetC l yX8_page cX8_page 3 (some .int) 4 g [.ref (gA g 95), .int (I (a1)), .int (I (a2))] (mrg Y C) (QI (fun c => mrg Y c) Q) := by
  refine met_at 0 (lv := [some (.ref (gA g 95)), some (.int (I (a1))), some (.int (I (a2)))]) (by decide) (Nat.le_of_ble_eq_true rfl) rfl rfl (fun K hK hN hr hQ => ?_)
  unfold f_X8_page at h
  refine r_iload_n hK dX8_page_0 rfl ?_
  refine r_callS hK ck_X8_isPage sc_X8_isPage ml_RX8_218 (by omega) (c_X8_isPage (l := kL K) (g := g) (Y := Y) (a1) C (wpO_bd h)) (As := [.int (I (a1))]) (st := []) rfl (Nat.le_of_ble_eq_true rfl) dX8_page_1 (kkI (fun C1 r1 h => ?_))
  refine r_if_eq hK dX8_page_4 (t := 16) (by decide) (wpO_eq h) (fun h => ?_) (fun h => ?_)
  · refine r_iconst hK dX8_page_16 ?_
    exact r_ireturn hK hr hQ rfl dX8_page_17 ⟨C1, (-1), rfl, rfl, wpO_some h⟩
  · refine r_iload_n hK dX8_page_7 rfl ?_
    refine r_iconst hK dX8_page_8 ?_
    refine r_iconst hK dX8_page_9 ?_
    refine r_callS hK ck_X8_in sc_X8_in ml_RX8_114 (by omega) (c_X8_in (l := kL K) (g := g) (Y := Y) (a2) (0) (3) C1 (wpO_bd h)) (As := [.int (I (a2)), .int (I (0)), .int (I (3))]) (st := []) rfl (Nat.le_of_ble_eq_true rfl) dX8_page_10 (kkI (fun C10 r10 h => ?_))
    refine r_if_ne hK dX8_page_13 (t := 18) (by decide) (wpO_eq h) (fun h => ?_) (fun h => ?_)
    · refine r_iconst hK dX8_page_16 ?_
      exact r_ireturn hK hr hQ rfl dX8_page_17 ⟨C10, (-1), rfl, rfl, wpO_some h⟩
    · refine r_iload_n hK dX8_page_18 rfl ?_
      refine r_iconst hK dX8_page_19 ?_
      refine r_icmp_ge hK dX8_page_20 (t := 32) (by decide) (wpO_lt h) (fun h => ?_) (fun h => ?_)
      · refine r_aload_n hK dX8_page_23 rfl ?_
        refine r_iload_n hK dX8_page_24 rfl ?_
        refine r_iload_n hK dX8_page_25 rfl ?_
        refine r_callV hK ck_X8_at im_X8_at sl_X8_at ml_RX8_69 (by omega) (c_X8_at (l := kL K) (g := g) (Y := Y) (a1) (a2) C10 (wpO_bd h)) cls_8 (k := 95) (by omega) rfl (As := [.int (I (a1)), .int (I (a2))]) (st := []) rfl (Nat.le_of_ble_eq_true rfl) dX8_page_26 (kkI (fun C26 r26 h => ?_))
        refine r_goto hK dX8_page_29 (t := 37) (by decide) ?_
        exact r_ireturn hK hr hQ rfl dX8_page_37 ⟨C26, r26, rfl, rfl, wpO_some h⟩
      · refine r_aload_n hK dX8_page_32 rfl ?_
        refine r_iload_n hK dX8_page_33 rfl ?_
        refine r_callV hK ck_X8_usedOf im_X8_usedOf sl_X8_usedOf ml_RX8_174 (by omega) (c_X8_usedOf (l := kL K) (g := g) (Y := Y) (a1) C10 (wpO_bd h)) cls_8 (k := 95) (by omega) rfl (As := [.int (I (a1))]) (st := []) rfl (Nat.le_of_ble_eq_true rfl) dX8_page_34 (kkI (fun C34 r34 h => ?_))
        exact r_ireturn hK hr hQ rfl dX8_page_37 ⟨C34, r34, rfl, rfl, wpO_some h⟩
set_option maxRecDepth 100000 in
set_option maxHeartbeats 4000000 in
theorem c_X8_byteAt {l : Launch} {g : GT} {Y : Mem} {Q : Mem → Int → Prop} (a1 : Int) (a2 : Int) (C : Mem) (h : wpO (f_X8_byteAt a1 a2 C) Q) : MetC l yX8_byteAt cX8_byteAt 3 (some .int) 3 g [.ref (gA g 95), .int (I (a1)), .int (I (a2))] (mrg Y C) (QI (fun c => mrg Y c) Q) := by
  refine met_at 0 (lv := [some (.ref (gA g 95)), some (.int (I (a1))), some (.int (I (a2)))]) (by decide) (Nat.le_of_ble_eq_true rfl) rfl rfl (fun K hK hN hr hQ => ?_)
  unfold f_X8_byteAt at h
  refine r_iload_n hK dX8_byteAt_0 rfl ?_
  refine r_callS hK ck_X8_isPage sc_X8_isPage ml_RX8_218 (by omega) (c_X8_isPage (l := kL K) (g := g) (Y := Y) (a1) C (wpO_bd h)) (As := [.int (I (a1))]) (st := []) rfl (Nat.le_of_ble_eq_true rfl) dX8_byteAt_1 (kkI (fun C1 r1 h => ?_))
  refine r_if_eq hK dX8_byteAt_4 (t := 26) (by decide) (wpO_eq h) (fun h => ?_) (fun h => ?_)
  · refine r_iconst hK dX8_byteAt_26 ?_
    exact r_ireturn hK hr hQ rfl dX8_byteAt_27 ⟨C1, (-1), rfl, rfl, wpO_some h⟩
  · refine r_iload_n hK dX8_byteAt_7 rfl ?_
    refine r_iconst hK dX8_byteAt_8 ?_
    refine r_bipush hK dX8_byteAt_9 (by decide) ?_
    refine r_callS hK ck_X8_in sc_X8_in ml_RX8_114 (by omega) (c_X8_in (l := kL K) (g := g) (Y := Y) (a2) (0) (63) C1 (wpO_bd h)) (As := [.int (I (a2)), .int (I (0)), .int (I (63))]) (st := []) rfl (Nat.le_of_ble_eq_true rfl) dX8_byteAt_11 (kkI (fun C11 r11 h => ?_))
    refine r_if_eq hK dX8_byteAt_14 (t := 26) (by decide) (wpO_eq h) (fun h => ?_) (fun h => ?_)
    · refine r_iconst hK dX8_byteAt_26 ?_
      exact r_ireturn hK hr hQ rfl dX8_byteAt_27 ⟨C11, (-1), rfl, rfl, wpO_some h⟩
    · refine r_aload_n hK dX8_byteAt_17 rfl ?_
      refine r_iload_n hK dX8_byteAt_18 rfl ?_
      refine r_iload_n hK dX8_byteAt_19 rfl ?_
      refine r_callV hK ck_X8_at im_X8_at sl_X8_at ml_RX8_69 (by omega) (c_X8_at (l := kL K) (g := g) (Y := Y) (a1) (a2) C11 (wpO_bd h)) cls_8 (k := 95) (by omega) rfl (As := [.int (I (a1)), .int (I (a2))]) (st := []) rfl (Nat.le_of_ble_eq_true rfl) dX8_byteAt_20 (kkI (fun C20 r20 h => ?_))
      refine r_goto hK dX8_byteAt_23 (t := 27) (by decide) ?_
      exact r_ireturn hK hr hQ rfl dX8_byteAt_27 ⟨C20, r20, rfl, rfl, wpO_some h⟩
set_option maxRecDepth 100000 in
set_option maxHeartbeats 4000000 in
theorem c_X8_as {l : Launch} {g : GT} {Y : Mem} {Q : Mem → Int → Prop} (a1 : Int) (a2 : Int) (C : Mem) (h : wpO (f_X8_as a1 a2 C) Q) : MetC l yX8_as cX8_as 3 (some .int) 1 g [.ref (gA g 95), .int (I (a1)), .int (I (a2))] (mrg Y C) (QI (fun c => mrg Y c) Q) := by
  refine met_at 0 (lv := [some (.ref (gA g 95)), some (.int (I (a1))), some (.int (I (a2)))]) (by decide) (Nat.le_of_ble_eq_true rfl) rfl rfl (fun K hK hN hr hQ => ?_)
  unfold f_X8_as at h
  refine r_bipush hK dX8_as_0 (by decide) ?_
  refine r_iload_n hK dX8_as_2 rfl ?_
  refine r_imul hK dX8_as_3 ?_
  refine r_iload_n hK dX8_as_4 rfl ?_
  refine r_iadd hK dX8_as_5 ?_
  refine r_aload_n hK dX8_as_6 rfl ?_
  refine r_getI (k := 95) hK cls_8 fl_RX8_221 (by decide) (by omega) rfl rfl dX8_as_7 (mrg_x (by omega)) ?_
  refine r_icmp_ne hK dX8_as_10 (t := 20) (by decide) (wpO_eq h) (fun h => ?_) (fun h => ?_)
  · refine r_aload_n hK dX8_as_13 rfl ?_
    refine r_getI (k := 95) hK cls_8 fl_RX8_224 (by decide) (by omega) rfl rfl dX8_as_14 (mrg_x (by omega)) ?_
    refine r_goto hK dX8_as_17 (t := 31) (by decide) ?_
    exact r_ireturn hK hr hQ rfl dX8_as_31 ⟨C, (C 95 17), rfl, rfl, wpO_some h⟩
  · refine r_aload_n hK dX8_as_20 rfl ?_
    refine r_getR (k := 95) (k' := (96)) hK cls_8 fl_RX8_7 (by decide) (by omega) rfl rfl dX8_as_21 ?_
    refine r_bipush hK dX8_as_24 (by decide) ?_
    refine r_iload_n hK dX8_as_26 rfl ?_
    refine r_imul hK dX8_as_27 ?_
    refine r_iload_n hK dX8_as_28 rfl ?_
    refine r_iadd hK dX8_as_29 ?_
    obtain ⟨hb30, h⟩ := wpO_ix h
    refine r_iaload (k := (96)) hK (by omega) rfl (by decide) hb30 dX8_as_30 (mrg_x (by omega)) ?_
    exact r_ireturn hK hr hQ rfl dX8_as_31 ⟨C, (C (96) ((64 * a1) + a2).toNat), rfl, rfl, wpO_some h⟩
set_option maxRecDepth 100000 in
set_option maxHeartbeats 4000000 in
theorem w_X8_isRead_91 {K : KT} {g : GT} {Y : Mem} {dd : Nat} (hK : Kok K g cX8_isRead RX8 dd) (hN : kN K = 8) (hr : (kMe K).sig.returnType = (some .boolean)) {Q : Mem → Int → Prop} (hQ : kQ K = MQ (kB K) (Qc g (QI (fun c => mrg Y c) Q)) (kA K) (kS K) (kc K) (ks K) (gS g)) (hdd : 2 ≤ dd) (u1 : Int) (u3 : Int) (u4 : Int) (u5 : Int) (u6 : Int) (k : Int → Mem → Option (Mem × Int)) (hk : ∀ (v7 : Int) (C : Mem), wpO (k v7 C) Q → Wn K g (mrg Y C) 128 [some (.ref (gA g 95)), some (.int (I (u1))), none, some (.int (I (u3))), some (.int (I (u4))), some (.int (I (u5))), some (.int (I (u6))), some (.int (I (v7)))] []) : ∀ (n : Nat) (v7 : Int) (C : Mem), wpO (f_X8_isRead_91 u1 u3 u4 u5 u6 k n v7 C) Q → Wn K g (mrg Y C) 91 [some (.ref (gA g 95)), some (.int (I (u1))), none, some (.int (I (u3))), some (.int (I (u4))), some (.int (I (u5))), some (.int (I (u6))), some (.int (I (v7)))] [] := by
  intro n
  induction n with
  | zero => intro v7 C h; exact (wpO_none h).elim
  | succ n ih =>
    intro v7 C h
    unfold f_X8_isRead_91 at h
    refine r_iload hK dX8_isRead_91 rfl ?_
    refine r_iload hK dX8_isRead_93 rfl ?_
    refine r_icmp_ge hK dX8_isRead_95 (t := 128) (by decide) (wpO_lt h) (fun h => ?_) (fun h => ?_)
    · refine r_aload_n hK dX8_isRead_98 rfl ?_
      refine r_iload_n hK dX8_isRead_99 rfl ?_
      refine r_iload hK dX8_isRead_100 rfl ?_
      refine r_iconst hK dX8_isRead_102 ?_
      refine r_iadd hK dX8_isRead_103 ?_
      refine r_iload hK dX8_isRead_104 rfl ?_
      refine r_iadd hK dX8_isRead_106 ?_
      refine r_callV hK ck_X8_as im_X8_as sl_X8_as ml_RX8_227 (by omega) (c_X8_as (l := kL K) (g := g) (Y := Y) (u1) ((u4 + 1) + v7) C (wpO_bd h)) cls_8 (k := 95) (by omega) rfl (As := [.int (I (u1)), .int (I ((u4 + 1) + v7))]) (st := []) rfl (Nat.le_of_ble_eq_true rfl) dX8_isRead_107 (kkI (fun C107 r107 h => ?_))
      refine r_bipush hK dX8_isRead_110 (by decide) ?_
      refine r_bipush hK dX8_isRead_112 (by decide) ?_
      refine r_callS hK ck_X8_in sc_X8_in ml_RX8_114 (by omega) (c_X8_in (l := kL K) (g := g) (Y := Y) (r107) (97) (122) C107 (wpO_bd h)) (As := [.int (I (r107)), .int (I (97)), .int (I (122))]) (st := []) rfl (Nat.le_of_ble_eq_true rfl) dX8_isRead_114 (kkI (fun C114 r114 h => ?_))
      refine r_if_ne hK dX8_isRead_117 (t := 122) (by decide) (wpO_eq h) (fun h => ?_) (fun h => ?_)
      · refine r_iconst hK dX8_isRead_120 ?_
        exact r_ireturn hK hr hQ (nar_b (by decide)) dX8_isRead_121 ⟨C114, 0, rfl, rfl, wpO_some h⟩
      · refine r_iinc hK dX8_isRead_122 (by rw [hN]; decide) rfl rfl (lv' := [some (.ref (gA g 95)), some (.int (I (u1))), none, some (.int (I (u3))), some (.int (I (u4))), some (.int (I (u5))), some (.int (I (u6))), some (.int (I (v7 + 1)))]) rfl ?_
        refine r_goto hK dX8_isRead_125 (t := 91) (by decide) ?_
        exact ih (v7 + 1) C114 h
    · exact hk (v7) C h
set_option maxRecDepth 100000 in
set_option maxHeartbeats 4000000 in
theorem w_X8_isRead_37 {K : KT} {g : GT} {Y : Mem} {dd : Nat} (hK : Kok K g cX8_isRead RX8 dd) (hN : kN K = 8) (hr : (kMe K).sig.returnType = (some .boolean)) {Q : Mem → Int → Prop} (hQ : kQ K = MQ (kB K) (Qc g (QI (fun c => mrg Y c) Q)) (kA K) (kS K) (kc K) (ks K) (gS g)) (hdd : 2 ≤ dd) (u1 : Int) (u3 : Int) (k : Int → Int → Mem → Option (Mem × Int)) (hk : ∀ (v4 : Int) (v5 : Int) (C : Mem), wpO (k v4 v5 C) Q → Wn K g (mrg Y C) 143 [some (.ref (gA g 95)), some (.int (I (u1))), none, some (.int (I (u3))), some (.int (I (v4))), some (.int (I (v5))), none, none] []) : ∀ (n : Nat) (v4 : Int) (v5 : Int) (C : Mem), wpO (f_X8_isRead_37 u1 u3 k n v4 v5 C) Q → Wn K g (mrg Y C) 37 [some (.ref (gA g 95)), some (.int (I (u1))), none, some (.int (I (u3))), some (.int (I (v4))), some (.int (I (v5))), none, none] [] := by
  intro n
  induction n with
  | zero => intro v4 v5 C h; exact (wpO_none h).elim
  | succ n ih =>
    intro v4 v5 C h
    unfold f_X8_isRead_37 at h
    refine r_iload hK dX8_isRead_37 rfl ?_
    refine r_iload_n hK dX8_isRead_39 rfl ?_
    refine r_icmp_ge hK dX8_isRead_40 (t := 143) (by decide) (wpO_lt h) (fun h => ?_) (fun h => ?_)
    · refine r_iload hK dX8_isRead_43 rfl ?_
      refine r_bipush hK dX8_isRead_45 (by decide) ?_
      refine r_jn (J := fun j61 => ∀ (s0_61 : Int) (C_61 : Mem), wpO (j61 s0_61 C_61) Q → Wn K g (mrg Y C_61) 61 [some (.ref (gA g 95)), some (.int (I (u1))), none, some (.int (I (u3))), some (.int (I (v4))), some (.int (I (v5))), none, none] [.int (I (s0_61))]) h ?_ ?_
      · intro s0_61 C_61 h
        refine r_istore hK dX8_isRead_61 (by rw [hN]; decide) rfl (lv' := [some (.ref (gA g 95)), some (.int (I (u1))), none, some (.int (I (u3))), some (.int (I (v4))), some (.int (I (v5))), some (.int (I (s0_61))), none]) rfl ?_
        refine r_iload hK dX8_isRead_63 rfl ?_
        refine r_iconst hK dX8_isRead_65 ?_
        refine r_bipush hK dX8_isRead_66 (by decide) ?_
        refine r_callS hK ck_X8_in sc_X8_in ml_RX8_114 (by omega) (c_X8_in (l := kL K) (g := g) (Y := Y) (s0_61) (1) (8) C_61 (wpO_bd h)) (As := [.int (I (s0_61)), .int (I (1)), .int (I (8))]) (st := []) rfl (Nat.le_of_ble_eq_true rfl) dX8_isRead_68 (kkI (fun C68 r68 h => ?_))
        refine r_if_eq hK dX8_isRead_71 (t := 86) (by decide) (wpO_eq h) (fun h => ?_) (fun h => ?_)
        · refine r_iconst hK dX8_isRead_86 ?_
          exact r_ireturn hK hr hQ (nar_b (by decide)) dX8_isRead_87 ⟨C68, 0, rfl, rfl, wpO_some h⟩
        · refine r_iload hK dX8_isRead_74 rfl ?_
          refine r_iload hK dX8_isRead_76 rfl ?_
          refine r_iadd hK dX8_isRead_78 ?_
          refine r_iconst hK dX8_isRead_79 ?_
          refine r_iadd hK dX8_isRead_80 ?_
          refine r_bipush hK dX8_isRead_81 (by decide) ?_
          refine r_icmp_le hK dX8_isRead_83 (t := 88) (by decide) (wpO_lt h) (fun h => ?_) (fun h => ?_)
          · refine r_iconst hK dX8_isRead_86 ?_
            exact r_ireturn hK hr hQ (nar_b (by decide)) dX8_isRead_87 ⟨C68, 0, rfl, rfl, wpO_some h⟩
          · refine r_iconst hK dX8_isRead_88 ?_
            refine r_istore hK dX8_isRead_89 (by rw [hN]; decide) rfl (lv' := [some (.ref (gA g 95)), some (.int (I (u1))), none, some (.int (I (u3))), some (.int (I (v4))), some (.int (I (v5))), some (.int (I (s0_61))), some (.int (I (0)))]) rfl ?_
            refine w_X8_isRead_91 hK hN hr hQ (by omega) (u1) (u3) (v4) (v5) (s0_61) _ (fun v7_e91 C_e91 h => ?_) FU (0) C68 h
            refine r_iload hK dX8_isRead_128 rfl ?_
            refine r_iload hK dX8_isRead_130 rfl ?_
            refine r_iconst hK dX8_isRead_132 ?_
            refine r_iadd hK dX8_isRead_133 ?_
            refine r_iadd hK dX8_isRead_134 ?_
            refine r_istore hK dX8_isRead_135 (by rw [hN]; decide) rfl (lv' := [some (.ref (gA g 95)), some (.int (I (u1))), none, some (.int (I (u3))), some (.int (I (v4 + (s0_61 + 2)))), some (.int (I (v5))), some (.int (I (s0_61))), some (.int (I (v7_e91)))]) rfl ?_
            refine r_iinc hK dX8_isRead_137 (by rw [hN]; decide) rfl rfl (lv' := [some (.ref (gA g 95)), some (.int (I (u1))), none, some (.int (I (u3))), some (.int (I (v4 + (s0_61 + 2)))), some (.int (I (v5 + 1))), some (.int (I (s0_61))), some (.int (I (v7_e91)))]) rfl ?_
            refine r_goto hK dX8_isRead_140 (t := 37) (by decide) ?_
            refine r_cut [true, true, false, true, true, true, false, false] (lv' := [some (.ref (gA g 95)), some (.int (I (u1))), none, some (.int (I (u3))), some (.int (I (v4 + (s0_61 + 2)))), some (.int (I (v5 + 1))), none, none]) rfl ?_
            exact ih (v4 + (s0_61 + 2)) (v5 + 1) C_e91 h
      · intro hj61 h
        refine r_icmp_ge hK dX8_isRead_47 (t := 60) (by decide) (wpO_lt h) (fun h => ?_) (fun h => ?_)
        · refine r_aload_n hK dX8_isRead_50 rfl ?_
          refine r_iload_n hK dX8_isRead_51 rfl ?_
          refine r_iload hK dX8_isRead_52 rfl ?_
          refine r_callV hK ck_X8_as im_X8_as sl_X8_as ml_RX8_227 (by omega) (c_X8_as (l := kL K) (g := g) (Y := Y) (u1) (v4) C (wpO_bd h)) cls_8 (k := 95) (by omega) rfl (As := [.int (I (u1)), .int (I (v4))]) (st := []) rfl (Nat.le_of_ble_eq_true rfl) dX8_isRead_54 (kkI (fun C54 r54 h => ?_))
          refine r_goto hK dX8_isRead_57 (t := 61) (by decide) ?_
          exact hj61 (r54) C54 h
        · refine r_iconst hK dX8_isRead_60 ?_
          exact hj61 (0) C h
    · exact hk (v4) (v5) C h
set_option maxRecDepth 100000 in
set_option maxHeartbeats 4000000 in
theorem w_X8_isRead_150 {K : KT} {g : GT} {Y : Mem} {dd : Nat} (hK : Kok K g cX8_isRead RX8 dd) (hN : kN K = 8) (hr : (kMe K).sig.returnType = (some .boolean)) {Q : Mem → Int → Prop} (hQ : kQ K = MQ (kB K) (Qc g (QI (fun c => mrg Y c) Q)) (kA K) (kS K) (kc K) (ks K) (gS g)) (hdd : 2 ≤ dd) (u1 : Int) (k : Int → Int → Mem → Option (Mem × Int)) (hk : ∀ (v5 : Int) (v6 : Int) (C : Mem), wpO (k v5 v6 C) Q → Wn K g (mrg Y C) 185 [some (.ref (gA g 95)), some (.int (I (u1))), none, none, none, some (.int (I (v5))), some (.int (I (v6))), none] []) : ∀ (n : Nat) (v5 : Int) (v6 : Int) (C : Mem), wpO (f_X8_isRead_150 u1 k n v5 v6 C) Q → Wn K g (mrg Y C) 150 [some (.ref (gA g 95)), some (.int (I (u1))), none, none, none, some (.int (I (v5))), some (.int (I (v6))), none] [] := by
  intro n
  induction n with
  | zero => intro v5 v6 C h; exact (wpO_none h).elim
  | succ n ih =>
    intro v5 v6 C h
    unfold f_X8_isRead_150 at h
    refine r_iload hK dX8_isRead_150 rfl ?_
    refine r_bipush hK dX8_isRead_152 (by decide) ?_
    refine r_icmp_ge hK dX8_isRead_154 (t := 185) (by decide) (wpO_lt h) (fun h => ?_) (fun h => ?_)
    · refine r_iload hK dX8_isRead_157 rfl ?_
      refine r_if_eq hK dX8_isRead_159 (t := 176) (by decide) (wpO_eq h) (fun h => ?_) (fun h => ?_)
      · refine r_iconst hK dX8_isRead_176 ?_
        refine r_istore hK dX8_isRead_177 (by rw [hN]; decide) rfl (lv' := [some (.ref (gA g 95)), some (.int (I (u1))), none, none, none, some (.int (I (0))), some (.int (I (v6))), none]) rfl ?_
        refine r_iinc hK dX8_isRead_179 (by rw [hN]; decide) rfl rfl (lv' := [some (.ref (gA g 95)), some (.int (I (u1))), none, none, none, some (.int (I (0))), some (.int (I (v6 + 1))), none]) rfl ?_
        refine r_goto hK dX8_isRead_182 (t := 150) (by decide) ?_
        exact ih (0) (v6 + 1) C h
      · refine r_aload_n hK dX8_isRead_162 rfl ?_
        refine r_iload_n hK dX8_isRead_163 rfl ?_
        refine r_iload hK dX8_isRead_164 rfl ?_
        refine r_callV hK ck_X8_as im_X8_as sl_X8_as ml_RX8_227 (by omega) (c_X8_as (l := kL K) (g := g) (Y := Y) (u1) (v6) C (wpO_bd h)) cls_8 (k := 95) (by omega) rfl (As := [.int (I (u1)), .int (I (v6))]) (st := []) rfl (Nat.le_of_ble_eq_true rfl) dX8_isRead_166 (kkI (fun C166 r166 h => ?_))
        refine r_if_ne hK dX8_isRead_169 (t := 176) (by decide) (wpO_eq h) (fun h => ?_) (fun h => ?_)
        · refine r_iconst hK dX8_isRead_172 ?_
          refine r_goto hK dX8_isRead_173 (t := 177) (by decide) ?_
          refine r_istore hK dX8_isRead_177 (by rw [hN]; decide) rfl (lv' := [some (.ref (gA g 95)), some (.int (I (u1))), none, none, none, some (.int (I (1))), some (.int (I (v6))), none]) rfl ?_
          refine r_iinc hK dX8_isRead_179 (by rw [hN]; decide) rfl rfl (lv' := [some (.ref (gA g 95)), some (.int (I (u1))), none, none, none, some (.int (I (1))), some (.int (I (v6 + 1))), none]) rfl ?_
          refine r_goto hK dX8_isRead_182 (t := 150) (by decide) ?_
          exact ih (1) (v6 + 1) C166 h
        · refine r_iconst hK dX8_isRead_176 ?_
          refine r_istore hK dX8_isRead_177 (by rw [hN]; decide) rfl (lv' := [some (.ref (gA g 95)), some (.int (I (u1))), none, none, none, some (.int (I (0))), some (.int (I (v6))), none]) rfl ?_
          refine r_iinc hK dX8_isRead_179 (by rw [hN]; decide) rfl rfl (lv' := [some (.ref (gA g 95)), some (.int (I (u1))), none, none, none, some (.int (I (0))), some (.int (I (v6 + 1))), none]) rfl ?_
          refine r_goto hK dX8_isRead_182 (t := 150) (by decide) ?_
          exact ih (0) (v6 + 1) C166 h
    · exact hk (v5) (v6) C h
set_option maxRecDepth 100000 in
set_option maxHeartbeats 4000000 in
theorem c_X8_isRead {l : Launch} {g : GT} {Y : Mem} {Q : Mem → Int → Prop} (a1 : Int) (a2 : Int) (C : Mem) (h : wpO (f_X8_isRead a1 a2 C) Q) : MetC l yX8_isRead cX8_isRead 8 (some .boolean) 2 g [.ref (gA g 95), .int (I (a1)), .int (I (a2))] (mrg Y C) (QI (fun c => mrg Y c) Q) := by
  refine met_at 5 (lv := [some (.ref (gA g 95)), some (.int (I (a1))), some (.int (I (a2))), none, none, none, none, none]) (by decide) (Nat.le_of_ble_eq_true rfl) rfl rfl (fun K hK hN hr hQ => ?_)
  unfold f_X8_isRead at h
  refine r_aload_n hK dX8_isRead_0 rfl ?_
  refine r_iload_n hK dX8_isRead_1 rfl ?_
  refine r_iconst hK dX8_isRead_2 ?_
  refine r_callV hK ck_X8_as im_X8_as sl_X8_as ml_RX8_227 (by omega) (c_X8_as (l := kL K) (g := g) (Y := Y) (a1) (1) C (wpO_bd h)) cls_8 (k := 95) (by omega) rfl (As := [.int (I (a1)), .int (I (1))]) (st := []) rfl (Nat.le_of_ble_eq_true rfl) dX8_isRead_3 (kkI (fun C3 r3 h => ?_))
  refine r_istore_n hK dX8_isRead_6 (by rw [hN]; decide) rfl (lv' := [some (.ref (gA g 95)), some (.int (I (a1))), some (.int (I (a2))), some (.int (I (r3))), none, none, none, none]) rfl ?_
  refine r_iload_n hK dX8_isRead_7 rfl ?_
  refine r_jn (J := fun j31 => wpO (j31) Q → Wn K g (mrg Y C3) 31 [some (.ref (gA g 95)), some (.int (I (a1))), none, some (.int (I (r3))), none, none, none, none] []) h ?_ ?_
  · intro h
    refine r_iconst hK dX8_isRead_31 ?_
    refine r_istore hK dX8_isRead_32 (by rw [hN]; decide) rfl (lv' := [some (.ref (gA g 95)), some (.int (I (a1))), none, some (.int (I (r3))), some (.int (I (3))), none, none, none]) rfl ?_
    refine r_iconst hK dX8_isRead_34 ?_
    refine r_istore hK dX8_isRead_35 (by rw [hN]; decide) rfl (lv' := [some (.ref (gA g 95)), some (.int (I (a1))), none, some (.int (I (r3))), some (.int (I (3))), some (.int (I (0))), none, none]) rfl ?_
    refine w_X8_isRead_37 hK hN hr hQ (by omega) (a1) (r3) _ (fun v4_e37 v5_e37 C_e37 h => ?_) FU (3) (0) C3 h
    refine r_iconst hK dX8_isRead_143 ?_
    refine r_istore hK dX8_isRead_144 (by rw [hN]; decide) rfl (lv' := [some (.ref (gA g 95)), some (.int (I (a1))), none, some (.int (I (r3))), some (.int (I (v4_e37))), some (.int (I (1))), none, none]) rfl ?_
    refine r_iload hK dX8_isRead_146 rfl ?_
    refine r_istore hK dX8_isRead_148 (by rw [hN]; decide) rfl (lv' := [some (.ref (gA g 95)), some (.int (I (a1))), none, some (.int (I (r3))), some (.int (I (v4_e37))), some (.int (I (1))), some (.int (I (v4_e37))), none]) rfl ?_
    refine r_cut [true, true, false, false, false, true, true, false] (lv' := [some (.ref (gA g 95)), some (.int (I (a1))), none, none, none, some (.int (I (1))), some (.int (I (v4_e37))), none]) rfl ?_
    refine w_X8_isRead_150 hK hN hr hQ (by omega) (a1) _ (fun v5_e150 v6_e150 C_e150 h => ?_) FU (1) (v4_e37) C_e37 h
    refine r_iload hK dX8_isRead_185 rfl ?_
    obtain ⟨hbo187, h⟩ := wpO_bo h
    exact r_ireturn hK hr hQ (nar_b hbo187) dX8_isRead_187 ⟨C_e150, v5_e150, rfl, rfl, wpO_some h⟩
  · intro hj31 h
    refine r_if_ne hK dX8_isRead_8 (t := 31) (by decide) (wpO_eq h) (fun h => ?_) (fun h => ?_)
    · refine r_iload_n hK dX8_isRead_11 rfl ?_
      refine r_aload_n hK dX8_isRead_12 rfl ?_
      refine r_getI (k := 95) hK cls_8 fl_RX8_118 (by decide) (by omega) rfl rfl dX8_isRead_13 (mrg_x (by omega)) ?_
      refine r_icmp_ne hK dX8_isRead_16 (t := 29) (by decide) (wpO_eq h) (fun h => ?_) (fun h => ?_)
      · refine r_iload_n hK dX8_isRead_19 rfl ?_
        refine r_aload_n hK dX8_isRead_20 rfl ?_
        refine r_getI (k := 95) hK cls_8 fl_RX8_13 (by decide) (by omega) rfl rfl dX8_isRead_21 (mrg_x (by omega)) ?_
        refine r_iconst hK dX8_isRead_24 ?_
        refine r_isub hK dX8_isRead_25 ?_
        refine r_icmp_ge hK dX8_isRead_26 (t := 31) (by decide) (wpO_lt h) (fun h => ?_) (fun h => ?_)
        · refine r_iconst hK dX8_isRead_29 ?_
          exact r_ireturn hK hr hQ (nar_b (by decide)) dX8_isRead_30 ⟨C3, 0, rfl, rfl, wpO_some h⟩
        · refine r_cut [true, true, false, true, false, false, false, false] (lv' := [some (.ref (gA g 95)), some (.int (I (a1))), none, some (.int (I (r3))), none, none, none, none]) rfl ?_
          exact hj31 h
      · refine r_iconst hK dX8_isRead_29 ?_
        exact r_ireturn hK hr hQ (nar_b (by decide)) dX8_isRead_30 ⟨C3, 0, rfl, rfl, wpO_some h⟩
    · refine r_cut [true, true, false, true, false, false, false, false] (lv' := [some (.ref (gA g 95)), some (.int (I (a1))), none, some (.int (I (r3))), none, none, none, none]) rfl ?_
      exact hj31 h
set_option maxRecDepth 100000 in
set_option maxHeartbeats 4000000 in
theorem w_X8_compares_37 {K : KT} {g : GT} {Y : Mem} {dd : Nat} (hK : Kok K g cX8_compares RX8 dd) (hN : kN K = 8) (hr : (kMe K).sig.returnType = (some .int)) {Q : Mem → Int → Prop} (hQ : kQ K = MQ (kB K) (Qc g (QI (fun c => mrg Y c) Q)) (kA K) (kS K) (kc K) (ks K) (gS g)) (hdd : 2 ≤ dd) (u1 : Int) (u2 : Int) (u3 : Int) (u4 : Int) (u5 : Int) (u6 : Int) (k : Int → Mem → Option (Mem × Int)) (hk : ∀ (v7 : Int) (C : Mem), wpO (k v7 C) Q → Wn K g (mrg Y C) 89 [some (.ref (gA g 95)), some (.int (I (u1))), some (.int (I (u2))), some (.int (I (u3))), some (.int (I (u4))), some (.int (I (u5))), some (.int (I (u6))), some (.int (I (v7)))] []) : ∀ (n : Nat) (v7 : Int) (C : Mem), wpO (f_X8_compares_37 u1 u2 u3 u4 u5 u6 k n v7 C) Q → Wn K g (mrg Y C) 37 [some (.ref (gA g 95)), some (.int (I (u1))), some (.int (I (u2))), some (.int (I (u3))), some (.int (I (u4))), some (.int (I (u5))), some (.int (I (u6))), some (.int (I (v7)))] [] := by
  intro n
  induction n with
  | zero => intro v7 C h; exact (wpO_none h).elim
  | succ n ih =>
    intro v7 C h
    unfold f_X8_compares_37 at h
    refine r_iload hK dX8_compares_37 rfl ?_
    refine r_iload hK dX8_compares_39 rfl ?_
    refine r_icmp_ge hK dX8_compares_41 (t := 89) (by decide) (wpO_lt h) (fun h => ?_) (fun h => ?_)
    · refine r_iload hK dX8_compares_44 rfl ?_
      refine r_iload hK dX8_compares_46 rfl ?_
      refine r_icmp_ge hK dX8_compares_48 (t := 89) (by decide) (wpO_lt h) (fun h => ?_) (fun h => ?_)
      · refine r_aload_n hK dX8_compares_51 rfl ?_
        refine r_iload_n hK dX8_compares_52 rfl ?_
        refine r_iload_n hK dX8_compares_53 rfl ?_
        refine r_bipush hK dX8_compares_54 (by decide) ?_
        obtain ⟨hd56, h⟩ := wpO_dv h
        refine r_irem hK hd56 (by decide) dX8_compares_56 ?_
        refine r_iconst hK dX8_compares_57 ?_
        refine r_iadd hK dX8_compares_58 ?_
        refine r_iload hK dX8_compares_59 rfl ?_
        refine r_iadd hK dX8_compares_61 ?_
        refine r_callV hK ck_X8_as im_X8_as sl_X8_as ml_RX8_227 (by omega) (c_X8_as (l := kL K) (g := g) (Y := Y) (u3) (((u1 % 64) + 1) + v7) C (wpO_bd h)) cls_8 (k := 95) (by omega) rfl (As := [.int (I (u3)), .int (I (((u1 % 64) + 1) + v7))]) (st := []) rfl (Nat.le_of_ble_eq_true rfl) dX8_compares_62 (kkI (fun C62 r62 h => ?_))
        refine r_aload_n hK dX8_compares_65 rfl ?_
        refine r_iload hK dX8_compares_66 rfl ?_
        refine r_iload_n hK dX8_compares_68 rfl ?_
        refine r_bipush hK dX8_compares_69 (by decide) ?_
        obtain ⟨hd71, h⟩ := wpO_dv h
        refine r_irem hK hd71 (by decide) dX8_compares_71 ?_
        refine r_iconst hK dX8_compares_72 ?_
        refine r_iadd hK dX8_compares_73 ?_
        refine r_iload hK dX8_compares_74 rfl ?_
        refine r_iadd hK dX8_compares_76 ?_
        refine r_callV hK ck_X8_as im_X8_as sl_X8_as ml_RX8_227 (by omega) (c_X8_as (l := kL K) (g := g) (Y := Y) (u4) (((u2 % 64) + 1) + v7) C62 (wpO_bd h)) cls_8 (k := 95) (by omega) rfl (As := [.int (I (u4)), .int (I (((u2 % 64) + 1) + v7))]) (st := [.int (I (r62))]) rfl (Nat.le_of_ble_eq_true rfl) dX8_compares_77 (kkI (fun C77 r77 h => ?_))
        refine r_icmp_ne hK dX8_compares_80 (t := 89) (by decide) (wpO_eq h) (fun h => ?_) (fun h => ?_)
        · refine r_iinc hK dX8_compares_83 (by rw [hN]; decide) rfl rfl (lv' := [some (.ref (gA g 95)), some (.int (I (u1))), some (.int (I (u2))), some (.int (I (u3))), some (.int (I (u4))), some (.int (I (u5))), some (.int (I (u6))), some (.int (I (v7 + 1)))]) rfl ?_
          refine r_goto hK dX8_compares_86 (t := 37) (by decide) ?_
          exact ih (v7 + 1) C77 h
        · exact hk (v7) C77 h
      · exact hk (v7) C h
    · exact hk (v7) C h
set_option maxRecDepth 100000 in
set_option maxHeartbeats 4000000 in
theorem c_X8_compares {l : Launch} {g : GT} {Y : Mem} {Q : Mem → Int → Prop} (a1 : Int) (a2 : Int) (C : Mem) (h : wpO (f_X8_compares a1 a2 C) Q) : MetC l yX8_compares cX8_compares 8 (some .int) 2 g [.ref (gA g 95), .int (I (a1)), .int (I (a2))] (mrg Y C) (QI (fun c => mrg Y c) Q) := by
  refine met_at 5 (lv := [some (.ref (gA g 95)), some (.int (I (a1))), some (.int (I (a2))), none, none, none, none, none]) (by decide) (Nat.le_of_ble_eq_true rfl) rfl rfl (fun K hK hN hr hQ => ?_)
  unfold f_X8_compares at h
  refine r_iload_n hK dX8_compares_0 rfl ?_
  refine r_bipush hK dX8_compares_1 (by decide) ?_
  obtain ⟨hd3, h⟩ := wpO_dv h
  refine r_idiv hK hd3 (by decide) dX8_compares_3 ?_
  refine r_istore_n hK dX8_compares_4 (by rw [hN]; decide) rfl (lv' := [some (.ref (gA g 95)), some (.int (I (a1))), some (.int (I (a2))), some (.int (I (a1 / 64))), none, none, none, none]) rfl ?_
  refine r_iload_n hK dX8_compares_5 rfl ?_
  refine r_bipush hK dX8_compares_6 (by decide) ?_
  obtain ⟨hd8, h⟩ := wpO_dv h
  refine r_idiv hK hd8 (by decide) dX8_compares_8 ?_
  refine r_istore hK dX8_compares_9 (by rw [hN]; decide) rfl (lv' := [some (.ref (gA g 95)), some (.int (I (a1))), some (.int (I (a2))), some (.int (I (a1 / 64))), some (.int (I (a2 / 64))), none, none, none]) rfl ?_
  refine r_aload_n hK dX8_compares_11 rfl ?_
  refine r_iload_n hK dX8_compares_12 rfl ?_
  refine r_iload_n hK dX8_compares_13 rfl ?_
  refine r_bipush hK dX8_compares_14 (by decide) ?_
  obtain ⟨hd16, h⟩ := wpO_dv h
  refine r_irem hK hd16 (by decide) dX8_compares_16 ?_
  refine r_callV hK ck_X8_as im_X8_as sl_X8_as ml_RX8_227 (by omega) (c_X8_as (l := kL K) (g := g) (Y := Y) (a1 / 64) (a1 % 64) C (wpO_bd h)) cls_8 (k := 95) (by omega) rfl (As := [.int (I (a1 / 64)), .int (I (a1 % 64))]) (st := []) rfl (Nat.le_of_ble_eq_true rfl) dX8_compares_17 (kkI (fun C17 r17 h => ?_))
  refine r_istore hK dX8_compares_20 (by rw [hN]; decide) rfl (lv' := [some (.ref (gA g 95)), some (.int (I (a1))), some (.int (I (a2))), some (.int (I (a1 / 64))), some (.int (I (a2 / 64))), some (.int (I (r17))), none, none]) rfl ?_
  refine r_aload_n hK dX8_compares_22 rfl ?_
  refine r_iload hK dX8_compares_23 rfl ?_
  refine r_iload_n hK dX8_compares_25 rfl ?_
  refine r_bipush hK dX8_compares_26 (by decide) ?_
  obtain ⟨hd28, h⟩ := wpO_dv h
  refine r_irem hK hd28 (by decide) dX8_compares_28 ?_
  refine r_callV hK ck_X8_as im_X8_as sl_X8_as ml_RX8_227 (by omega) (c_X8_as (l := kL K) (g := g) (Y := Y) (a2 / 64) (a2 % 64) C17 (wpO_bd h)) cls_8 (k := 95) (by omega) rfl (As := [.int (I (a2 / 64)), .int (I (a2 % 64))]) (st := []) rfl (Nat.le_of_ble_eq_true rfl) dX8_compares_29 (kkI (fun C29 r29 h => ?_))
  refine r_istore hK dX8_compares_32 (by rw [hN]; decide) rfl (lv' := [some (.ref (gA g 95)), some (.int (I (a1))), some (.int (I (a2))), some (.int (I (a1 / 64))), some (.int (I (a2 / 64))), some (.int (I (r17))), some (.int (I (r29))), none]) rfl ?_
  refine r_iconst hK dX8_compares_34 ?_
  refine r_istore hK dX8_compares_35 (by rw [hN]; decide) rfl (lv' := [some (.ref (gA g 95)), some (.int (I (a1))), some (.int (I (a2))), some (.int (I (a1 / 64))), some (.int (I (a2 / 64))), some (.int (I (r17))), some (.int (I (r29))), some (.int (I (0)))]) rfl ?_
  refine w_X8_compares_37 hK hN hr hQ (by omega) (a1) (a2) (a1 / 64) (a2 / 64) (r17) (r29) _ (fun v7_e37 C_e37 h => ?_) FU (0) C29 h
  refine r_iload hK dX8_compares_89 rfl ?_
  refine r_iload hK dX8_compares_91 rfl ?_
  refine r_icmp_ge hK dX8_compares_93 (t := 134) (by decide) (wpO_lt h) (fun h => ?_) (fun h => ?_)
  · refine r_iload hK dX8_compares_96 rfl ?_
    refine r_iload hK dX8_compares_98 rfl ?_
    refine r_icmp_ge hK dX8_compares_100 (t := 134) (by decide) (wpO_lt h) (fun h => ?_) (fun h => ?_)
    · refine r_aload_n hK dX8_compares_103 rfl ?_
      refine r_iload_n hK dX8_compares_104 rfl ?_
      refine r_iload_n hK dX8_compares_105 rfl ?_
      refine r_bipush hK dX8_compares_106 (by decide) ?_
      obtain ⟨hd108, h⟩ := wpO_dv h
      refine r_irem hK hd108 (by decide) dX8_compares_108 ?_
      refine r_iconst hK dX8_compares_109 ?_
      refine r_iadd hK dX8_compares_110 ?_
      refine r_iload hK dX8_compares_111 rfl ?_
      refine r_iadd hK dX8_compares_113 ?_
      refine r_callV hK ck_X8_as im_X8_as sl_X8_as ml_RX8_227 (by omega) (c_X8_as (l := kL K) (g := g) (Y := Y) (a1 / 64) (((a1 % 64) + 1) + v7_e37) C_e37 (wpO_bd h)) cls_8 (k := 95) (by omega) rfl (As := [.int (I (a1 / 64)), .int (I (((a1 % 64) + 1) + v7_e37))]) (st := []) rfl (Nat.le_of_ble_eq_true rfl) dX8_compares_114 (kkI (fun C114 r114 h => ?_))
      refine r_aload_n hK dX8_compares_117 rfl ?_
      refine r_iload hK dX8_compares_118 rfl ?_
      refine r_iload_n hK dX8_compares_120 rfl ?_
      refine r_bipush hK dX8_compares_121 (by decide) ?_
      obtain ⟨hd123, h⟩ := wpO_dv h
      refine r_irem hK hd123 (by decide) dX8_compares_123 ?_
      refine r_iconst hK dX8_compares_124 ?_
      refine r_iadd hK dX8_compares_125 ?_
      refine r_iload hK dX8_compares_126 rfl ?_
      refine r_iadd hK dX8_compares_128 ?_
      refine r_callV hK ck_X8_as im_X8_as sl_X8_as ml_RX8_227 (by omega) (c_X8_as (l := kL K) (g := g) (Y := Y) (a2 / 64) (((a2 % 64) + 1) + v7_e37) C114 (wpO_bd h)) cls_8 (k := 95) (by omega) rfl (As := [.int (I (a2 / 64)), .int (I (((a2 % 64) + 1) + v7_e37))]) (st := [.int (I (r114))]) rfl (Nat.le_of_ble_eq_true rfl) dX8_compares_129 (kkI (fun C129 r129 h => ?_))
      refine r_isub hK dX8_compares_132 ?_
      exact r_ireturn hK hr hQ rfl dX8_compares_133 ⟨C129, (r114 - r129), rfl, rfl, wpO_some h⟩
    · refine r_iload hK dX8_compares_134 rfl ?_
      refine r_iload hK dX8_compares_136 rfl ?_
      refine r_isub hK dX8_compares_138 ?_
      exact r_ireturn hK hr hQ rfl dX8_compares_139 ⟨C_e37, (r17 - r29), rfl, rfl, wpO_some h⟩
  · refine r_iload hK dX8_compares_134 rfl ?_
    refine r_iload hK dX8_compares_136 rfl ?_
    refine r_isub hK dX8_compares_138 ?_
    exact r_ireturn hK hr hQ rfl dX8_compares_139 ⟨C_e37, (r17 - r29), rfl, rfl, wpO_some h⟩
set_option maxRecDepth 100000 in
set_option maxHeartbeats 4000000 in
theorem w_X8_rises_7 {K : KT} {g : GT} {Y : Mem} {dd : Nat} (hK : Kok K g cX8_rises RX8 dd) (hN : kN K = 6) (hr : (kMe K).sig.returnType = (some .boolean)) {Q : Mem → Int → Prop} (hQ : kQ K = MQ (kB K) (Qc g (QI (fun c => mrg Y c) Q)) (kA K) (kS K) (kc K) (ks K) (gS g)) (hdd : 3 ≤ dd) (u1 : Int) (k : Int → Int → Int → Mem → Option (Mem × Int)) (hk : ∀ (v2 : Int) (v3 : Int) (v4 : Int) (C : Mem), wpO (k v2 v3 v4 C) Q → Wn K g (mrg Y C) 71 [some (.ref (gA g 95)), some (.int (I (u1))), some (.int (I (v2))), some (.int (I (v3))), some (.int (I (v4))), none] []) : ∀ (n : Nat) (v2 : Int) (v3 : Int) (v4 : Int) (C : Mem), wpO (f_X8_rises_7 u1 k n v2 v3 v4 C) Q → Wn K g (mrg Y C) 7 [some (.ref (gA g 95)), some (.int (I (u1))), some (.int (I (v2))), some (.int (I (v3))), some (.int (I (v4))), none] [] := by
  intro n
  induction n with
  | zero => intro v2 v3 v4 C h; exact (wpO_none h).elim
  | succ n ih =>
    intro v2 v3 v4 C h
    unfold f_X8_rises_7 at h
    refine r_iload hK dX8_rises_7 rfl ?_
    refine r_iconst hK dX8_rises_9 ?_
    refine r_iadd hK dX8_rises_10 ?_
    refine r_aload_n hK dX8_rises_11 rfl ?_
    refine r_iload_n hK dX8_rises_12 rfl ?_
    refine r_iconst hK dX8_rises_13 ?_
    refine r_callV hK ck_X8_as im_X8_as sl_X8_as ml_RX8_227 (by omega) (c_X8_as (l := kL K) (g := g) (Y := Y) (u1) (1) C (wpO_bd h)) cls_8 (k := 95) (by omega) rfl (As := [.int (I (u1)), .int (I (1))]) (st := [.int (I (v4 + 1))]) rfl (Nat.le_of_ble_eq_true rfl) dX8_rises_14 (kkI (fun C14 r14 h => ?_))
    refine r_icmp_ge hK dX8_rises_17 (t := 71) (by decide) (wpO_lt h) (fun h => ?_) (fun h => ?_)
    · refine r_iload_n hK dX8_rises_20 rfl ?_
      refine r_aload_n hK dX8_rises_21 rfl ?_
      refine r_iload_n hK dX8_rises_22 rfl ?_
      refine r_iload_n hK dX8_rises_23 rfl ?_
      refine r_callV hK ck_X8_as im_X8_as sl_X8_as ml_RX8_227 (by omega) (c_X8_as (l := kL K) (g := g) (Y := Y) (u1) (v3) C14 (wpO_bd h)) cls_8 (k := 95) (by omega) rfl (As := [.int (I (u1)), .int (I (v3))]) (st := [.int (I (v3))]) rfl (Nat.le_of_ble_eq_true rfl) dX8_rises_24 (kkI (fun C24 r24 h => ?_))
      refine r_iadd hK dX8_rises_27 ?_
      refine r_iconst hK dX8_rises_28 ?_
      refine r_iadd hK dX8_rises_29 ?_
      refine r_istore hK dX8_rises_30 (by rw [hN]; decide) rfl (lv' := [some (.ref (gA g 95)), some (.int (I (u1))), some (.int (I (v2))), some (.int (I (v3))), some (.int (I (v4))), some (.int (I ((v3 + r24) + 2)))]) rfl ?_
      refine r_iload_n hK dX8_rises_32 rfl ?_
      refine r_if_eq hK dX8_rises_33 (t := 60) (by decide) (wpO_eq h) (fun h => ?_) (fun h => ?_)
      · refine r_iconst hK dX8_rises_60 ?_
        refine r_istore_n hK dX8_rises_61 (by rw [hN]; decide) rfl (lv' := [some (.ref (gA g 95)), some (.int (I (u1))), some (.int (I (0))), some (.int (I (v3))), some (.int (I (v4))), some (.int (I ((v3 + r24) + 2)))]) rfl ?_
        refine r_iload hK dX8_rises_62 rfl ?_
        refine r_istore_n hK dX8_rises_64 (by rw [hN]; decide) rfl (lv' := [some (.ref (gA g 95)), some (.int (I (u1))), some (.int (I (0))), some (.int (I ((v3 + r24) + 2))), some (.int (I (v4))), some (.int (I ((v3 + r24) + 2)))]) rfl ?_
        refine r_iinc hK dX8_rises_65 (by rw [hN]; decide) rfl rfl (lv' := [some (.ref (gA g 95)), some (.int (I (u1))), some (.int (I (0))), some (.int (I ((v3 + r24) + 2))), some (.int (I (v4 + 1))), some (.int (I ((v3 + r24) + 2)))]) rfl ?_
        refine r_goto hK dX8_rises_68 (t := 7) (by decide) ?_
        refine r_cut [true, true, true, true, true, false] (lv' := [some (.ref (gA g 95)), some (.int (I (u1))), some (.int (I (0))), some (.int (I ((v3 + r24) + 2))), some (.int (I (v4 + 1))), none]) rfl ?_
        exact ih (0) ((v3 + r24) + 2) (v4 + 1) C24 h
      · refine r_aload_n hK dX8_rises_36 rfl ?_
        refine r_bipush hK dX8_rises_37 (by decide) ?_
        refine r_iload_n hK dX8_rises_39 rfl ?_
        refine r_imul hK dX8_rises_40 ?_
        refine r_iload_n hK dX8_rises_41 rfl ?_
        refine r_iadd hK dX8_rises_42 ?_
        refine r_bipush hK dX8_rises_43 (by decide) ?_
        refine r_iload_n hK dX8_rises_45 rfl ?_
        refine r_imul hK dX8_rises_46 ?_
        refine r_iload hK dX8_rises_47 rfl ?_
        refine r_iadd hK dX8_rises_49 ?_
        refine r_callV hK ck_X8_compares im_X8_compares sl_X8_compares ml_RX8_230 (by omega) (c_X8_compares (l := kL K) (g := g) (Y := Y) ((64 * u1) + v3) ((64 * u1) + ((v3 + r24) + 2)) C24 (wpO_bd h)) cls_8 (k := 95) (by omega) rfl (As := [.int (I ((64 * u1) + v3)), .int (I ((64 * u1) + ((v3 + r24) + 2)))]) (st := []) rfl (Nat.le_of_ble_eq_true rfl) dX8_rises_50 (kkI (fun C50 r50 h => ?_))
        refine r_if_ge hK dX8_rises_53 (t := 60) (by decide) (wpO_lt h) (fun h => ?_) (fun h => ?_)
        · refine r_iconst hK dX8_rises_56 ?_
          refine r_goto hK dX8_rises_57 (t := 61) (by decide) ?_
          refine r_istore_n hK dX8_rises_61 (by rw [hN]; decide) rfl (lv' := [some (.ref (gA g 95)), some (.int (I (u1))), some (.int (I (1))), some (.int (I (v3))), some (.int (I (v4))), some (.int (I ((v3 + r24) + 2)))]) rfl ?_
          refine r_iload hK dX8_rises_62 rfl ?_
          refine r_istore_n hK dX8_rises_64 (by rw [hN]; decide) rfl (lv' := [some (.ref (gA g 95)), some (.int (I (u1))), some (.int (I (1))), some (.int (I ((v3 + r24) + 2))), some (.int (I (v4))), some (.int (I ((v3 + r24) + 2)))]) rfl ?_
          refine r_iinc hK dX8_rises_65 (by rw [hN]; decide) rfl rfl (lv' := [some (.ref (gA g 95)), some (.int (I (u1))), some (.int (I (1))), some (.int (I ((v3 + r24) + 2))), some (.int (I (v4 + 1))), some (.int (I ((v3 + r24) + 2)))]) rfl ?_
          refine r_goto hK dX8_rises_68 (t := 7) (by decide) ?_
          refine r_cut [true, true, true, true, true, false] (lv' := [some (.ref (gA g 95)), some (.int (I (u1))), some (.int (I (1))), some (.int (I ((v3 + r24) + 2))), some (.int (I (v4 + 1))), none]) rfl ?_
          exact ih (1) ((v3 + r24) + 2) (v4 + 1) C50 h
        · refine r_iconst hK dX8_rises_60 ?_
          refine r_istore_n hK dX8_rises_61 (by rw [hN]; decide) rfl (lv' := [some (.ref (gA g 95)), some (.int (I (u1))), some (.int (I (0))), some (.int (I (v3))), some (.int (I (v4))), some (.int (I ((v3 + r24) + 2)))]) rfl ?_
          refine r_iload hK dX8_rises_62 rfl ?_
          refine r_istore_n hK dX8_rises_64 (by rw [hN]; decide) rfl (lv' := [some (.ref (gA g 95)), some (.int (I (u1))), some (.int (I (0))), some (.int (I ((v3 + r24) + 2))), some (.int (I (v4))), some (.int (I ((v3 + r24) + 2)))]) rfl ?_
          refine r_iinc hK dX8_rises_65 (by rw [hN]; decide) rfl rfl (lv' := [some (.ref (gA g 95)), some (.int (I (u1))), some (.int (I (0))), some (.int (I ((v3 + r24) + 2))), some (.int (I (v4 + 1))), some (.int (I ((v3 + r24) + 2)))]) rfl ?_
          refine r_goto hK dX8_rises_68 (t := 7) (by decide) ?_
          refine r_cut [true, true, true, true, true, false] (lv' := [some (.ref (gA g 95)), some (.int (I (u1))), some (.int (I (0))), some (.int (I ((v3 + r24) + 2))), some (.int (I (v4 + 1))), none]) rfl ?_
          exact ih (0) ((v3 + r24) + 2) (v4 + 1) C50 h
    · exact hk (v2) (v3) (v4) C14 h
set_option maxRecDepth 100000 in
set_option maxHeartbeats 4000000 in
theorem c_X8_rises {l : Launch} {g : GT} {Y : Mem} {Q : Mem → Int → Prop} (a1 : Int) (C : Mem) (h : wpO (f_X8_rises a1 C) Q) : MetC l yX8_rises cX8_rises 6 (some .boolean) 3 g [.ref (gA g 95), .int (I (a1))] (mrg Y C) (QI (fun c => mrg Y c) Q) := by
  refine met_at 4 (lv := [some (.ref (gA g 95)), some (.int (I (a1))), none, none, none, none]) (by decide) (Nat.le_of_ble_eq_true rfl) rfl rfl (fun K hK hN hr hQ => ?_)
  unfold f_X8_rises at h
  refine r_iconst hK dX8_rises_0 ?_
  refine r_istore_n hK dX8_rises_1 (by rw [hN]; decide) rfl (lv' := [some (.ref (gA g 95)), some (.int (I (a1))), some (.int (I (1))), none, none, none]) rfl ?_
  refine r_iconst hK dX8_rises_2 ?_
  refine r_istore_n hK dX8_rises_3 (by rw [hN]; decide) rfl (lv' := [some (.ref (gA g 95)), some (.int (I (a1))), some (.int (I (1))), some (.int (I (3))), none, none]) rfl ?_
  refine r_iconst hK dX8_rises_4 ?_
  refine r_istore hK dX8_rises_5 (by rw [hN]; decide) rfl (lv' := [some (.ref (gA g 95)), some (.int (I (a1))), some (.int (I (1))), some (.int (I (3))), some (.int (I (0))), none]) rfl ?_
  refine w_X8_rises_7 hK hN hr hQ (by omega) (a1) _ (fun v2_e7 v3_e7 v4_e7 C_e7 h => ?_) FU (1) (3) (0) C h
  refine r_iload_n hK dX8_rises_71 rfl ?_
  obtain ⟨hbo72, h⟩ := wpO_bo h
  exact r_ireturn hK hr hQ (nar_b hbo72) dX8_rises_72 ⟨C_e7, v2_e7, rfl, rfl, wpO_some h⟩
set_option maxRecDepth 100000 in
set_option maxHeartbeats 4000000 in
theorem w_X8_isWithin_9 {K : KT} {g : GT} {Y : Mem} {dd : Nat} (hK : Kok K g cX8_isWithin RX8 dd) (hN : kN K = 8) (hr : (kMe K).sig.returnType = (some .boolean)) {Q : Mem → Int → Prop} (hQ : kQ K = MQ (kB K) (Qc g (QI (fun c => mrg Y c) Q)) (kA K) (kS K) (kc K) (ks K) (gS g)) (hdd : 3 ≤ dd) (u1 : Int) (u2 : Int) (u3 : Int) (k : Int → Int → Int → Mem → Option (Mem × Int)) (hk : ∀ (v4 : Int) (v5 : Int) (v6 : Int) (C : Mem), wpO (k v4 v5 v6 C) Q → Wn K g (mrg Y C) 93 [some (.ref (gA g 95)), some (.int (I (u1))), some (.int (I (u2))), some (.int (I (u3))), some (.int (I (v4))), some (.int (I (v5))), some (.int (I (v6))), none] []) : ∀ (n : Nat) (v4 : Int) (v5 : Int) (v6 : Int) (C : Mem), wpO (f_X8_isWithin_9 u1 u2 u3 k n v4 v5 v6 C) Q → Wn K g (mrg Y C) 9 [some (.ref (gA g 95)), some (.int (I (u1))), some (.int (I (u2))), some (.int (I (u3))), some (.int (I (v4))), some (.int (I (v5))), some (.int (I (v6))), none] [] := by
  intro n
  induction n with
  | zero => intro v4 v5 v6 C h; exact (wpO_none h).elim
  | succ n ih =>
    intro v4 v5 v6 C h
    unfold f_X8_isWithin_9 at h
    refine r_iload hK dX8_isWithin_9 rfl ?_
    refine r_aload_n hK dX8_isWithin_11 rfl ?_
    refine r_iload_n hK dX8_isWithin_12 rfl ?_
    refine r_iconst hK dX8_isWithin_13 ?_
    refine r_callV hK ck_X8_as im_X8_as sl_X8_as ml_RX8_227 (by omega) (c_X8_as (l := kL K) (g := g) (Y := Y) (u1) (1) C (wpO_bd h)) cls_8 (k := 95) (by omega) rfl (As := [.int (I (u1)), .int (I (1))]) (st := [.int (I (v6))]) rfl (Nat.le_of_ble_eq_true rfl) dX8_isWithin_14 (kkI (fun C14 r14 h => ?_))
    refine r_icmp_ge hK dX8_isWithin_17 (t := 93) (by decide) (wpO_lt h) (fun h => ?_) (fun h => ?_)
    · refine r_bipush hK dX8_isWithin_20 (by decide) ?_
      refine r_iload_n hK dX8_isWithin_22 rfl ?_
      refine r_imul hK dX8_isWithin_23 ?_
      refine r_iload hK dX8_isWithin_24 rfl ?_
      refine r_iadd hK dX8_isWithin_26 ?_
      refine r_istore hK dX8_isWithin_27 (by rw [hN]; decide) rfl (lv' := [some (.ref (gA g 95)), some (.int (I (u1))), some (.int (I (u2))), some (.int (I (u3))), some (.int (I (v4))), some (.int (I (v5))), some (.int (I (v6))), some (.int (I ((64 * u1) + v5)))]) rfl ?_
      refine r_iload hK dX8_isWithin_29 rfl ?_
      refine r_jn (J := fun j71 => ∀ (s0_71 : Int) (C_71 : Mem), wpO (j71 s0_71 C_71) Q → Wn K g (mrg Y C_71) 71 [some (.ref (gA g 95)), some (.int (I (u1))), some (.int (I (u2))), some (.int (I (u3))), none, some (.int (I (v5))), some (.int (I (v6))), none] [.int (I (s0_71))]) h ?_ ?_
      · intro s0_71 C_71 h
        refine r_istore hK dX8_isWithin_71 (by rw [hN]; decide) rfl (lv' := [some (.ref (gA g 95)), some (.int (I (u1))), some (.int (I (u2))), some (.int (I (u3))), some (.int (I (s0_71))), some (.int (I (v5))), some (.int (I (v6))), none]) rfl ?_
        refine r_iload hK dX8_isWithin_73 rfl ?_
        refine r_aload_n hK dX8_isWithin_75 rfl ?_
        refine r_iload_n hK dX8_isWithin_76 rfl ?_
        refine r_iload hK dX8_isWithin_77 rfl ?_
        refine r_callV hK ck_X8_as im_X8_as sl_X8_as ml_RX8_227 (by omega) (c_X8_as (l := kL K) (g := g) (Y := Y) (u1) (v5) C_71 (wpO_bd h)) cls_8 (k := 95) (by omega) rfl (As := [.int (I (u1)), .int (I (v5))]) (st := [.int (I (v5))]) rfl (Nat.le_of_ble_eq_true rfl) dX8_isWithin_79 (kkI (fun C79 r79 h => ?_))
        refine r_iconst hK dX8_isWithin_82 ?_
        refine r_iadd hK dX8_isWithin_83 ?_
        refine r_iadd hK dX8_isWithin_84 ?_
        refine r_istore hK dX8_isWithin_85 (by rw [hN]; decide) rfl (lv' := [some (.ref (gA g 95)), some (.int (I (u1))), some (.int (I (u2))), some (.int (I (u3))), some (.int (I (s0_71))), some (.int (I (v5 + (r79 + 2)))), some (.int (I (v6))), none]) rfl ?_
        refine r_iinc hK dX8_isWithin_87 (by rw [hN]; decide) rfl rfl (lv' := [some (.ref (gA g 95)), some (.int (I (u1))), some (.int (I (u2))), some (.int (I (u3))), some (.int (I (s0_71))), some (.int (I (v5 + (r79 + 2)))), some (.int (I (v6 + 1))), none]) rfl ?_
        refine r_goto hK dX8_isWithin_90 (t := 9) (by decide) ?_
        exact ih (s0_71) (v5 + (r79 + 2)) (v6 + 1) C79 h
      · intro hj71 h
        refine r_jn (J := fun j70 => ∀ (C_70 : Mem), wpO (j70 C_70) Q → Wn K g (mrg Y C_70) 70 [some (.ref (gA g 95)), some (.int (I (u1))), some (.int (I (u2))), some (.int (I (u3))), none, some (.int (I (v5))), some (.int (I (v6))), none] []) h ?_ ?_
        · intro C_70 h
          refine r_iconst hK dX8_isWithin_70 ?_
          exact hj71 (0) C_70 h
        · intro hj70 h
          refine r_if_eq hK dX8_isWithin_31 (t := 70) (by decide) (wpO_eq h) (fun h => ?_) (fun h => ?_)
          · refine r_cut [true, true, true, true, false, true, true, false] (lv' := [some (.ref (gA g 95)), some (.int (I (u1))), some (.int (I (u2))), some (.int (I (u3))), none, some (.int (I (v5))), some (.int (I (v6))), none]) rfl ?_
            exact hj70 C14 h
          · refine r_iload_n hK dX8_isWithin_34 rfl ?_
            refine r_bipush hK dX8_isWithin_35 (by decide) ?_
            refine r_jn (J := fun j50 => ∀ (C_50 : Mem), wpO (j50 C_50) Q → Wn K g (mrg Y C_50) 50 [some (.ref (gA g 95)), some (.int (I (u1))), some (.int (I (u2))), some (.int (I (u3))), none, some (.int (I (v5))), some (.int (I (v6))), some (.int (I ((64 * u1) + v5)))] []) h ?_ ?_
            · intro C_50 h
              refine r_iload_n hK dX8_isWithin_50 rfl ?_
              refine r_bipush hK dX8_isWithin_51 (by decide) ?_
              refine r_jn (J := fun j66 => ∀ (C_66 : Mem), wpO (j66 C_66) Q → Wn K g (mrg Y C_66) 66 [some (.ref (gA g 95)), some (.int (I (u1))), some (.int (I (u2))), some (.int (I (u3))), none, some (.int (I (v5))), some (.int (I (v6))), none] []) h ?_ ?_
              · intro C_66 h
                refine r_iconst hK dX8_isWithin_66 ?_
                refine r_goto hK dX8_isWithin_67 (t := 71) (by decide) ?_
                exact hj71 (1) C_66 h
              · intro hj66 h
                refine r_icmp_eq hK dX8_isWithin_53 (t := 66) (by decide) (wpO_eq h) (fun h => ?_) (fun h => ?_)
                · refine r_cut [true, true, true, true, false, true, true, false] (lv' := [some (.ref (gA g 95)), some (.int (I (u1))), some (.int (I (u2))), some (.int (I (u3))), none, some (.int (I (v5))), some (.int (I (v6))), none]) rfl ?_
                  exact hj66 C_50 h
                · refine r_aload_n hK dX8_isWithin_56 rfl ?_
                  refine r_iload hK dX8_isWithin_57 rfl ?_
                  refine r_iload_n hK dX8_isWithin_59 rfl ?_
                  refine r_callV hK ck_X8_compares im_X8_compares sl_X8_compares ml_RX8_230 (by omega) (c_X8_compares (l := kL K) (g := g) (Y := Y) ((64 * u1) + v5) (u3) C_50 (wpO_bd h)) cls_8 (k := 95) (by omega) rfl (As := [.int (I ((64 * u1) + v5)), .int (I (u3))]) (st := []) rfl (Nat.le_of_ble_eq_true rfl) dX8_isWithin_60 (kkI (fun C60 r60 h => ?_))
                  refine r_if_ge hK dX8_isWithin_63 (t := 70) (by decide) (wpO_lt h) (fun h => ?_) (fun h => ?_)
                  · refine r_cut [true, true, true, true, false, true, true, false] (lv' := [some (.ref (gA g 95)), some (.int (I (u1))), some (.int (I (u2))), some (.int (I (u3))), none, some (.int (I (v5))), some (.int (I (v6))), none]) rfl ?_
                    exact hj66 C60 h
                  · refine r_cut [true, true, true, true, false, true, true, false] (lv' := [some (.ref (gA g 95)), some (.int (I (u1))), some (.int (I (u2))), some (.int (I (u3))), none, some (.int (I (v5))), some (.int (I (v6))), none]) rfl ?_
                    exact hj70 C60 h
            · intro hj50 h
              refine r_icmp_eq hK dX8_isWithin_37 (t := 50) (by decide) (wpO_eq h) (fun h => ?_) (fun h => ?_)
              · refine r_cut [true, true, true, true, false, true, true, true] (lv' := [some (.ref (gA g 95)), some (.int (I (u1))), some (.int (I (u2))), some (.int (I (u3))), none, some (.int (I (v5))), some (.int (I (v6))), some (.int (I ((64 * u1) + v5)))]) rfl ?_
                exact hj50 C14 h
              · refine r_aload_n hK dX8_isWithin_40 rfl ?_
                refine r_iload hK dX8_isWithin_41 rfl ?_
                refine r_iload_n hK dX8_isWithin_43 rfl ?_
                refine r_callV hK ck_X8_compares im_X8_compares sl_X8_compares ml_RX8_230 (by omega) (c_X8_compares (l := kL K) (g := g) (Y := Y) ((64 * u1) + v5) (u2) C14 (wpO_bd h)) cls_8 (k := 95) (by omega) rfl (As := [.int (I ((64 * u1) + v5)), .int (I (u2))]) (st := []) rfl (Nat.le_of_ble_eq_true rfl) dX8_isWithin_44 (kkI (fun C44 r44 h => ?_))
                refine r_if_lt hK dX8_isWithin_47 (t := 70) (by decide) (wpO_lt h) (fun h => ?_) (fun h => ?_)
                · refine r_cut [true, true, true, true, false, true, true, false] (lv' := [some (.ref (gA g 95)), some (.int (I (u1))), some (.int (I (u2))), some (.int (I (u3))), none, some (.int (I (v5))), some (.int (I (v6))), none]) rfl ?_
                  exact hj70 C44 h
                · refine r_cut [true, true, true, true, false, true, true, true] (lv' := [some (.ref (gA g 95)), some (.int (I (u1))), some (.int (I (u2))), some (.int (I (u3))), none, some (.int (I (v5))), some (.int (I (v6))), some (.int (I ((64 * u1) + v5)))]) rfl ?_
                  exact hj50 C44 h
    · exact hk (v4) (v5) (v6) C14 h
set_option maxRecDepth 100000 in
set_option maxHeartbeats 4000000 in
theorem c_X8_isWithin {l : Launch} {g : GT} {Y : Mem} {Q : Mem → Int → Prop} (a1 : Int) (a2 : Int) (a3 : Int) (C : Mem) (h : wpO (f_X8_isWithin a1 a2 a3 C) Q) : MetC l yX8_isWithin cX8_isWithin 8 (some .boolean) 3 g [.ref (gA g 95), .int (I (a1)), .int (I (a2)), .int (I (a3))] (mrg Y C) (QI (fun c => mrg Y c) Q) := by
  refine met_at 4 (lv := [some (.ref (gA g 95)), some (.int (I (a1))), some (.int (I (a2))), some (.int (I (a3))), none, none, none, none]) (by decide) (Nat.le_of_ble_eq_true rfl) rfl rfl (fun K hK hN hr hQ => ?_)
  unfold f_X8_isWithin at h
  refine r_iconst hK dX8_isWithin_0 ?_
  refine r_istore hK dX8_isWithin_1 (by rw [hN]; decide) rfl (lv' := [some (.ref (gA g 95)), some (.int (I (a1))), some (.int (I (a2))), some (.int (I (a3))), some (.int (I (1))), none, none, none]) rfl ?_
  refine r_iconst hK dX8_isWithin_3 ?_
  refine r_istore hK dX8_isWithin_4 (by rw [hN]; decide) rfl (lv' := [some (.ref (gA g 95)), some (.int (I (a1))), some (.int (I (a2))), some (.int (I (a3))), some (.int (I (1))), some (.int (I (3))), none, none]) rfl ?_
  refine r_iconst hK dX8_isWithin_6 ?_
  refine r_istore hK dX8_isWithin_7 (by rw [hN]; decide) rfl (lv' := [some (.ref (gA g 95)), some (.int (I (a1))), some (.int (I (a2))), some (.int (I (a3))), some (.int (I (1))), some (.int (I (3))), some (.int (I (0))), none]) rfl ?_
  refine w_X8_isWithin_9 hK hN hr hQ (by omega) (a1) (a2) (a3) _ (fun v4_e9 v5_e9 v6_e9 C_e9 h => ?_) FU (1) (3) (0) C h
  refine r_iload hK dX8_isWithin_93 rfl ?_
  obtain ⟨hbo95, h⟩ := wpO_bo h
  exact r_ireturn hK hr hQ (nar_b hbo95) dX8_isWithin_95 ⟨C_e9, v4_e9, rfl, rfl, wpO_some h⟩
set_option maxRecDepth 100000 in
set_option maxHeartbeats 4000000 in
theorem w_X8_childAs_16 {K : KT} {g : GT} {Y : Mem} {dd : Nat} (hK : Kok K g cX8_childAs RX8 dd) (hN : kN K = 5) (hr : (kMe K).sig.returnType = (some .int)) {Q : Mem → Int → Prop} (hQ : kQ K = MQ (kB K) (Qc g (QI (fun c => mrg Y c) Q)) (kA K) (kS K) (kc K) (ks K) (gS g)) (hdd : 2 ≤ dd) (u1 : Int) (u2 : Int) (k : Int → Int → Mem → Option (Mem × Int)) (hk : ∀ (v3 : Int) (v4 : Int) (C : Mem), wpO (k v3 v4 C) Q → Wn K g (mrg Y C) 39 [some (.ref (gA g 95)), some (.int (I (u1))), some (.int (I (u2))), some (.int (I (v3))), some (.int (I (v4)))] []) : ∀ (n : Nat) (v3 : Int) (v4 : Int) (C : Mem), wpO (f_X8_childAs_16 u1 u2 k n v3 v4 C) Q → Wn K g (mrg Y C) 16 [some (.ref (gA g 95)), some (.int (I (u1))), some (.int (I (u2))), some (.int (I (v3))), some (.int (I (v4)))] [] := by
  intro n
  induction n with
  | zero => intro v3 v4 C h; exact (wpO_none h).elim
  | succ n ih =>
    intro v3 v4 C h
    unfold f_X8_childAs_16 at h
    refine r_iload hK dX8_childAs_16 rfl ?_
    refine r_iload_n hK dX8_childAs_18 rfl ?_
    refine r_icmp_ge hK dX8_childAs_19 (t := 39) (by decide) (wpO_lt h) (fun h => ?_) (fun h => ?_)
    · refine r_iload_n hK dX8_childAs_22 rfl ?_
      refine r_aload_n hK dX8_childAs_23 rfl ?_
      refine r_iload_n hK dX8_childAs_24 rfl ?_
      refine r_iload_n hK dX8_childAs_25 rfl ?_
      refine r_callV hK ck_X8_as im_X8_as sl_X8_as ml_RX8_227 (by omega) (c_X8_as (l := kL K) (g := g) (Y := Y) (u1) (v3) C (wpO_bd h)) cls_8 (k := 95) (by omega) rfl (As := [.int (I (u1)), .int (I (v3))]) (st := [.int (I (v3))]) rfl (Nat.le_of_ble_eq_true rfl) dX8_childAs_26 (kkI (fun C26 r26 h => ?_))
      refine r_iconst hK dX8_childAs_29 ?_
      refine r_iadd hK dX8_childAs_30 ?_
      refine r_iadd hK dX8_childAs_31 ?_
      refine r_istore_n hK dX8_childAs_32 (by rw [hN]; decide) rfl (lv' := [some (.ref (gA g 95)), some (.int (I (u1))), some (.int (I (u2))), some (.int (I (v3 + (r26 + 2)))), some (.int (I (v4)))]) rfl ?_
      refine r_iinc hK dX8_childAs_33 (by rw [hN]; decide) rfl rfl (lv' := [some (.ref (gA g 95)), some (.int (I (u1))), some (.int (I (u2))), some (.int (I (v3 + (r26 + 2)))), some (.int (I (v4 + 1)))]) rfl ?_
      refine r_goto hK dX8_childAs_36 (t := 16) (by decide) ?_
      exact ih (v3 + (r26 + 2)) (v4 + 1) C26 h
    · exact hk (v3) (v4) C h
set_option maxRecDepth 100000 in
set_option maxHeartbeats 4000000 in
theorem c_X8_childAs {l : Launch} {g : GT} {Y : Mem} {Q : Mem → Int → Prop} (a1 : Int) (a2 : Int) (C : Mem) (h : wpO (f_X8_childAs a1 a2 C) Q) : MetC l yX8_childAs cX8_childAs 5 (some .int) 2 g [.ref (gA g 95), .int (I (a1)), .int (I (a2))] (mrg Y C) (QI (fun c => mrg Y c) Q) := by
  refine met_at 2 (lv := [some (.ref (gA g 95)), some (.int (I (a1))), some (.int (I (a2))), none, none]) (by decide) (Nat.le_of_ble_eq_true rfl) rfl rfl (fun K hK hN hr hQ => ?_)
  unfold f_X8_childAs at h
  refine r_iload_n hK dX8_childAs_0 rfl ?_
  refine r_if_ne hK dX8_childAs_1 (t := 11) (by decide) (wpO_eq h) (fun h => ?_) (fun h => ?_)
  · refine r_aload_n hK dX8_childAs_4 rfl ?_
    refine r_iload_n hK dX8_childAs_5 rfl ?_
    refine r_iconst hK dX8_childAs_6 ?_
    refine r_callV hK ck_X8_as im_X8_as sl_X8_as ml_RX8_227 (by omega) (c_X8_as (l := kL K) (g := g) (Y := Y) (a1) (2) C (wpO_bd h)) cls_8 (k := 95) (by omega) rfl (As := [.int (I (a1)), .int (I (2))]) (st := []) rfl (Nat.le_of_ble_eq_true rfl) dX8_childAs_7 (kkI (fun C7 r7 h => ?_))
    exact r_ireturn hK hr hQ rfl dX8_childAs_10 ⟨C7, r7, rfl, rfl, wpO_some h⟩
  · refine r_iconst hK dX8_childAs_11 ?_
    refine r_istore_n hK dX8_childAs_12 (by rw [hN]; decide) rfl (lv' := [some (.ref (gA g 95)), some (.int (I (a1))), some (.int (I (a2))), some (.int (I (3))), none]) rfl ?_
    refine r_iconst hK dX8_childAs_13 ?_
    refine r_istore hK dX8_childAs_14 (by rw [hN]; decide) rfl (lv' := [some (.ref (gA g 95)), some (.int (I (a1))), some (.int (I (a2))), some (.int (I (3))), some (.int (I (1)))]) rfl ?_
    refine w_X8_childAs_16 hK hN hr hQ (by omega) (a1) (a2) _ (fun v3_e16 v4_e16 C_e16 h => ?_) FU (3) (1) C h
    refine r_aload_n hK dX8_childAs_39 rfl ?_
    refine r_iload_n hK dX8_childAs_40 rfl ?_
    refine r_iload_n hK dX8_childAs_41 rfl ?_
    refine r_aload_n hK dX8_childAs_42 rfl ?_
    refine r_iload_n hK dX8_childAs_43 rfl ?_
    refine r_iload_n hK dX8_childAs_44 rfl ?_
    refine r_callV hK ck_X8_as im_X8_as sl_X8_as ml_RX8_227 (by omega) (c_X8_as (l := kL K) (g := g) (Y := Y) (a1) (v3_e16) C_e16 (wpO_bd h)) cls_8 (k := 95) (by omega) rfl (As := [.int (I (a1)), .int (I (v3_e16))]) (st := [.int (I (v3_e16)), .int (I (a1)), .ref (gA g 95)]) rfl (Nat.le_of_ble_eq_true rfl) dX8_childAs_45 (kkI (fun C45 r45 h => ?_))
    refine r_iadd hK dX8_childAs_48 ?_
    refine r_iconst hK dX8_childAs_49 ?_
    refine r_iadd hK dX8_childAs_50 ?_
    refine r_callV hK ck_X8_as im_X8_as sl_X8_as ml_RX8_227 (by omega) (c_X8_as (l := kL K) (g := g) (Y := Y) (a1) ((v3_e16 + r45) + 1) C45 (wpO_bd h)) cls_8 (k := 95) (by omega) rfl (As := [.int (I (a1)), .int (I ((v3_e16 + r45) + 1))]) (st := []) rfl (Nat.le_of_ble_eq_true rfl) dX8_childAs_51 (kkI (fun C51 r51 h => ?_))
    exact r_ireturn hK hr hQ rfl dX8_childAs_54 ⟨C51, r51, rfl, rfl, wpO_some h⟩
set_option maxRecDepth 100000 in
set_option maxHeartbeats 4000000 in
theorem w_X8_hasChildren_53 {K : KT} {g : GT} {Y : Mem} {dd : Nat} (hK : Kok K g cX8_hasChildren RX8 dd) (hN : kN K = 6) (hr : (kMe K).sig.returnType = (some .boolean)) {Q : Mem → Int → Prop} (hQ : kQ K = MQ (kB K) (Qc g (QI (fun c => mrg Y c) Q)) (kA K) (kS K) (kc K) (ks K) (gS g)) (hdd : 3 ≤ dd) (u1 : Int) (u3 : Int) (u4 : Int) (k : Int → Int → Mem → Option (Mem × Int)) (hk : ∀ (v2 : Int) (v5 : Int) (C : Mem), wpO (k v2 v5 C) Q → Wn K g (mrg Y C) 87 [some (.ref (gA g 95)), some (.int (I (u1))), some (.int (I (v2))), some (.int (I (u3))), some (.int (I (u4))), some (.int (I (v5)))] []) : ∀ (n : Nat) (v2 : Int) (v5 : Int) (C : Mem), wpO (f_X8_hasChildren_53 u1 u3 u4 k n v2 v5 C) Q → Wn K g (mrg Y C) 53 [some (.ref (gA g 95)), some (.int (I (u1))), some (.int (I (v2))), some (.int (I (u3))), some (.int (I (u4))), some (.int (I (v5)))] [] := by
  intro n
  induction n with
  | zero => intro v2 v5 C h; exact (wpO_none h).elim
  | succ n ih =>
    intro v2 v5 C h
    unfold f_X8_hasChildren_53 at h
    refine r_iload hK dX8_hasChildren_53 rfl ?_
    refine r_iload_n hK dX8_hasChildren_55 rfl ?_
    refine r_icmp_ge hK dX8_hasChildren_56 (t := 87) (by decide) (wpO_lt h) (fun h => ?_) (fun h => ?_)
    · refine r_iload_n hK dX8_hasChildren_59 rfl ?_
      refine r_if_eq hK dX8_hasChildren_60 (t := 79) (by decide) (wpO_eq h) (fun h => ?_) (fun h => ?_)
      · refine r_iconst hK dX8_hasChildren_79 ?_
        refine r_istore_n hK dX8_hasChildren_80 (by rw [hN]; decide) rfl (lv' := [some (.ref (gA g 95)), some (.int (I (u1))), some (.int (I (0))), some (.int (I (u3))), some (.int (I (u4))), some (.int (I (v5)))]) rfl ?_
        refine r_iinc hK dX8_hasChildren_81 (by rw [hN]; decide) rfl rfl (lv' := [some (.ref (gA g 95)), some (.int (I (u1))), some (.int (I (0))), some (.int (I (u3))), some (.int (I (u4))), some (.int (I (v5 + 1)))]) rfl ?_
        refine r_goto hK dX8_hasChildren_84 (t := 53) (by decide) ?_
        exact ih (0) (v5 + 1) C h
      · refine r_aload_n hK dX8_hasChildren_63 rfl ?_
        refine r_iload_n hK dX8_hasChildren_64 rfl ?_
        refine r_iload hK dX8_hasChildren_65 rfl ?_
        refine r_callV hK ck_X8_childAs im_X8_childAs sl_X8_childAs ml_RX8_233 (by omega) (c_X8_childAs (l := kL K) (g := g) (Y := Y) (u1) (v5) C (wpO_bd h)) cls_8 (k := 95) (by omega) rfl (As := [.int (I (u1)), .int (I (v5))]) (st := []) rfl (Nat.le_of_ble_eq_true rfl) dX8_hasChildren_67 (kkI (fun C67 r67 h => ?_))
        refine r_iload hK dX8_hasChildren_70 rfl ?_
        refine r_icmp_eq hK dX8_hasChildren_72 (t := 79) (by decide) (wpO_eq h) (fun h => ?_) (fun h => ?_)
        · refine r_iconst hK dX8_hasChildren_79 ?_
          refine r_istore_n hK dX8_hasChildren_80 (by rw [hN]; decide) rfl (lv' := [some (.ref (gA g 95)), some (.int (I (u1))), some (.int (I (0))), some (.int (I (u3))), some (.int (I (u4))), some (.int (I (v5)))]) rfl ?_
          refine r_iinc hK dX8_hasChildren_81 (by rw [hN]; decide) rfl rfl (lv' := [some (.ref (gA g 95)), some (.int (I (u1))), some (.int (I (0))), some (.int (I (u3))), some (.int (I (u4))), some (.int (I (v5 + 1)))]) rfl ?_
          refine r_goto hK dX8_hasChildren_84 (t := 53) (by decide) ?_
          exact ih (0) (v5 + 1) C67 h
        · refine r_iconst hK dX8_hasChildren_75 ?_
          refine r_goto hK dX8_hasChildren_76 (t := 80) (by decide) ?_
          refine r_istore_n hK dX8_hasChildren_80 (by rw [hN]; decide) rfl (lv' := [some (.ref (gA g 95)), some (.int (I (u1))), some (.int (I (1))), some (.int (I (u3))), some (.int (I (u4))), some (.int (I (v5)))]) rfl ?_
          refine r_iinc hK dX8_hasChildren_81 (by rw [hN]; decide) rfl rfl (lv' := [some (.ref (gA g 95)), some (.int (I (u1))), some (.int (I (1))), some (.int (I (u3))), some (.int (I (u4))), some (.int (I (v5 + 1)))]) rfl ?_
          refine r_goto hK dX8_hasChildren_84 (t := 53) (by decide) ?_
          exact ih (1) (v5 + 1) C67 h
    · exact hk (v2) (v5) C h
set_option maxRecDepth 100000 in
set_option maxHeartbeats 4000000 in
theorem w_X8_hasChildren_4 {K : KT} {g : GT} {Y : Mem} {dd : Nat} (hK : Kok K g cX8_hasChildren RX8 dd) (hN : kN K = 6) (hr : (kMe K).sig.returnType = (some .boolean)) {Q : Mem → Int → Prop} (hQ : kQ K = MQ (kB K) (Qc g (QI (fun c => mrg Y c) Q)) (kA K) (kS K) (kc K) (ks K) (gS g)) (hdd : 3 ≤ dd) (u1 : Int) (k : Int → Int → Mem → Option (Mem × Int)) (hk : ∀ (v2 : Int) (v3 : Int) (C : Mem), wpO (k v2 v3 C) Q → Wn K g (mrg Y C) 93 [some (.ref (gA g 95)), some (.int (I (u1))), some (.int (I (v2))), some (.int (I (v3))), none, none] []) : ∀ (n : Nat) (v2 : Int) (v3 : Int) (C : Mem), wpO (f_X8_hasChildren_4 u1 k n v2 v3 C) Q → Wn K g (mrg Y C) 4 [some (.ref (gA g 95)), some (.int (I (u1))), some (.int (I (v2))), some (.int (I (v3))), none, none] [] := by
  intro n
  induction n with
  | zero => intro v2 v3 C h; exact (wpO_none h).elim
  | succ n ih =>
    intro v2 v3 C h
    unfold f_X8_hasChildren_4 at h
    refine r_iload_n hK dX8_hasChildren_4 rfl ?_
    refine r_aload_n hK dX8_hasChildren_5 rfl ?_
    refine r_iload_n hK dX8_hasChildren_6 rfl ?_
    refine r_iconst hK dX8_hasChildren_7 ?_
    refine r_callV hK ck_X8_as im_X8_as sl_X8_as ml_RX8_227 (by omega) (c_X8_as (l := kL K) (g := g) (Y := Y) (u1) (1) C (wpO_bd h)) cls_8 (k := 95) (by omega) rfl (As := [.int (I (u1)), .int (I (1))]) (st := [.int (I (v3))]) rfl (Nat.le_of_ble_eq_true rfl) dX8_hasChildren_8 (kkI (fun C8 r8 h => ?_))
    refine r_icmp_gt hK dX8_hasChildren_11 (t := 93) (by decide) (wpO_lt h) (fun h => ?_) (fun h => ?_)
    · exact hk (v2) (v3) C8 h
    · refine r_aload_n hK dX8_hasChildren_14 rfl ?_
      refine r_iload_n hK dX8_hasChildren_15 rfl ?_
      refine r_iload_n hK dX8_hasChildren_16 rfl ?_
      refine r_callV hK ck_X8_childAs im_X8_childAs sl_X8_childAs ml_RX8_233 (by omega) (c_X8_childAs (l := kL K) (g := g) (Y := Y) (u1) (v3) C8 (wpO_bd h)) cls_8 (k := 95) (by omega) rfl (As := [.int (I (u1)), .int (I (v3))]) (st := []) rfl (Nat.le_of_ble_eq_true rfl) dX8_hasChildren_17 (kkI (fun C17 r17 h => ?_))
      refine r_istore hK dX8_hasChildren_20 (by rw [hN]; decide) rfl (lv' := [some (.ref (gA g 95)), some (.int (I (u1))), some (.int (I (v2))), some (.int (I (v3))), some (.int (I (r17))), none]) rfl ?_
      refine r_iload_n hK dX8_hasChildren_22 rfl ?_
      refine r_jn (J := fun j49 => ∀ (s0_49 : Int) (C_49 : Mem), wpO (j49 s0_49 C_49) Q → Wn K g (mrg Y C_49) 49 [some (.ref (gA g 95)), some (.int (I (u1))), none, some (.int (I (v3))), some (.int (I (r17))), none] [.int (I (s0_49))]) h ?_ ?_
      · intro s0_49 C_49 h
        refine r_istore_n hK dX8_hasChildren_49 (by rw [hN]; decide) rfl (lv' := [some (.ref (gA g 95)), some (.int (I (u1))), some (.int (I (s0_49))), some (.int (I (v3))), some (.int (I (r17))), none]) rfl ?_
        refine r_iconst hK dX8_hasChildren_50 ?_
        refine r_istore hK dX8_hasChildren_51 (by rw [hN]; decide) rfl (lv' := [some (.ref (gA g 95)), some (.int (I (u1))), some (.int (I (s0_49))), some (.int (I (v3))), some (.int (I (r17))), some (.int (I (0)))]) rfl ?_
        refine w_X8_hasChildren_53 hK hN hr hQ (by omega) (u1) (v3) (r17) _ (fun v2_e53 v5_e53 C_e53 h => ?_) FU (s0_49) (0) C_49 h
        refine r_iinc hK dX8_hasChildren_87 (by rw [hN]; decide) rfl rfl (lv' := [some (.ref (gA g 95)), some (.int (I (u1))), some (.int (I (v2_e53))), some (.int (I (v3 + 1))), some (.int (I (r17))), some (.int (I (v5_e53)))]) rfl ?_
        refine r_goto hK dX8_hasChildren_90 (t := 4) (by decide) ?_
        refine r_cut [true, true, true, true, false, false] (lv' := [some (.ref (gA g 95)), some (.int (I (u1))), some (.int (I (v2_e53))), some (.int (I (v3 + 1))), none, none]) rfl ?_
        exact ih (v2_e53) (v3 + 1) C_e53 h
      · intro hj49 h
        refine r_jn (J := fun j48 => ∀ (C_48 : Mem), wpO (j48 C_48) Q → Wn K g (mrg Y C_48) 48 [some (.ref (gA g 95)), some (.int (I (u1))), none, some (.int (I (v3))), some (.int (I (r17))), none] []) h ?_ ?_
        · intro C_48 h
          refine r_iconst hK dX8_hasChildren_48 ?_
          exact hj49 (0) C_48 h
        · intro hj48 h
          refine r_if_eq hK dX8_hasChildren_23 (t := 48) (by decide) (wpO_eq h) (fun h => ?_) (fun h => ?_)
          · refine r_cut [true, true, false, true, true, false] (lv' := [some (.ref (gA g 95)), some (.int (I (u1))), none, some (.int (I (v3))), some (.int (I (r17))), none]) rfl ?_
            exact hj48 C17 h
          · refine r_iload hK dX8_hasChildren_26 rfl ?_
            refine r_callS hK ck_X8_isPage sc_X8_isPage ml_RX8_218 (by omega) (c_X8_isPage (l := kL K) (g := g) (Y := Y) (r17) C17 (wpO_bd h)) (As := [.int (I (r17))]) (st := []) rfl (Nat.le_of_ble_eq_true rfl) dX8_hasChildren_28 (kkI (fun C28 r28 h => ?_))
            refine r_if_eq hK dX8_hasChildren_31 (t := 48) (by decide) (wpO_eq h) (fun h => ?_) (fun h => ?_)
            · refine r_cut [true, true, false, true, true, false] (lv' := [some (.ref (gA g 95)), some (.int (I (u1))), none, some (.int (I (v3))), some (.int (I (r17))), none]) rfl ?_
              exact hj48 C28 h
            · refine r_aload_n hK dX8_hasChildren_34 rfl ?_
              refine r_getR (k := 95) (k' := (104)) hK cls_8 fl_RX8_38 (by decide) (by omega) rfl rfl dX8_hasChildren_35 ?_
              refine r_iload hK dX8_hasChildren_38 rfl ?_
              obtain ⟨hb40, h⟩ := wpO_ix h
              refine r_baload (k := (104)) hK (by omega) rfl (by decide) hb40 dX8_hasChildren_40 (mrg_x (by omega)) ?_
              refine r_if_ne hK dX8_hasChildren_41 (t := 48) (by decide) (wpO_eq h) (fun h => ?_) (fun h => ?_)
              · refine r_iconst hK dX8_hasChildren_44 ?_
                refine r_goto hK dX8_hasChildren_45 (t := 49) (by decide) ?_
                refine r_cut [true, true, false, true, true, false] (lv' := [some (.ref (gA g 95)), some (.int (I (u1))), none, some (.int (I (v3))), some (.int (I (r17))), none]) rfl ?_
                exact hj49 (1) C28 h
              · refine r_cut [true, true, false, true, true, false] (lv' := [some (.ref (gA g 95)), some (.int (I (u1))), none, some (.int (I (v3))), some (.int (I (r17))), none]) rfl ?_
                exact hj48 C28 h
set_option maxRecDepth 100000 in
set_option maxHeartbeats 4000000 in
theorem c_X8_hasChildren {l : Launch} {g : GT} {Y : Mem} {Q : Mem → Int → Prop} (a1 : Int) (C : Mem) (h : wpO (f_X8_hasChildren a1 C) Q) : MetC l yX8_hasChildren cX8_hasChildren 6 (some .boolean) 3 g [.ref (gA g 95), .int (I (a1))] (mrg Y C) (QI (fun c => mrg Y c) Q) := by
  refine met_at 4 (lv := [some (.ref (gA g 95)), some (.int (I (a1))), none, none, none, none]) (by decide) (Nat.le_of_ble_eq_true rfl) rfl rfl (fun K hK hN hr hQ => ?_)
  unfold f_X8_hasChildren at h
  refine r_iconst hK dX8_hasChildren_0 ?_
  refine r_istore_n hK dX8_hasChildren_1 (by rw [hN]; decide) rfl (lv' := [some (.ref (gA g 95)), some (.int (I (a1))), some (.int (I (1))), none, none, none]) rfl ?_
  refine r_iconst hK dX8_hasChildren_2 ?_
  refine r_istore_n hK dX8_hasChildren_3 (by rw [hN]; decide) rfl (lv' := [some (.ref (gA g 95)), some (.int (I (a1))), some (.int (I (1))), some (.int (I (0))), none, none]) rfl ?_
  refine w_X8_hasChildren_4 hK hN hr hQ (by omega) (a1) _ (fun v2_e4 v3_e4 C_e4 h => ?_) FU (1) (0) C h
  refine r_iload_n hK dX8_hasChildren_93 rfl ?_
  obtain ⟨hbo94, h⟩ := wpO_bo h
  exact r_ireturn hK hr hQ (nar_b hbo94) dX8_hasChildren_94 ⟨C_e4, v2_e4, rfl, rfl, wpO_some h⟩
set_option maxRecDepth 100000 in
set_option maxHeartbeats 4000000 in
theorem c_X8_why {l : Launch} {g : GT} {Y : Mem} {Q : Mem → Int → Prop} (a1 : Int) (a2 : Int) (a3 : Int) (a4 : Int) (C : Mem) (h : wpO (f_X8_why a1 a2 a3 a4 C) Q) : MetC l yX8_why cX8_why 6 (some .int) 4 g [.ref (gA g 95), .int (I (a1)), .int (I (a2)), .int (I (a3)), .int (I (a4))] (mrg Y C) (QI (fun c => mrg Y c) Q) := by
  refine met_at 1 (lv := [some (.ref (gA g 95)), some (.int (I (a1))), some (.int (I (a2))), some (.int (I (a3))), some (.int (I (a4))), none]) (by decide) (Nat.le_of_ble_eq_true rfl) rfl rfl (fun K hK hN hr hQ => ?_)
  unfold f_X8_why at h
  refine r_iload_n hK dX8_why_0 rfl ?_
  refine r_aload_n hK dX8_why_1 rfl ?_
  refine r_getI (k := 95) hK cls_8 fl_RX8_13 (by decide) (by omega) rfl rfl dX8_why_2 (mrg_x (by omega)) ?_
  refine r_iconst hK dX8_why_5 ?_
  refine r_isub hK dX8_why_6 ?_
  refine r_jn (J := fun j15 => ∀ (s0_15 : Int), wpO (j15 s0_15) Q → Wn K g (mrg Y C) 15 [some (.ref (gA g 95)), some (.int (I (a1))), some (.int (I (a2))), some (.int (I (a3))), some (.int (I (a4))), none] [.int (I (s0_15))]) h ?_ ?_
  · intro s0_15 h
    refine r_istore hK dX8_why_15 (by rw [hN]; decide) rfl (lv' := [some (.ref (gA g 95)), some (.int (I (a1))), some (.int (I (a2))), some (.int (I (a3))), some (.int (I (a4))), some (.int (I (s0_15)))]) rfl ?_
    refine r_aload_n hK dX8_why_17 rfl ?_
    refine r_iload_n hK dX8_why_18 rfl ?_
    refine r_iconst hK dX8_why_19 ?_
    refine r_callV hK ck_X8_as im_X8_as sl_X8_as ml_RX8_227 (by omega) (c_X8_as (l := kL K) (g := g) (Y := Y) (a1) (0) C (wpO_bd h)) cls_8 (k := 95) (by omega) rfl (As := [.int (I (a1)), .int (I (0))]) (st := []) rfl (Nat.le_of_ble_eq_true rfl) dX8_why_20 (kkI (fun C20 r20 h => ?_))
    refine r_iload hK dX8_why_23 rfl ?_
    refine r_icmp_eq hK dX8_why_25 (t := 30) (by decide) (wpO_eq h) (fun h => ?_) (fun h => ?_)
    · refine r_aload_n hK dX8_why_30 rfl ?_
      refine r_iload_n hK dX8_why_31 rfl ?_
      refine r_iload_n hK dX8_why_32 rfl ?_
      refine r_callV hK ck_X8_isRead im_X8_isRead sl_X8_isRead ml_RX8_236 (by omega) (c_X8_isRead (l := kL K) (g := g) (Y := Y) (a1) (a2) C20 (wpO_bd h)) cls_8 (k := 95) (by omega) rfl (As := [.int (I (a1)), .int (I (a2))]) (st := []) rfl (Nat.le_of_ble_eq_true rfl) dX8_why_33 (kkI (fun C33 r33 h => ?_))
      refine r_if_ne hK dX8_why_36 (t := 41) (by decide) (wpO_eq h) (fun h => ?_) (fun h => ?_)
      · refine r_iconst hK dX8_why_39 ?_
        exact r_ireturn hK hr hQ rfl dX8_why_40 ⟨C33, 2, rfl, rfl, wpO_some h⟩
      · refine r_aload_n hK dX8_why_41 rfl ?_
        refine r_iload_n hK dX8_why_42 rfl ?_
        refine r_callV hK ck_X8_rises im_X8_rises sl_X8_rises ml_RX8_239 (by omega) (c_X8_rises (l := kL K) (g := g) (Y := Y) (a1) C33 (wpO_bd h)) cls_8 (k := 95) (by omega) rfl (As := [.int (I (a1))]) (st := []) rfl (Nat.le_of_ble_eq_true rfl) dX8_why_43 (kkI (fun C43 r43 h => ?_))
        refine r_if_ne hK dX8_why_46 (t := 51) (by decide) (wpO_eq h) (fun h => ?_) (fun h => ?_)
        · refine r_iconst hK dX8_why_49 ?_
          exact r_ireturn hK hr hQ rfl dX8_why_50 ⟨C43, 3, rfl, rfl, wpO_some h⟩
        · refine r_aload_n hK dX8_why_51 rfl ?_
          refine r_iload_n hK dX8_why_52 rfl ?_
          refine r_iload_n hK dX8_why_53 rfl ?_
          refine r_iload hK dX8_why_54 rfl ?_
          refine r_callV hK ck_X8_isWithin im_X8_isWithin sl_X8_isWithin ml_RX8_242 (by omega) (c_X8_isWithin (l := kL K) (g := g) (Y := Y) (a1) (a3) (a4) C43 (wpO_bd h)) cls_8 (k := 95) (by omega) rfl (As := [.int (I (a1)), .int (I (a3)), .int (I (a4))]) (st := []) rfl (Nat.le_of_ble_eq_true rfl) dX8_why_56 (kkI (fun C56 r56 h => ?_))
          refine r_if_ne hK dX8_why_59 (t := 64) (by decide) (wpO_eq h) (fun h => ?_) (fun h => ?_)
          · refine r_iconst hK dX8_why_62 ?_
            exact r_ireturn hK hr hQ rfl dX8_why_63 ⟨C56, 4, rfl, rfl, wpO_some h⟩
          · refine r_iload hK dX8_why_64 rfl ?_
            refine r_iconst hK dX8_why_66 ?_
            refine r_icmp_ne hK dX8_why_67 (t := 82) (by decide) (wpO_eq h) (fun h => ?_) (fun h => ?_)
            · refine r_aload_n hK dX8_why_70 rfl ?_
              refine r_iload_n hK dX8_why_71 rfl ?_
              refine r_callV hK ck_X8_hasChildren im_X8_hasChildren sl_X8_hasChildren ml_RX8_245 (by omega) (c_X8_hasChildren (l := kL K) (g := g) (Y := Y) (a1) C56 (wpO_bd h)) cls_8 (k := 95) (by omega) rfl (As := [.int (I (a1))]) (st := []) rfl (Nat.le_of_ble_eq_true rfl) dX8_why_72 (kkI (fun C72 r72 h => ?_))
              refine r_if_ne hK dX8_why_75 (t := 82) (by decide) (wpO_eq h) (fun h => ?_) (fun h => ?_)
              · refine r_iconst hK dX8_why_78 ?_
                refine r_goto hK dX8_why_79 (t := 83) (by decide) ?_
                exact r_ireturn hK hr hQ rfl dX8_why_83 ⟨C72, 5, rfl, rfl, wpO_some h⟩
              · refine r_iconst hK dX8_why_82 ?_
                exact r_ireturn hK hr hQ rfl dX8_why_83 ⟨C72, 0, rfl, rfl, wpO_some h⟩
            · refine r_iconst hK dX8_why_82 ?_
              exact r_ireturn hK hr hQ rfl dX8_why_83 ⟨C56, 0, rfl, rfl, wpO_some h⟩
    · refine r_iconst hK dX8_why_28 ?_
      exact r_ireturn hK hr hQ rfl dX8_why_29 ⟨C20, 1, rfl, rfl, wpO_some h⟩
  · intro hj15 h
    refine r_icmp_ne hK dX8_why_7 (t := 14) (by decide) (wpO_eq h) (fun h => ?_) (fun h => ?_)
    · refine r_iconst hK dX8_why_10 ?_
      refine r_goto hK dX8_why_11 (t := 15) (by decide) ?_
      exact hj15 (1) h
    · refine r_iconst hK dX8_why_14 ?_
      exact hj15 (2) h
set_option maxRecDepth 100000 in
set_option maxHeartbeats 4000000 in
theorem c_X8_waits {l : Launch} {g : GT} {Y : Mem} {Q : Mem → Int → Prop} (a1 : Int) (a2 : Int) (a3 : Int) (a4 : Int) (C : Mem) (h : wpO (f_X8_waits a1 a2 a3 a4 C) Q) : MetC l yX8_waits cX8_waits 5 none 1 g [.ref (gA g 95), .int (I (a1)), .int (I (a2)), .int (I (a3)), .int (I (a4))] (mrg Y C) (QV (fun c => mrg Y c) Q) := by
  refine met_at 0 (lv := [some (.ref (gA g 95)), some (.int (I (a1))), some (.int (I (a2))), some (.int (I (a3))), some (.int (I (a4)))]) (by decide) (Nat.le_of_ble_eq_true rfl) rfl rfl (fun K hK hN hr hQ => ?_)
  unfold f_X8_waits at h
  refine r_aload_n hK dX8_waits_0 rfl ?_
  refine r_getR (k := 95) (k' := (105)) hK cls_8 fl_RX8_42 (by decide) (by omega) rfl rfl dX8_waits_1 ?_
  refine r_aload_n hK dX8_waits_4 rfl ?_
  refine r_getI (k := 95) hK cls_8 fl_RX8_248 (by decide) (by omega) rfl rfl dX8_waits_5 (mrg_x (by omega)) ?_
  refine r_iload_n hK dX8_waits_8 rfl ?_
  obtain ⟨hb9, h⟩ := wpO_ix h
  refine r_iastore (k := (105)) hK (by omega) rfl (by decide) hb9 dX8_waits_9 (up_x (by omega)) ?_
  refine r_aload_n hK dX8_waits_10 rfl ?_
  refine r_getR (k := 95) (k' := (106)) hK cls_8 fl_RX8_45 (by decide) (by omega) rfl rfl dX8_waits_11 ?_
  refine r_aload_n hK dX8_waits_14 rfl ?_
  refine r_getI (k := 95) hK cls_8 fl_RX8_248 (by decide) (by omega) rfl rfl dX8_waits_15 (mrg_x (by omega)) ?_
  refine r_iload_n hK dX8_waits_18 rfl ?_
  obtain ⟨hb19, h⟩ := wpO_ix h
  refine r_iastore (k := (106)) hK (by omega) rfl (by decide) hb19 dX8_waits_19 (up_x (by omega)) ?_
  refine r_aload_n hK dX8_waits_20 rfl ?_
  refine r_getR (k := 95) (k' := (107)) hK cls_8 fl_RX8_48 (by decide) (by omega) rfl rfl dX8_waits_21 ?_
  refine r_aload_n hK dX8_waits_24 rfl ?_
  refine r_getI (k := 95) hK cls_8 fl_RX8_248 (by decide) (by omega) rfl rfl dX8_waits_25 (mrg_x (by omega)) ?_
  refine r_iload_n hK dX8_waits_28 rfl ?_
  obtain ⟨hb29, h⟩ := wpO_ix h
  refine r_iastore (k := (107)) hK (by omega) rfl (by decide) hb29 dX8_waits_29 (up_x (by omega)) ?_
  refine r_aload_n hK dX8_waits_30 rfl ?_
  refine r_getR (k := 95) (k' := (108)) hK cls_8 fl_RX8_51 (by decide) (by omega) rfl rfl dX8_waits_31 ?_
  refine r_aload_n hK dX8_waits_34 rfl ?_
  refine r_getI (k := 95) hK cls_8 fl_RX8_248 (by decide) (by omega) rfl rfl dX8_waits_35 (mrg_x (by omega)) ?_
  refine r_iload hK dX8_waits_38 rfl ?_
  obtain ⟨hb40, h⟩ := wpO_ix h
  refine r_iastore (k := (108)) hK (by omega) rfl (by decide) hb40 dX8_waits_40 (up_x (by omega)) ?_
  refine r_aload_n hK dX8_waits_41 rfl ?_
  refine r_dup hK dX8_waits_42 rfl ?_
  refine r_getI (k := 95) hK cls_8 fl_RX8_248 (by decide) (by omega) rfl rfl dX8_waits_43 (mrg_x (by omega)) ?_
  refine r_iconst hK dX8_waits_46 ?_
  refine r_iadd hK dX8_waits_47 ?_
  refine r_put (k := 95) hK cls_8 fl_RX8_248 (by decide) (by omega) rfl rfl rfl rfl rfl dX8_waits_48 (up_x (by omega)) ?_
  exact r_return hK hr hQ dX8_waits_51 ⟨(up (up (up (up (up C (105) (C 95 19).toNat (a1)) (106) ((up C (105) (C 95 19).toNat (a1)) 95 19).toNat (a2)) (107) ((up (up C (105) (C 95 19).toNat (a1)) (106) ((up C (105) (C 95 19).toNat (a1)) 95 19).toNat (a2)) 95 19).toNat (a3)) (108) ((up (up (up C (105) (C 95 19).toNat (a1)) (106) ((up C (105) (C 95 19).toNat (a1)) 95 19).toNat (a2)) (107) ((up (up C (105) (C 95 19).toNat (a1)) (106) ((up C (105) (C 95 19).toNat (a1)) 95 19).toNat (a2)) 95 19).toNat (a3)) 95 19).toNat (a4)) 95 19 (((up (up (up (up C (105) (C 95 19).toNat (a1)) (106) ((up C (105) (C 95 19).toNat (a1)) 95 19).toNat (a2)) (107) ((up (up C (105) (C 95 19).toNat (a1)) (106) ((up C (105) (C 95 19).toNat (a1)) 95 19).toNat (a2)) 95 19).toNat (a3)) (108) ((up (up (up C (105) (C 95 19).toNat (a1)) (106) ((up C (105) (C 95 19).toNat (a1)) 95 19).toNat (a2)) (107) ((up (up C (105) (C 95 19).toNat (a1)) (106) ((up C (105) (C 95 19).toNat (a1)) 95 19).toNat (a2)) 95 19).toNat (a3)) 95 19).toNat (a4)) 95 19) + 1)), rfl, rfl, wpO_some h⟩
set_option maxRecDepth 100000 in
set_option maxHeartbeats 4000000 in
theorem w_X8_startAs_5 {K : KT} {g : GT} {Y : Mem} {dd : Nat} (hK : Kok K g cX8_startAs RX8 dd) (hN : kN K = 5) (hr : (kMe K).sig.returnType = (some .int)) {Q : Mem → Int → Prop} (hQ : kQ K = MQ (kB K) (Qc g (QI (fun c => mrg Y c) Q)) (kA K) (kS K) (kc K) (ks K) (gS g)) (hdd : 2 ≤ dd) (u1 : Int) (u2 : Int) (k : Int → Int → Mem → Option (Mem × Int)) (hk : ∀ (v3 : Int) (v4 : Int) (C : Mem), wpO (k v3 v4 C) Q → Wn K g (mrg Y C) 28 [some (.ref (gA g 95)), some (.int (I (u1))), some (.int (I (u2))), some (.int (I (v3))), some (.int (I (v4)))] []) : ∀ (n : Nat) (v3 : Int) (v4 : Int) (C : Mem), wpO (f_X8_startAs_5 u1 u2 k n v3 v4 C) Q → Wn K g (mrg Y C) 5 [some (.ref (gA g 95)), some (.int (I (u1))), some (.int (I (u2))), some (.int (I (v3))), some (.int (I (v4)))] [] := by
  intro n
  induction n with
  | zero => intro v3 v4 C h; exact (wpO_none h).elim
  | succ n ih =>
    intro v3 v4 C h
    unfold f_X8_startAs_5 at h
    refine r_iload hK dX8_startAs_5 rfl ?_
    refine r_iload_n hK dX8_startAs_7 rfl ?_
    refine r_icmp_ge hK dX8_startAs_8 (t := 28) (by decide) (wpO_lt h) (fun h => ?_) (fun h => ?_)
    · refine r_iload_n hK dX8_startAs_11 rfl ?_
      refine r_aload_n hK dX8_startAs_12 rfl ?_
      refine r_iload_n hK dX8_startAs_13 rfl ?_
      refine r_iload_n hK dX8_startAs_14 rfl ?_
      refine r_callV hK ck_X8_as im_X8_as sl_X8_as ml_RX8_227 (by omega) (c_X8_as (l := kL K) (g := g) (Y := Y) (u1) (v3) C (wpO_bd h)) cls_8 (k := 95) (by omega) rfl (As := [.int (I (u1)), .int (I (v3))]) (st := [.int (I (v3))]) rfl (Nat.le_of_ble_eq_true rfl) dX8_startAs_15 (kkI (fun C15 r15 h => ?_))
      refine r_iconst hK dX8_startAs_18 ?_
      refine r_iadd hK dX8_startAs_19 ?_
      refine r_iadd hK dX8_startAs_20 ?_
      refine r_istore_n hK dX8_startAs_21 (by rw [hN]; decide) rfl (lv' := [some (.ref (gA g 95)), some (.int (I (u1))), some (.int (I (u2))), some (.int (I (v3 + (r15 + 2)))), some (.int (I (v4)))]) rfl ?_
      refine r_iinc hK dX8_startAs_22 (by rw [hN]; decide) rfl rfl (lv' := [some (.ref (gA g 95)), some (.int (I (u1))), some (.int (I (u2))), some (.int (I (v3 + (r15 + 2)))), some (.int (I (v4 + 1)))]) rfl ?_
      refine r_goto hK dX8_startAs_25 (t := 5) (by decide) ?_
      exact ih (v3 + (r15 + 2)) (v4 + 1) C15 h
    · exact hk (v3) (v4) C h
set_option maxRecDepth 100000 in
set_option maxHeartbeats 4000000 in
theorem c_X8_startAs {l : Launch} {g : GT} {Y : Mem} {Q : Mem → Int → Prop} (a1 : Int) (a2 : Int) (C : Mem) (h : wpO (f_X8_startAs a1 a2 C) Q) : MetC l yX8_startAs cX8_startAs 5 (some .int) 2 g [.ref (gA g 95), .int (I (a1)), .int (I (a2))] (mrg Y C) (QI (fun c => mrg Y c) Q) := by
  refine met_at 2 (lv := [some (.ref (gA g 95)), some (.int (I (a1))), some (.int (I (a2))), none, none]) (by decide) (Nat.le_of_ble_eq_true rfl) rfl rfl (fun K hK hN hr hQ => ?_)
  unfold f_X8_startAs at h
  refine r_iconst hK dX8_startAs_0 ?_
  refine r_istore_n hK dX8_startAs_1 (by rw [hN]; decide) rfl (lv' := [some (.ref (gA g 95)), some (.int (I (a1))), some (.int (I (a2))), some (.int (I (3))), none]) rfl ?_
  refine r_iconst hK dX8_startAs_2 ?_
  refine r_istore hK dX8_startAs_3 (by rw [hN]; decide) rfl (lv' := [some (.ref (gA g 95)), some (.int (I (a1))), some (.int (I (a2))), some (.int (I (3))), some (.int (I (0)))]) rfl ?_
  refine w_X8_startAs_5 hK hN hr hQ (by omega) (a1) (a2) _ (fun v3_e5 v4_e5 C_e5 h => ?_) FU (3) (0) C h
  refine r_iload_n hK dX8_startAs_28 rfl ?_
  exact r_ireturn hK hr hQ rfl dX8_startAs_29 ⟨C_e5, v3_e5, rfl, rfl, wpO_some h⟩
set_option maxRecDepth 100000 in
set_option maxHeartbeats 4000000 in
theorem w_X8_childrenWait_12 {K : KT} {g : GT} {Y : Mem} {dd : Nat} (hK : Kok K g cX8_childrenWait RX8 dd) (hN : kN K = 9) (hr : (kMe K).sig.returnType = none) {Q : Mem → Int → Prop} (hQ : kQ K = MQ (kB K) (Qc g (QV (fun c => mrg Y c) Q)) (kA K) (kS K) (kc K) (ks K) (gS g)) (hdd : 3 ≤ dd) (u1 : Int) (u2 : Int) (u3 : Int) (u4 : Int) (u5 : Int) (k : Int → Mem → Option (Mem × Int)) (hk : ∀ (v6 : Int) (C : Mem), wpO (k v6 C) Q → Wn K g (mrg Y C) 92 [some (.ref (gA g 95)), some (.int (I (u1))), some (.int (I (u2))), some (.int (I (u3))), some (.int (I (u4))), some (.int (I (u5))), some (.int (I (v6))), none, none] []) : ∀ (n : Nat) (v6 : Int) (C : Mem), wpO (f_X8_childrenWait_12 u1 u2 u3 u4 u5 k n v6 C) Q → Wn K g (mrg Y C) 12 [some (.ref (gA g 95)), some (.int (I (u1))), some (.int (I (u2))), some (.int (I (u3))), some (.int (I (u4))), some (.int (I (u5))), some (.int (I (v6))), none, none] [] := by
  intro n
  induction n with
  | zero => intro v6 C h; exact (wpO_none h).elim
  | succ n ih =>
    intro v6 C h
    unfold f_X8_childrenWait_12 at h
    refine r_iload hK dX8_childrenWait_12 rfl ?_
    refine r_if_lt hK dX8_childrenWait_14 (t := 92) (by decide) (wpO_lt h) (fun h => ?_) (fun h => ?_)
    · exact hk (v6) C h
    · refine r_iload hK dX8_childrenWait_17 rfl ?_
      refine r_jn (J := fun j40 => ∀ (s0_40 : Int) (C_40 : Mem), wpO (j40 s0_40 C_40) Q → Wn K g (mrg Y C_40) 40 [some (.ref (gA g 95)), some (.int (I (u1))), some (.int (I (u2))), some (.int (I (u3))), some (.int (I (u4))), some (.int (I (u5))), some (.int (I (v6))), none, none] [.int (I (s0_40))]) h ?_ ?_
      · intro s0_40 C_40 h
        refine r_istore hK dX8_childrenWait_40 (by rw [hN]; decide) rfl (lv' := [some (.ref (gA g 95)), some (.int (I (u1))), some (.int (I (u2))), some (.int (I (u3))), some (.int (I (u4))), some (.int (I (u5))), some (.int (I (v6))), some (.int (I (s0_40))), none]) rfl ?_
        refine r_iload hK dX8_childrenWait_42 rfl ?_
        refine r_iload hK dX8_childrenWait_44 rfl ?_
        refine r_jn (J := fun j66 => ∀ (s0_66 : Int) (C_66 : Mem), wpO (j66 s0_66 C_66) Q → Wn K g (mrg Y C_66) 66 [some (.ref (gA g 95)), some (.int (I (u1))), some (.int (I (u2))), some (.int (I (u3))), some (.int (I (u4))), some (.int (I (u5))), some (.int (I (v6))), some (.int (I (s0_40))), none] [.int (I (s0_66))]) h ?_ ?_
        · intro s0_66 C_66 h
          refine r_istore hK dX8_childrenWait_66 (by rw [hN]; decide) rfl (lv' := [some (.ref (gA g 95)), some (.int (I (u1))), some (.int (I (u2))), some (.int (I (u3))), some (.int (I (u4))), some (.int (I (u5))), some (.int (I (v6))), some (.int (I (s0_40))), some (.int (I (s0_66)))]) rfl ?_
          refine r_aload_n hK dX8_childrenWait_68 rfl ?_
          refine r_aload_n hK dX8_childrenWait_69 rfl ?_
          refine r_iload_n hK dX8_childrenWait_70 rfl ?_
          refine r_iload hK dX8_childrenWait_71 rfl ?_
          refine r_callV hK ck_X8_childAs im_X8_childAs sl_X8_childAs ml_RX8_233 (by omega) (c_X8_childAs (l := kL K) (g := g) (Y := Y) (u1) (v6) C_66 (wpO_bd h)) cls_8 (k := 95) (by omega) rfl (As := [.int (I (u1)), .int (I (v6))]) (st := [.ref (gA g 95)]) rfl (Nat.le_of_ble_eq_true rfl) dX8_childrenWait_73 (kkI (fun C73 r73 h => ?_))
          refine r_iload_n hK dX8_childrenWait_76 rfl ?_
          refine r_iconst hK dX8_childrenWait_77 ?_
          refine r_iadd hK dX8_childrenWait_78 ?_
          refine r_iload hK dX8_childrenWait_79 rfl ?_
          refine r_iload hK dX8_childrenWait_81 rfl ?_
          refine r_callV hK ck_X8_waits im_X8_waits sl_X8_waits ml_RX8_254 (by omega) (c_X8_waits (l := kL K) (g := g) (Y := Y) (r73) (u2 + 1) (s0_40) (s0_66) C73 (wpO_bd h)) cls_8 (k := 95) (by omega) rfl (As := [.int (I (r73)), .int (I (u2 + 1)), .int (I (s0_40)), .int (I (s0_66))]) (st := []) rfl (Nat.le_of_ble_eq_true rfl) dX8_childrenWait_83 (kkV (fun C83 h => ?_))
          refine r_iinc hK dX8_childrenWait_86 (by rw [hN]; decide) rfl rfl (lv' := [some (.ref (gA g 95)), some (.int (I (u1))), some (.int (I (u2))), some (.int (I (u3))), some (.int (I (u4))), some (.int (I (u5))), some (.int (I (v6 + (-1)))), some (.int (I (s0_40))), some (.int (I (s0_66)))]) rfl ?_
          refine r_goto hK dX8_childrenWait_89 (t := 12) (by decide) ?_
          refine r_cut [true, true, true, true, true, true, true, false, false] (lv' := [some (.ref (gA g 95)), some (.int (I (u1))), some (.int (I (u2))), some (.int (I (u3))), some (.int (I (u4))), some (.int (I (u5))), some (.int (I (v6 + (-1)))), none, none]) rfl ?_
          exact ih (v6 + (-1)) C83 h
        · intro hj66 h
          refine r_icmp_ne hK dX8_childrenWait_46 (t := 54) (by decide) (wpO_eq h) (fun h => ?_) (fun h => ?_)
          · refine r_iload hK dX8_childrenWait_49 rfl ?_
            refine r_goto hK dX8_childrenWait_51 (t := 66) (by decide) ?_
            exact hj66 (u4) C_40 h
          · refine r_bipush hK dX8_childrenWait_54 (by decide) ?_
            refine r_iload_n hK dX8_childrenWait_56 rfl ?_
            refine r_imul hK dX8_childrenWait_57 ?_
            refine r_aload_n hK dX8_childrenWait_58 rfl ?_
            refine r_iload_n hK dX8_childrenWait_59 rfl ?_
            refine r_iload hK dX8_childrenWait_60 rfl ?_
            refine r_callV hK ck_X8_startAs im_X8_startAs sl_X8_startAs ml_RX8_251 (by omega) (c_X8_startAs (l := kL K) (g := g) (Y := Y) (u1) (v6) C_40 (wpO_bd h)) cls_8 (k := 95) (by omega) rfl (As := [.int (I (u1)), .int (I (v6))]) (st := [.int (I (64 * u1))]) rfl (Nat.le_of_ble_eq_true rfl) dX8_childrenWait_62 (kkI (fun C62 r62 h => ?_))
            refine r_iadd hK dX8_childrenWait_65 ?_
            exact hj66 ((64 * u1) + r62) C62 h
      · intro hj40 h
        refine r_if_ne hK dX8_childrenWait_19 (t := 26) (by decide) (wpO_eq h) (fun h => ?_) (fun h => ?_)
        · refine r_iload_n hK dX8_childrenWait_22 rfl ?_
          refine r_goto hK dX8_childrenWait_23 (t := 40) (by decide) ?_
          exact hj40 (u3) C h
        · refine r_bipush hK dX8_childrenWait_26 (by decide) ?_
          refine r_iload_n hK dX8_childrenWait_28 rfl ?_
          refine r_imul hK dX8_childrenWait_29 ?_
          refine r_aload_n hK dX8_childrenWait_30 rfl ?_
          refine r_iload_n hK dX8_childrenWait_31 rfl ?_
          refine r_iload hK dX8_childrenWait_32 rfl ?_
          refine r_iconst hK dX8_childrenWait_34 ?_
          refine r_isub hK dX8_childrenWait_35 ?_
          refine r_callV hK ck_X8_startAs im_X8_startAs sl_X8_startAs ml_RX8_251 (by omega) (c_X8_startAs (l := kL K) (g := g) (Y := Y) (u1) (v6 - 1) C (wpO_bd h)) cls_8 (k := 95) (by omega) rfl (As := [.int (I (u1)), .int (I (v6 - 1))]) (st := [.int (I (64 * u1))]) rfl (Nat.le_of_ble_eq_true rfl) dX8_childrenWait_36 (kkI (fun C36 r36 h => ?_))
          refine r_iadd hK dX8_childrenWait_39 ?_
          exact hj40 ((64 * u1) + r36) C36 h
set_option maxRecDepth 100000 in
set_option maxHeartbeats 4000000 in
theorem c_X8_childrenWait {l : Launch} {g : GT} {Y : Mem} {Q : Mem → Int → Prop} (a1 : Int) (a2 : Int) (a3 : Int) (a4 : Int) (C : Mem) (h : wpO (f_X8_childrenWait a1 a2 a3 a4 C) Q) : MetC l yX8_childrenWait cX8_childrenWait 9 none 3 g [.ref (gA g 95), .int (I (a1)), .int (I (a2)), .int (I (a3)), .int (I (a4))] (mrg Y C) (QV (fun c => mrg Y c) Q) := by
  refine met_at 4 (lv := [some (.ref (gA g 95)), some (.int (I (a1))), some (.int (I (a2))), some (.int (I (a3))), some (.int (I (a4))), none, none, none, none]) (by decide) (Nat.le_of_ble_eq_true rfl) rfl rfl (fun K hK hN hr hQ => ?_)
  unfold f_X8_childrenWait at h
  refine r_aload_n hK dX8_childrenWait_0 rfl ?_
  refine r_iload_n hK dX8_childrenWait_1 rfl ?_
  refine r_iconst hK dX8_childrenWait_2 ?_
  refine r_callV hK ck_X8_as im_X8_as sl_X8_as ml_RX8_227 (by omega) (c_X8_as (l := kL K) (g := g) (Y := Y) (a1) (1) C (wpO_bd h)) cls_8 (k := 95) (by omega) rfl (As := [.int (I (a1)), .int (I (1))]) (st := []) rfl (Nat.le_of_ble_eq_true rfl) dX8_childrenWait_3 (kkI (fun C3 r3 h => ?_))
  refine r_istore hK dX8_childrenWait_6 (by rw [hN]; decide) rfl (lv' := [some (.ref (gA g 95)), some (.int (I (a1))), some (.int (I (a2))), some (.int (I (a3))), some (.int (I (a4))), some (.int (I (r3))), none, none, none]) rfl ?_
  refine r_iload hK dX8_childrenWait_8 rfl ?_
  refine r_istore hK dX8_childrenWait_10 (by rw [hN]; decide) rfl (lv' := [some (.ref (gA g 95)), some (.int (I (a1))), some (.int (I (a2))), some (.int (I (a3))), some (.int (I (a4))), some (.int (I (r3))), some (.int (I (r3))), none, none]) rfl ?_
  refine w_X8_childrenWait_12 hK hN hr hQ (by omega) (a1) (a2) (a3) (a4) (r3) _ (fun v6_e12 C_e12 h => ?_) FU (r3) C3 h
  exact r_return hK hr hQ dX8_childrenWait_92 ⟨C_e12, rfl, rfl, wpO_some h⟩
set_option maxRecDepth 100000 in
set_option maxHeartbeats 4000000 in
theorem w_X8_wrongDown_12 {K : KT} {g : GT} {Y : Mem} {dd : Nat} (hK : Kok K g cX8_wrongDown RX8 dd) (hN : kN K = 6) (hr : (kMe K).sig.returnType = (some .int)) {Q : Mem → Int → Prop} (hQ : kQ K = MQ (kB K) (Qc g (QI (fun c => mrg Y c) Q)) (kA K) (kS K) (kc K) (ks K) (gS g)) (hdd : 5 ≤ dd) (k : Int → Mem → Option (Mem × Int)) (hk : ∀ (v1 : Int) (C : Mem), wpO (k v1 C) Q → Wn K g (mrg Y C) 31 [some (.ref (gA g 95)), some (.int (I (v1))), none, none, none, none] []) : ∀ (n : Nat) (v1 : Int) (C : Mem), wpO (f_X8_wrongDown_12 k n v1 C) Q → Wn K g (mrg Y C) 12 [some (.ref (gA g 95)), some (.int (I (v1))), none, none, none, none] [] := by
  intro n
  induction n with
  | zero => intro v1 C h; exact (wpO_none h).elim
  | succ n ih =>
    intro v1 C h
    unfold f_X8_wrongDown_12 at h
    refine r_iload_n hK dX8_wrongDown_12 rfl ?_
    refine r_bipush hK dX8_wrongDown_13 (by decide) ?_
    refine r_icmp_ge hK dX8_wrongDown_15 (t := 31) (by decide) (wpO_lt h) (fun h => ?_) (fun h => ?_)
    · refine r_aload_n hK dX8_wrongDown_18 rfl ?_
      refine r_getR (k := 95) (k' := (104)) hK cls_8 fl_RX8_38 (by decide) (by omega) rfl rfl dX8_wrongDown_19 ?_
      refine r_iload_n hK dX8_wrongDown_22 rfl ?_
      refine r_iconst hK dX8_wrongDown_23 ?_
      obtain ⟨hb24, h⟩ := wpO_ix h
      refine r_bastore (k := (104)) hK (by omega) rfl (by decide) hb24 (by decide) dX8_wrongDown_24 (up_x (by omega)) ?_
      refine r_iinc hK dX8_wrongDown_25 (by rw [hN]; decide) rfl rfl (lv' := [some (.ref (gA g 95)), some (.int (I (v1 + 1))), none, none, none, none]) rfl ?_
      refine r_goto hK dX8_wrongDown_28 (t := 12) (by decide) ?_
      exact ih (v1 + 1) (up C (104) (v1).toNat (0)) h
    · exact hk (v1) C h
set_option maxRecDepth 100000 in
set_option maxHeartbeats 4000000 in
theorem w_X8_wrongDown_44 {K : KT} {g : GT} {Y : Mem} {dd : Nat} (hK : Kok K g cX8_wrongDown RX8 dd) (hN : kN K = 6) (hr : (kMe K).sig.returnType = (some .int)) {Q : Mem → Int → Prop} (hQ : kQ K = MQ (kB K) (Qc g (QI (fun c => mrg Y c) Q)) (kA K) (kS K) (kc K) (ks K) (gS g)) (hdd : 5 ≤ dd) (k : Mem → Option (Mem × Int)) (hk : ∀ (C : Mem), wpO (k C) Q → Wn K g (mrg Y C) 178 [some (.ref (gA g 95)), none, none, none, none, none] []) : ∀ (n : Nat) (C : Mem), wpO (f_X8_wrongDown_44 k n C) Q → Wn K g (mrg Y C) 44 [some (.ref (gA g 95)), none, none, none, none, none] [] := by
  intro n
  induction n with
  | zero => intro C h; exact (wpO_none h).elim
  | succ n ih =>
    intro C h
    unfold f_X8_wrongDown_44 at h
    refine r_aload_n hK dX8_wrongDown_44 rfl ?_
    refine r_getI (k := 95) hK cls_8 fl_RX8_248 (by decide) (by omega) rfl rfl dX8_wrongDown_45 (mrg_x (by omega)) ?_
    refine r_if_le hK dX8_wrongDown_48 (t := 178) (by decide) (wpO_lt h) (fun h => ?_) (fun h => ?_)
    · refine r_aload_n hK dX8_wrongDown_51 rfl ?_
      refine r_dup hK dX8_wrongDown_52 rfl ?_
      refine r_getI (k := 95) hK cls_8 fl_RX8_248 (by decide) (by omega) rfl rfl dX8_wrongDown_53 (mrg_x (by omega)) ?_
      refine r_iconst hK dX8_wrongDown_56 ?_
      refine r_isub hK dX8_wrongDown_57 ?_
      refine r_put (k := 95) hK cls_8 fl_RX8_248 (by decide) (by omega) rfl rfl rfl rfl rfl dX8_wrongDown_58 (up_x (by omega)) ?_
      refine r_aload_n hK dX8_wrongDown_61 rfl ?_
      refine r_getR (k := 95) (k' := (105)) hK cls_8 fl_RX8_42 (by decide) (by omega) rfl rfl dX8_wrongDown_62 ?_
      refine r_aload_n hK dX8_wrongDown_65 rfl ?_
      refine r_getI (k := 95) hK cls_8 fl_RX8_248 (by decide) (by omega) rfl rfl dX8_wrongDown_66 (mrg_x (by omega)) ?_
      obtain ⟨hb69, h⟩ := wpO_ix h
      refine r_iaload (k := (105)) hK (by omega) rfl (by decide) hb69 dX8_wrongDown_69 (mrg_x (by omega)) ?_
      refine r_istore_n hK dX8_wrongDown_70 (by rw [hN]; decide) rfl (lv' := [some (.ref (gA g 95)), some (.int (I ((up C 95 19 ((C 95 19) - 1)) (105) ((up C 95 19 ((C 95 19) - 1)) 95 19).toNat))), none, none, none, none]) rfl ?_
      refine r_aload_n hK dX8_wrongDown_71 rfl ?_
      refine r_getR (k := 95) (k' := (106)) hK cls_8 fl_RX8_45 (by decide) (by omega) rfl rfl dX8_wrongDown_72 ?_
      refine r_aload_n hK dX8_wrongDown_75 rfl ?_
      refine r_getI (k := 95) hK cls_8 fl_RX8_248 (by decide) (by omega) rfl rfl dX8_wrongDown_76 (mrg_x (by omega)) ?_
      obtain ⟨hb79, h⟩ := wpO_ix h
      refine r_iaload (k := (106)) hK (by omega) rfl (by decide) hb79 dX8_wrongDown_79 (mrg_x (by omega)) ?_
      refine r_istore_n hK dX8_wrongDown_80 (by rw [hN]; decide) rfl (lv' := [some (.ref (gA g 95)), some (.int (I ((up C 95 19 ((C 95 19) - 1)) (105) ((up C 95 19 ((C 95 19) - 1)) 95 19).toNat))), some (.int (I ((up C 95 19 ((C 95 19) - 1)) (106) ((up C 95 19 ((C 95 19) - 1)) 95 19).toNat))), none, none, none]) rfl ?_
      refine r_aload_n hK dX8_wrongDown_81 rfl ?_
      refine r_getR (k := 95) (k' := (107)) hK cls_8 fl_RX8_48 (by decide) (by omega) rfl rfl dX8_wrongDown_82 ?_
      refine r_aload_n hK dX8_wrongDown_85 rfl ?_
      refine r_getI (k := 95) hK cls_8 fl_RX8_248 (by decide) (by omega) rfl rfl dX8_wrongDown_86 (mrg_x (by omega)) ?_
      obtain ⟨hb89, h⟩ := wpO_ix h
      refine r_iaload (k := (107)) hK (by omega) rfl (by decide) hb89 dX8_wrongDown_89 (mrg_x (by omega)) ?_
      refine r_istore_n hK dX8_wrongDown_90 (by rw [hN]; decide) rfl (lv' := [some (.ref (gA g 95)), some (.int (I ((up C 95 19 ((C 95 19) - 1)) (105) ((up C 95 19 ((C 95 19) - 1)) 95 19).toNat))), some (.int (I ((up C 95 19 ((C 95 19) - 1)) (106) ((up C 95 19 ((C 95 19) - 1)) 95 19).toNat))), some (.int (I ((up C 95 19 ((C 95 19) - 1)) (107) ((up C 95 19 ((C 95 19) - 1)) 95 19).toNat))), none, none]) rfl ?_
      refine r_aload_n hK dX8_wrongDown_91 rfl ?_
      refine r_getR (k := 95) (k' := (108)) hK cls_8 fl_RX8_51 (by decide) (by omega) rfl rfl dX8_wrongDown_92 ?_
      refine r_aload_n hK dX8_wrongDown_95 rfl ?_
      refine r_getI (k := 95) hK cls_8 fl_RX8_248 (by decide) (by omega) rfl rfl dX8_wrongDown_96 (mrg_x (by omega)) ?_
      obtain ⟨hb99, h⟩ := wpO_ix h
      refine r_iaload (k := (108)) hK (by omega) rfl (by decide) hb99 dX8_wrongDown_99 (mrg_x (by omega)) ?_
      refine r_istore hK dX8_wrongDown_100 (by rw [hN]; decide) rfl (lv' := [some (.ref (gA g 95)), some (.int (I ((up C 95 19 ((C 95 19) - 1)) (105) ((up C 95 19 ((C 95 19) - 1)) 95 19).toNat))), some (.int (I ((up C 95 19 ((C 95 19) - 1)) (106) ((up C 95 19 ((C 95 19) - 1)) 95 19).toNat))), some (.int (I ((up C 95 19 ((C 95 19) - 1)) (107) ((up C 95 19 ((C 95 19) - 1)) 95 19).toNat))), some (.int (I ((up C 95 19 ((C 95 19) - 1)) (108) ((up C 95 19 ((C 95 19) - 1)) 95 19).toNat))), none]) rfl ?_
      refine r_aload_n hK dX8_wrongDown_102 rfl ?_
      refine r_getR (k := 95) (k' := (104)) hK cls_8 fl_RX8_38 (by decide) (by omega) rfl rfl dX8_wrongDown_103 ?_
      refine r_iload_n hK dX8_wrongDown_106 rfl ?_
      refine r_iconst hK dX8_wrongDown_107 ?_
      obtain ⟨hb108, h⟩ := wpO_ix h
      refine r_bastore (k := (104)) hK (by omega) rfl (by decide) hb108 (by decide) dX8_wrongDown_108 (up_x (by omega)) ?_
      refine r_aload_n hK dX8_wrongDown_109 rfl ?_
      refine r_iload_n hK dX8_wrongDown_110 rfl ?_
      refine r_iload_n hK dX8_wrongDown_111 rfl ?_
      refine r_iload_n hK dX8_wrongDown_112 rfl ?_
      refine r_iload hK dX8_wrongDown_113 rfl ?_
      refine r_callV hK ck_X8_why im_X8_why sl_X8_why ml_RX8_261 (by omega) (c_X8_why (l := kL K) (g := g) (Y := Y) ((up C 95 19 ((C 95 19) - 1)) (105) ((up C 95 19 ((C 95 19) - 1)) 95 19).toNat) ((up C 95 19 ((C 95 19) - 1)) (106) ((up C 95 19 ((C 95 19) - 1)) 95 19).toNat) ((up C 95 19 ((C 95 19) - 1)) (107) ((up C 95 19 ((C 95 19) - 1)) 95 19).toNat) ((up C 95 19 ((C 95 19) - 1)) (108) ((up C 95 19 ((C 95 19) - 1)) 95 19).toNat) (up (up C 95 19 ((C 95 19) - 1)) (104) ((up C 95 19 ((C 95 19) - 1)) (105) ((up C 95 19 ((C 95 19) - 1)) 95 19).toNat).toNat (1)) (wpO_bd h)) cls_8 (k := 95) (by omega) rfl (As := [.int (I ((up C 95 19 ((C 95 19) - 1)) (105) ((up C 95 19 ((C 95 19) - 1)) 95 19).toNat)), .int (I ((up C 95 19 ((C 95 19) - 1)) (106) ((up C 95 19 ((C 95 19) - 1)) 95 19).toNat)), .int (I ((up C 95 19 ((C 95 19) - 1)) (107) ((up C 95 19 ((C 95 19) - 1)) 95 19).toNat)), .int (I ((up C 95 19 ((C 95 19) - 1)) (108) ((up C 95 19 ((C 95 19) - 1)) 95 19).toNat))]) (st := []) rfl (Nat.le_of_ble_eq_true rfl) dX8_wrongDown_115 (kkI (fun C115 r115 h => ?_))
      refine r_istore hK dX8_wrongDown_118 (by rw [hN]; decide) rfl (lv' := [some (.ref (gA g 95)), some (.int (I ((up C 95 19 ((C 95 19) - 1)) (105) ((up C 95 19 ((C 95 19) - 1)) 95 19).toNat))), some (.int (I ((up C 95 19 ((C 95 19) - 1)) (106) ((up C 95 19 ((C 95 19) - 1)) 95 19).toNat))), some (.int (I ((up C 95 19 ((C 95 19) - 1)) (107) ((up C 95 19 ((C 95 19) - 1)) 95 19).toNat))), some (.int (I ((up C 95 19 ((C 95 19) - 1)) (108) ((up C 95 19 ((C 95 19) - 1)) 95 19).toNat))), some (.int (I (r115)))]) rfl ?_
      refine r_iload hK dX8_wrongDown_120 rfl ?_
      refine r_if_le hK dX8_wrongDown_122 (t := 133) (by decide) (wpO_lt h) (fun h => ?_) (fun h => ?_)
      · refine r_bipush hK dX8_wrongDown_125 (by decide) ?_
        refine r_iload hK dX8_wrongDown_127 rfl ?_
        refine r_imul hK dX8_wrongDown_129 ?_
        refine r_iload_n hK dX8_wrongDown_130 rfl ?_
        refine r_iadd hK dX8_wrongDown_131 ?_
        exact r_ireturn hK hr hQ rfl dX8_wrongDown_132 ⟨C115, ((100 * r115) + ((up C 95 19 ((C 95 19) - 1)) (105) ((up C 95 19 ((C 95 19) - 1)) 95 19).toNat)), rfl, rfl, wpO_some h⟩
      · refine r_iload_n hK dX8_wrongDown_133 rfl ?_
        refine r_aload_n hK dX8_wrongDown_134 rfl ?_
        refine r_getI (k := 95) hK cls_8 fl_RX8_13 (by decide) (by omega) rfl rfl dX8_wrongDown_135 (mrg_x (by omega)) ?_
        refine r_iconst hK dX8_wrongDown_138 ?_
        refine r_isub hK dX8_wrongDown_139 ?_
        refine r_icmp_ge hK dX8_wrongDown_140 (t := 155) (by decide) (wpO_lt h) (fun h => ?_) (fun h => ?_)
        · refine r_aload_n hK dX8_wrongDown_143 rfl ?_
          refine r_iload_n hK dX8_wrongDown_144 rfl ?_
          refine r_iload_n hK dX8_wrongDown_145 rfl ?_
          refine r_iload_n hK dX8_wrongDown_146 rfl ?_
          refine r_iload hK dX8_wrongDown_147 rfl ?_
          refine r_callV hK ck_X8_childrenWait im_X8_childrenWait sl_X8_childrenWait ml_RX8_265 (by omega) (c_X8_childrenWait (l := kL K) (g := g) (Y := Y) ((up C 95 19 ((C 95 19) - 1)) (105) ((up C 95 19 ((C 95 19) - 1)) 95 19).toNat) ((up C 95 19 ((C 95 19) - 1)) (106) ((up C 95 19 ((C 95 19) - 1)) 95 19).toNat) ((up C 95 19 ((C 95 19) - 1)) (107) ((up C 95 19 ((C 95 19) - 1)) 95 19).toNat) ((up C 95 19 ((C 95 19) - 1)) (108) ((up C 95 19 ((C 95 19) - 1)) 95 19).toNat) C115 (wpO_bd h)) cls_8 (k := 95) (by omega) rfl (As := [.int (I ((up C 95 19 ((C 95 19) - 1)) (105) ((up C 95 19 ((C 95 19) - 1)) 95 19).toNat)), .int (I ((up C 95 19 ((C 95 19) - 1)) (106) ((up C 95 19 ((C 95 19) - 1)) 95 19).toNat)), .int (I ((up C 95 19 ((C 95 19) - 1)) (107) ((up C 95 19 ((C 95 19) - 1)) 95 19).toNat)), .int (I ((up C 95 19 ((C 95 19) - 1)) (108) ((up C 95 19 ((C 95 19) - 1)) 95 19).toNat))]) (st := []) rfl (Nat.le_of_ble_eq_true rfl) dX8_wrongDown_149 (kkV (fun C149 h => ?_))
          refine r_goto hK dX8_wrongDown_152 (t := 175) (by decide) ?_
          refine r_goto hK dX8_wrongDown_175 (t := 44) (by decide) ?_
          refine r_cut [true, false, false, false, false, false] (lv' := [some (.ref (gA g 95)), none, none, none, none, none]) rfl ?_
          exact ih C149 h
        · refine r_aload_n hK dX8_wrongDown_155 rfl ?_
          refine r_getR (k := 95) (k' := (109)) hK cls_8 fl_RX8_54 (by decide) (by omega) rfl rfl dX8_wrongDown_156 ?_
          refine r_aload_n hK dX8_wrongDown_159 rfl ?_
          refine r_getI (k := 95) hK cls_8 fl_RX8_258 (by decide) (by omega) rfl rfl dX8_wrongDown_160 (mrg_x (by omega)) ?_
          refine r_iload_n hK dX8_wrongDown_163 rfl ?_
          obtain ⟨hb164, h⟩ := wpO_ix h
          refine r_iastore (k := (109)) hK (by omega) rfl (by decide) hb164 dX8_wrongDown_164 (up_x (by omega)) ?_
          refine r_aload_n hK dX8_wrongDown_165 rfl ?_
          refine r_dup hK dX8_wrongDown_166 rfl ?_
          refine r_getI (k := 95) hK cls_8 fl_RX8_258 (by decide) (by omega) rfl rfl dX8_wrongDown_167 (mrg_x (by omega)) ?_
          refine r_iconst hK dX8_wrongDown_170 ?_
          refine r_iadd hK dX8_wrongDown_171 ?_
          refine r_put (k := 95) hK cls_8 fl_RX8_258 (by decide) (by omega) rfl rfl rfl rfl rfl dX8_wrongDown_172 (up_x (by omega)) ?_
          refine r_goto hK dX8_wrongDown_175 (t := 44) (by decide) ?_
          refine r_cut [true, false, false, false, false, false] (lv' := [some (.ref (gA g 95)), none, none, none, none, none]) rfl ?_
          exact ih (up (up C115 (109) (C115 95 24).toNat ((up C 95 19 ((C 95 19) - 1)) (105) ((up C 95 19 ((C 95 19) - 1)) 95 19).toNat)) 95 24 (((up C115 (109) (C115 95 24).toNat ((up C 95 19 ((C 95 19) - 1)) (105) ((up C 95 19 ((C 95 19) - 1)) 95 19).toNat)) 95 24) + 1)) h
    · exact hk C h
set_option maxRecDepth 100000 in
set_option maxHeartbeats 4000000 in
theorem c_X8_wrongDown {l : Launch} {g : GT} {Y : Mem} {Q : Mem → Int → Prop} (C : Mem) (h : wpO (f_X8_wrongDown C) Q) : MetC l yX8_wrongDown cX8_wrongDown 6 (some .int) 5 g [.ref (gA g 95)] (mrg Y C) (QI (fun c => mrg Y c) Q) := by
  refine met_at 5 (lv := [some (.ref (gA g 95)), none, none, none, none, none]) (by decide) (Nat.le_of_ble_eq_true rfl) rfl rfl (fun K hK hN hr hQ => ?_)
  unfold f_X8_wrongDown at h
  refine r_aload_n hK dX8_wrongDown_0 rfl ?_
  refine r_iconst hK dX8_wrongDown_1 ?_
  refine r_put (k := 95) hK cls_8 fl_RX8_248 (by decide) (by omega) rfl rfl rfl rfl rfl dX8_wrongDown_2 (up_x (by omega)) ?_
  refine r_aload_n hK dX8_wrongDown_5 rfl ?_
  refine r_iconst hK dX8_wrongDown_6 ?_
  refine r_put (k := 95) hK cls_8 fl_RX8_258 (by decide) (by omega) rfl rfl rfl rfl rfl dX8_wrongDown_7 (up_x (by omega)) ?_
  refine r_iconst hK dX8_wrongDown_10 ?_
  refine r_istore_n hK dX8_wrongDown_11 (by rw [hN]; decide) rfl (lv' := [some (.ref (gA g 95)), some (.int (I (0))), none, none, none, none]) rfl ?_
  refine w_X8_wrongDown_12 hK hN hr hQ (by omega) _ (fun v1_e12 C_e12 h => ?_) FU (0) (up (up C 95 19 (0)) 95 24 (0)) h
  refine r_aload_n hK dX8_wrongDown_31 rfl ?_
  refine r_aload_n hK dX8_wrongDown_32 rfl ?_
  refine r_getI (k := 95) hK cls_8 fl_RX8_118 (by decide) (by omega) rfl rfl dX8_wrongDown_33 (mrg_x (by omega)) ?_
  refine r_iconst hK dX8_wrongDown_36 ?_
  refine r_bipush hK dX8_wrongDown_37 (by decide) ?_
  refine r_bipush hK dX8_wrongDown_39 (by decide) ?_
  refine r_callV hK ck_X8_waits im_X8_waits sl_X8_waits ml_RX8_254 (by omega) (c_X8_waits (l := kL K) (g := g) (Y := Y) (C_e12 95 1) (0) (-9) (-9) C_e12 (wpO_bd h)) cls_8 (k := 95) (by omega) rfl (As := [.int (I (C_e12 95 1)), .int (I (0)), .int (I (-9)), .int (I (-9))]) (st := []) rfl (Nat.le_of_ble_eq_true rfl) dX8_wrongDown_41 (kkV (fun C41 h => ?_))
  refine r_cut [true, false, false, false, false, false] (lv' := [some (.ref (gA g 95)), none, none, none, none, none]) rfl ?_
  refine w_X8_wrongDown_44 hK hN hr hQ (by omega) _ (fun C_e44 h => ?_) FU C41 h
  refine r_iconst hK dX8_wrongDown_178 ?_
  exact r_ireturn hK hr hQ rfl dX8_wrongDown_179 ⟨C_e44, 0, rfl, rfl, wpO_some h⟩

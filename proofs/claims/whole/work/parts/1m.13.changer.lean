set_option maxRecDepth 100000 in
set_option maxHeartbeats 4000000 in
theorem c_X0_readSeparator {l : Launch} {g : GT} {X : Mem} {Q : Mem → Int → Prop} (a1 : Int) (C : Mem) (h : wpO (f_X0_readSeparator a1 C) Q) : MetC l yX0_readSeparator cX0_readSeparator 2 none 3 g [.ref (gA g 2), .int (I (a1))] (mrg C X) (QV (fun c => mrg c X) Q) := by
  refine met_at 0 (lv := [some (.ref (gA g 2)), some (.int (I (a1)))]) (by decide) (Nat.le_of_ble_eq_true rfl) rfl rfl (fun K hK hN hr hQ => ?_)
  unfold f_X0_readSeparator at h
  refine r_aload_n hK dX0_readSeparator_0 rfl ?_
  refine r_getR (k := 2) (k' := (27 + 33)) hK cls_0 fl_RX0_14 (by decide) (by omega) rfl rfl dX0_readSeparator_1 ?_
  refine r_iload_n hK dX0_readSeparator_4 rfl ?_
  refine r_aload_n hK dX0_readSeparator_5 rfl ?_
  refine r_getR (k := 2) (k' := (10 + 2 * 1)) hK cls_0 fl_RX0_23 (by decide) (by omega) rfl rfl dX0_readSeparator_6 ?_
  refine r_callV hK ck_X4_readKey im_X4_readKey sl_X4_readKey ml_RX0_128 (by omega) (c_X4_readKey (l := kL K) (g := g) (X := X) 33 (a1) 1 (by decide) (by decide) C (wpO_bd h)) cls_4 (k := (27 + 33)) (by omega) (sh_page (by decide)) (As := [.int (I (a1)), .ref (gA g (10 + 2 * 1))]) (st := []) rfl (Nat.le_of_ble_eq_true rfl) dX0_readSeparator_9 (kkV (fun C9 h => ?_))
  refine r_aload_n hK dX0_readSeparator_12 rfl ?_
  refine r_getR (k := 2) (k' := (27 + 33)) hK cls_0 fl_RX0_14 (by decide) (by omega) rfl rfl dX0_readSeparator_13 ?_
  refine r_callV hK ck_X4_sort im_X4_sort sl_X4_sort ml_RX0_100 (by omega) (c_X4_sort (l := kL K) (g := g) (X := X) 33 (by decide) C9 (wpO_bd h)) cls_4 (k := (27 + 33)) (by omega) (sh_page (by decide)) (As := []) (st := []) rfl (Nat.le_of_ble_eq_true rfl) dX0_readSeparator_16 (kkI (fun C16 r16 h => ?_))
  refine r_iconst hK dX0_readSeparator_19 ?_
  refine r_icmp_ne hK dX0_readSeparator_20 (t := 48) (by decide) (wpO_eq h) (fun h => ?_) (fun h => ?_)
  · refine r_aload_n hK dX0_readSeparator_23 rfl ?_
    refine r_getR (k := 2) (k' := (27 + 33)) hK cls_0 fl_RX0_14 (by decide) (by omega) rfl rfl dX0_readSeparator_24 ?_
    refine r_iload_n hK dX0_readSeparator_27 rfl ?_
    refine r_iconst hK dX0_readSeparator_28 ?_
    refine r_isub hK dX0_readSeparator_29 ?_
    refine r_aload_n hK dX0_readSeparator_30 rfl ?_
    refine r_getR (k := 2) (k' := (10 + 2 * 2)) hK cls_0 fl_RX0_27 (by decide) (by omega) rfl rfl dX0_readSeparator_31 ?_
    refine r_callV hK ck_X4_readKey im_X4_readKey sl_X4_readKey ml_RX0_128 (by omega) (c_X4_readKey (l := kL K) (g := g) (X := X) 33 (a1 - 1) 2 (by decide) (by decide) C16 (wpO_bd h)) cls_4 (k := (27 + 33)) (by omega) (sh_page (by decide)) (As := [.int (I (a1 - 1)), .ref (gA g (10 + 2 * 2))]) (st := []) rfl (Nat.le_of_ble_eq_true rfl) dX0_readSeparator_34 (kkV (fun C34 h => ?_))
    refine r_aload_n hK dX0_readSeparator_37 rfl ?_
    refine r_getR (k := 2) (k' := (10 + 2 * 1)) hK cls_0 fl_RX0_23 (by decide) (by omega) rfl rfl dX0_readSeparator_38 ?_
    refine r_aload_n hK dX0_readSeparator_41 rfl ?_
    refine r_getR (k := 2) (k' := (10 + 2 * 2)) hK cls_0 fl_RX0_27 (by decide) (by omega) rfl rfl dX0_readSeparator_42 ?_
    refine r_callV hK ck_X3_cutAbove im_X3_cutAbove sl_X3_cutAbove ml_RX0_132 (by omega) (c_X3_cutAbove (l := kL K) (g := g) (X := X) 1 2 (by decide) (by decide) C34 (wpO_bd h)) cls_3 (k := (10 + 2 * 1)) (by omega) (sh_key (by decide)) (As := [.ref (gA g (10 + 2 * 2))]) (st := []) rfl (Nat.le_of_ble_eq_true rfl) dX0_readSeparator_45 (kkV (fun C45 h => ?_))
    exact r_return hK hr hQ dX0_readSeparator_48 ⟨C45, rfl, rfl, wpO_some h⟩
  · exact r_return hK hr hQ dX0_readSeparator_48 ⟨C16, rfl, rfl, wpO_some h⟩
set_option maxRecDepth 100000 in
set_option maxHeartbeats 4000000 in
theorem c_X0_deal {l : Launch} {g : GT} {X : Mem} {Q : Mem → Int → Prop} (a1 : Int) (a2 : Nat) (a3 : Nat) (ha2 : a2 < 34) (ha3 : a3 < 34) (C : Mem) (h : wpO (f_X0_deal a1 a2 a3 C) Q) : MetC l yX0_deal cX0_deal 5 none 3 g [.ref (gA g 2), .int (I (a1)), .ref (gA g (27 + a2)), .ref (gA g (27 + a3))] (mrg C X) (QV (fun c => mrg c X) Q) := by
  refine met_at 1 (lv := [some (.ref (gA g 2)), some (.int (I (a1))), some (.ref (gA g (27 + a2))), some (.ref (gA g (27 + a3))), none]) (by decide) (Nat.le_of_ble_eq_true rfl) rfl rfl (fun K hK hN hr hQ => ?_)
  unfold f_X0_deal at h
  refine r_aload_n hK dX0_deal_0 rfl ?_
  refine r_getR (k := 2) (k' := (27 + 33)) hK cls_0 fl_RX0_14 (by decide) (by omega) rfl rfl dX0_deal_1 ?_
  refine r_callV hK ck_X4_sort im_X4_sort sl_X4_sort ml_RX0_100 (by omega) (c_X4_sort (l := kL K) (g := g) (X := X) 33 (by decide) C (wpO_bd h)) cls_4 (k := (27 + 33)) (by omega) (sh_page (by decide)) (As := []) (st := []) rfl (Nat.le_of_ble_eq_true rfl) dX0_deal_4 (kkI (fun C4 r4 h => ?_))
  refine r_iconst hK dX0_deal_7 ?_
  refine r_jn (J := fun j16 => ∀ (s0_16 : Int), wpO (j16 s0_16) Q → Wn K g (mrg C4 X) 16 [some (.ref (gA g 2)), some (.int (I (a1))), some (.ref (gA g (27 + a2))), some (.ref (gA g (27 + a3))), none] [.int (I (s0_16))]) h ?_ ?_
  · intro s0_16 h
    refine r_istore hK dX0_deal_16 (by rw [hN]; decide) rfl (lv' := [some (.ref (gA g 2)), some (.int (I (a1))), some (.ref (gA g (27 + a2))), some (.ref (gA g (27 + a3))), some (.int (I (s0_16)))]) rfl ?_
    refine r_aload_n hK dX0_deal_18 rfl ?_
    refine r_aload_n hK dX0_deal_19 rfl ?_
    refine r_getR (k := 2) (k' := (27 + 33)) hK cls_0 fl_RX0_14 (by decide) (by omega) rfl rfl dX0_deal_20 ?_
    refine r_callV hK ck_X4_sort im_X4_sort sl_X4_sort ml_RX0_100 (by omega) (c_X4_sort (l := kL K) (g := g) (X := X) 33 (by decide) C4 (wpO_bd h)) cls_4 (k := (27 + 33)) (by omega) (sh_page (by decide)) (As := []) (st := [.ref (gA g (27 + a2))]) rfl (Nat.le_of_ble_eq_true rfl) dX0_deal_23 (kkI (fun C23 r23 h => ?_))
    refine r_aload_n hK dX0_deal_26 rfl ?_
    refine r_callV hK ck_X4_link im_X4_link sl_X4_link ml_RX0_103 (by omega) (c_X4_link (l := kL K) (g := g) (X := X) a2 ha2 C23 (wpO_bd h)) cls_4 (k := (27 + a2)) (by omega) (sh_page ha2) (As := []) (st := [.int (I (r23)), .ref (gA g (27 + a2))]) rfl (Nat.le_of_ble_eq_true rfl) dX0_deal_27 (kkI (fun C27 r27 h => ?_))
    refine r_callV hK ck_X4_begin im_X4_begin sl_X4_begin ml_RX0_125 (by omega) (c_X4_begin (l := kL K) (g := g) (X := X) a2 (r23) (r27) ha2 C27 (wpO_bd h)) cls_4 (k := (27 + a2)) (by omega) (sh_page ha2) (As := [.int (I (r23)), .int (I (r27))]) (st := []) rfl (Nat.le_of_ble_eq_true rfl) dX0_deal_30 (kkV (fun C30 h => ?_))
    refine r_aload_n hK dX0_deal_33 rfl ?_
    refine r_aload_n hK dX0_deal_34 rfl ?_
    refine r_getR (k := 2) (k' := (27 + 33)) hK cls_0 fl_RX0_14 (by decide) (by omega) rfl rfl dX0_deal_35 ?_
    refine r_iconst hK dX0_deal_38 ?_
    refine r_iload_n hK dX0_deal_39 rfl ?_
    refine r_callV hK ck_X4_append im_X4_append sl_X4_append ml_RX0_135 (by omega) (c_X4_append (l := kL K) (g := g) (X := X) a2 33 (0) (a1) ha2 (by decide) C30 (wpO_bd h)) cls_4 (k := (27 + a2)) (by omega) (sh_page ha2) (As := [.ref (gA g (27 + 33)), .int (I (0)), .int (I (a1))]) (st := []) rfl (Nat.le_of_ble_eq_true rfl) dX0_deal_40 (kkV (fun C40 h => ?_))
    refine r_aload_n hK dX0_deal_43 rfl ?_
    refine r_aload_n hK dX0_deal_44 rfl ?_
    refine r_getR (k := 2) (k' := (27 + 33)) hK cls_0 fl_RX0_14 (by decide) (by omega) rfl rfl dX0_deal_45 ?_
    refine r_callV hK ck_X4_sort im_X4_sort sl_X4_sort ml_RX0_100 (by omega) (c_X4_sort (l := kL K) (g := g) (X := X) 33 (by decide) C40 (wpO_bd h)) cls_4 (k := (27 + 33)) (by omega) (sh_page (by decide)) (As := []) (st := [.ref (gA g (27 + a3))]) rfl (Nat.le_of_ble_eq_true rfl) dX0_deal_48 (kkI (fun C48 r48 h => ?_))
    refine r_iload hK dX0_deal_51 rfl ?_
    refine r_jn (J := fun j71 => ∀ (s2_71 : Int) (C_71 : Mem), wpO (j71 s2_71 C_71) Q → Wn K g (mrg C_71 X) 71 [some (.ref (gA g 2)), some (.int (I (a1))), none, some (.ref (gA g (27 + a3))), some (.int (I (s0_16)))] [.int (I (s2_71)), .int (I (r48)), .ref (gA g (27 + a3))]) h ?_ ?_
    · intro s2_71 C_71 h
      refine r_callV hK ck_X4_begin im_X4_begin sl_X4_begin ml_RX0_125 (by omega) (c_X4_begin (l := kL K) (g := g) (X := X) a3 (r48) (s2_71) ha3 C_71 (wpO_bd h)) cls_4 (k := (27 + a3)) (by omega) (sh_page ha3) (As := [.int (I (r48)), .int (I (s2_71))]) (st := []) rfl (Nat.le_of_ble_eq_true rfl) dX0_deal_71 (kkV (fun C71 h => ?_))
      refine r_aload_n hK dX0_deal_74 rfl ?_
      refine r_aload_n hK dX0_deal_75 rfl ?_
      refine r_getR (k := 2) (k' := (27 + 33)) hK cls_0 fl_RX0_14 (by decide) (by omega) rfl rfl dX0_deal_76 ?_
      refine r_iload hK dX0_deal_79 rfl ?_
      refine r_jn (J := fun j91 => ∀ (s2_91 : Int), wpO (j91 s2_91) Q → Wn K g (mrg C71 X) 91 [some (.ref (gA g 2)), none, none, none, none] [.int (I (s2_91)), .ref (gA g (27 + 33)), .ref (gA g (27 + a3))]) h ?_ ?_
      · intro s2_91 h
        refine r_aload_n hK dX0_deal_91 rfl ?_
        refine r_getR (k := 2) (k' := (27 + 33)) hK cls_0 fl_RX0_14 (by decide) (by omega) rfl rfl dX0_deal_92 ?_
        refine r_callV hK ck_X4_entries im_X4_entries sl_X4_entries ml_RX0_139 (by omega) (c_X4_entries (l := kL K) (g := g) (X := X) 33 (by decide) C71 (wpO_bd h)) cls_4 (k := (27 + 33)) (by omega) (sh_page (by decide)) (As := []) (st := [.int (I (s2_91)), .ref (gA g (27 + 33)), .ref (gA g (27 + a3))]) rfl (Nat.le_of_ble_eq_true rfl) dX0_deal_95 (kkI (fun C95 r95 h => ?_))
        refine r_callV hK ck_X4_append im_X4_append sl_X4_append ml_RX0_135 (by omega) (c_X4_append (l := kL K) (g := g) (X := X) a3 33 (s2_91) (r95) ha3 (by decide) C95 (wpO_bd h)) cls_4 (k := (27 + a3)) (by omega) (sh_page ha3) (As := [.ref (gA g (27 + 33)), .int (I (s2_91)), .int (I (r95))]) (st := []) rfl (Nat.le_of_ble_eq_true rfl) dX0_deal_98 (kkV (fun C98 h => ?_))
        exact r_return hK hr hQ dX0_deal_101 ⟨C98, rfl, rfl, wpO_some h⟩
      · intro hj91 h
        refine r_if_eq hK dX0_deal_81 (t := 90) (by decide) (wpO_eq h) (fun h => ?_) (fun h => ?_)
        · refine r_iload_n hK dX0_deal_90 rfl ?_
          refine r_cut [true, false, false, false, false] (lv' := [some (.ref (gA g 2)), none, none, none, none]) rfl ?_
          exact hj91 (a1) h
        · refine r_iload_n hK dX0_deal_84 rfl ?_
          refine r_iconst hK dX0_deal_85 ?_
          refine r_iadd hK dX0_deal_86 ?_
          refine r_goto hK dX0_deal_87 (t := 91) (by decide) ?_
          refine r_cut [true, false, false, false, false] (lv' := [some (.ref (gA g 2)), none, none, none, none]) rfl ?_
          exact hj91 (a1 + 1) h
    · intro hj71 h
      refine r_if_eq hK dX0_deal_53 (t := 67) (by decide) (wpO_eq h) (fun h => ?_) (fun h => ?_)
      · refine r_aload_n hK dX0_deal_67 rfl ?_
        refine r_callV hK ck_X4_link im_X4_link sl_X4_link ml_RX0_103 (by omega) (c_X4_link (l := kL K) (g := g) (X := X) a3 ha3 C48 (wpO_bd h)) cls_4 (k := (27 + a3)) (by omega) (sh_page ha3) (As := []) (st := [.int (I (r48)), .ref (gA g (27 + a3))]) rfl (Nat.le_of_ble_eq_true rfl) dX0_deal_68 (kkI (fun C68 r68 h => ?_))
        refine r_cut [true, true, false, true, true] (lv' := [some (.ref (gA g 2)), some (.int (I (a1))), none, some (.ref (gA g (27 + a3))), some (.int (I (s0_16)))]) rfl ?_
        exact hj71 (r68) C68 h
      · refine r_aload_n hK dX0_deal_56 rfl ?_
        refine r_getR (k := 2) (k' := (27 + 33)) hK cls_0 fl_RX0_14 (by decide) (by omega) rfl rfl dX0_deal_57 ?_
        refine r_iload_n hK dX0_deal_60 rfl ?_
        refine r_callV hK ck_X4_tail im_X4_tail sl_X4_tail ml_RX0_56 (by omega) (c_X4_tail (l := kL K) (g := g) (X := X) 33 (a1) (by decide) C48 (wpO_bd h)) cls_4 (k := (27 + 33)) (by omega) (sh_page (by decide)) (As := [.int (I (a1))]) (st := [.int (I (r48)), .ref (gA g (27 + a3))]) rfl (Nat.le_of_ble_eq_true rfl) dX0_deal_61 (kkI (fun C61 r61 h => ?_))
        refine r_goto hK dX0_deal_64 (t := 71) (by decide) ?_
        refine r_cut [true, true, false, true, true] (lv' := [some (.ref (gA g 2)), some (.int (I (a1))), none, some (.ref (gA g (27 + a3))), some (.int (I (s0_16)))]) rfl ?_
        exact hj71 (r61) C61 h
  · intro hj16 h
    refine r_icmp_ne hK dX0_deal_8 (t := 15) (by decide) (wpO_eq h) (fun h => ?_) (fun h => ?_)
    · refine r_iconst hK dX0_deal_11 ?_
      refine r_goto hK dX0_deal_12 (t := 16) (by decide) ?_
      exact hj16 (1) h
    · refine r_iconst hK dX0_deal_15 ?_
      exact hj16 (0) h
set_option maxRecDepth 100000 in
set_option maxHeartbeats 4000000 in
theorem c_X0_split {l : Launch} {g : GT} {X : Mem} {Q : Mem → Int → Prop} (a1 : Nat) (ha1 : a1 < 34) (C : Mem) (h : wpO (f_X0_split a1 C) Q) : MetC l yX0_split cX0_split 5 (some .int) 4 g [.ref (gA g 2), .ref (gA g (27 + a1))] (mrg C X) (QI (fun c => mrg c X) Q) := by
  refine met_at 3 (lv := [some (.ref (gA g 2)), some (.ref (gA g (27 + a1))), none, none, none]) (by decide) (Nat.le_of_ble_eq_true rfl) rfl rfl (fun K hK hN hr hQ => ?_)
  unfold f_X0_split at h
  refine r_aload_n hK dX0_split_0 rfl ?_
  refine r_getR (k := 2) (k' := 1) hK cls_0 fl_RX0_30 (by decide) (by omega) rfl rfl dX0_split_1 ?_
  refine r_callV hK ck_X6_lowestFree im_X6_lowestFree sl_X6_lowestFree ml_RX0_94 (by omega) (c_X6_lowestFree (l := kL K) (g := g) (X := X) C (wpO_bd h)) cls_6 (k := 1) (by omega) rfl (As := []) (st := []) rfl (Nat.le_of_ble_eq_true rfl) dX0_split_4 (kkI (fun C4 r4 h => ?_))
  refine r_istore_n hK dX0_split_7 (by rw [hN]; decide) rfl (lv' := [some (.ref (gA g 2)), some (.ref (gA g (27 + a1))), some (.int (I (r4))), none, none]) rfl ?_
  refine r_aload_n hK dX0_split_8 rfl ?_
  refine r_getR (k := 2) (k' := 1) hK cls_0 fl_RX0_30 (by decide) (by omega) rfl rfl dX0_split_9 ?_
  refine r_iload_n hK dX0_split_12 rfl ?_
  refine r_callV hK ck_X6_pageOf im_X6_pageOf sl_X6_pageOf ml_RX0_97 (by omega) (c_X6_pageOf (l := kL K) (g := g) (X := X) (r4) C4 (wpO_bd h)) cls_6 (k := 1) (by omega) rfl (As := [.int (I (r4))]) (st := []) rfl (Nat.le_of_ble_eq_true rfl) dX0_split_13 (kkP (fun C13 r13 hr13 h => ?_))
  refine r_astore_n hK dX0_split_16 (by rw [hN]; decide) rfl (lv' := [some (.ref (gA g 2)), some (.ref (gA g (27 + a1))), some (.int (I (r4))), some (.ref (gA g (27 + r13))), none]) rfl ?_
  refine r_aload_n hK dX0_split_17 rfl ?_
  refine r_getR (k := 2) (k' := (27 + 33)) hK cls_0 fl_RX0_14 (by decide) (by omega) rfl rfl dX0_split_18 ?_
  refine r_callV hK ck_X4_sort im_X4_sort sl_X4_sort ml_RX0_100 (by omega) (c_X4_sort (l := kL K) (g := g) (X := X) 33 (by decide) C13 (wpO_bd h)) cls_4 (k := (27 + 33)) (by omega) (sh_page (by decide)) (As := []) (st := []) rfl (Nat.le_of_ble_eq_true rfl) dX0_split_21 (kkI (fun C21 r21 h => ?_))
  refine r_iconst hK dX0_split_24 ?_
  refine r_jn (J := fun j43 => ∀ (C_43 : Mem), wpO (j43 C_43) Q → Wn K g (mrg C_43 X) 43 [some (.ref (gA g 2)), some (.ref (gA g (27 + a1))), some (.int (I (r4))), some (.ref (gA g (27 + r13))), none] []) h ?_ ?_
  · intro C_43 h
    refine r_aload_n hK dX0_split_43 rfl ?_
    refine r_getR (k := 2) (k' := (27 + 33)) hK cls_0 fl_RX0_14 (by decide) (by omega) rfl rfl dX0_split_44 ?_
    refine r_callV hK ck_X4_half im_X4_half sl_X4_half ml_RX0_109 (by omega) (c_X4_half (l := kL K) (g := g) (X := X) 33 (by decide) C_43 (wpO_bd h)) cls_4 (k := (27 + 33)) (by omega) (sh_page (by decide)) (As := []) (st := []) rfl (Nat.le_of_ble_eq_true rfl) dX0_split_47 (kkI (fun C47 r47 h => ?_))
    refine r_istore hK dX0_split_50 (by rw [hN]; decide) rfl (lv' := [some (.ref (gA g 2)), some (.ref (gA g (27 + a1))), some (.int (I (r4))), some (.ref (gA g (27 + r13))), some (.int (I (r47)))]) rfl ?_
    refine r_aload_n hK dX0_split_52 rfl ?_
    refine r_iload hK dX0_split_53 rfl ?_
    refine r_callV hK ck_X0_readSeparator im_X0_readSeparator sl_X0_readSeparator ml_RX0_112 (by omega) (c_X0_readSeparator (l := kL K) (g := g) (X := X) (r47) C47 (wpO_bd h)) cls_0 (k := 2) (by omega) rfl (As := [.int (I (r47))]) (st := []) rfl (Nat.le_of_ble_eq_true rfl) dX0_split_55 (kkV (fun C55 h => ?_))
    refine r_aload_n hK dX0_split_58 rfl ?_
    refine r_iload hK dX0_split_59 rfl ?_
    refine r_aload_n hK dX0_split_61 rfl ?_
    refine r_aload_n hK dX0_split_62 rfl ?_
    refine r_callV hK ck_X0_deal im_X0_deal sl_X0_deal ml_RX0_115 (by omega) (c_X0_deal (l := kL K) (g := g) (X := X) (r47) a1 r13 ha1 hr13 C55 (wpO_bd h)) cls_0 (k := 2) (by omega) rfl (As := [.int (I (r47)), .ref (gA g (27 + a1)), .ref (gA g (27 + r13))]) (st := []) rfl (Nat.le_of_ble_eq_true rfl) dX0_split_63 (kkV (fun C63 h => ?_))
    refine r_aload_n hK dX0_split_66 rfl ?_
    refine r_dup hK dX0_split_67 rfl ?_
    refine r_getI (k := 2) hK cls_0 fl_RX0_119 (by decide) (by omega) rfl rfl dX0_split_68 (mrg_c (by omega)) ?_
    refine r_iconst hK dX0_split_71 ?_
    refine r_iadd hK dX0_split_72 ?_
    refine r_put (k := 2) hK cls_0 fl_RX0_119 (by decide) (by omega) rfl rfl rfl rfl rfl dX0_split_73 (up_c (by omega)) ?_
    refine r_iload_n hK dX0_split_76 rfl ?_
    exact r_ireturn hK hr hQ rfl dX0_split_77 ⟨(up C63 2 4 ((C63 2 4) + 1)), r4, rfl, rfl, wpO_some h⟩
  · intro hj43 h
    refine r_icmp_ne hK dX0_split_25 (t := 43) (by decide) (wpO_eq h) (fun h => ?_) (fun h => ?_)
    · refine r_aload_n hK dX0_split_28 rfl ?_
      refine r_aload_n hK dX0_split_29 rfl ?_
      refine r_callV hK ck_X4_link im_X4_link sl_X4_link ml_RX0_103 (by omega) (c_X4_link (l := kL K) (g := g) (X := X) a1 ha1 C21 (wpO_bd h)) cls_4 (k := (27 + a1)) (by omega) (sh_page ha1) (As := []) (st := [.ref (gA g (27 + r13))]) rfl (Nat.le_of_ble_eq_true rfl) dX0_split_30 (kkI (fun C30 r30 h => ?_))
      refine r_callV hK ck_X4_setLink im_X4_setLink sl_X4_setLink ml_RX0_106 (by omega) (c_X4_setLink (l := kL K) (g := g) (X := X) r13 (r30) hr13 C30 (wpO_bd h)) cls_4 (k := (27 + r13)) (by omega) (sh_page hr13) (As := [.int (I (r30))]) (st := []) rfl (Nat.le_of_ble_eq_true rfl) dX0_split_33 (kkV (fun C33 h => ?_))
      refine r_aload_n hK dX0_split_36 rfl ?_
      refine r_iload_n hK dX0_split_37 rfl ?_
      refine r_iconst hK dX0_split_38 ?_
      refine r_iadd hK dX0_split_39 ?_
      refine r_callV hK ck_X4_setLink im_X4_setLink sl_X4_setLink ml_RX0_106 (by omega) (c_X4_setLink (l := kL K) (g := g) (X := X) a1 (r4 + 1) ha1 C33 (wpO_bd h)) cls_4 (k := (27 + a1)) (by omega) (sh_page ha1) (As := [.int (I (r4 + 1))]) (st := []) rfl (Nat.le_of_ble_eq_true rfl) dX0_split_40 (kkV (fun C40 h => ?_))
      exact hj43 C40 h
    · exact hj43 C21 h
set_option maxRecDepth 100000 in
set_option maxHeartbeats 4000000 in
theorem c_X0_raiseRoot {l : Launch} {g : GT} {X : Mem} {Q : Mem → Int → Prop} (a1 : Int) (C : Mem) (h : wpO (f_X0_raiseRoot a1 C) Q) : MetC l yX0_raiseRoot cX0_raiseRoot 4 none 3 g [.ref (gA g 2), .int (I (a1))] (mrg C X) (QV (fun c => mrg c X) Q) := by
  refine met_at 2 (lv := [some (.ref (gA g 2)), some (.int (I (a1))), none, none]) (by decide) (Nat.le_of_ble_eq_true rfl) rfl rfl (fun K hK hN hr hQ => ?_)
  unfold f_X0_raiseRoot at h
  refine r_aload_n hK dX0_raiseRoot_0 rfl ?_
  refine r_getR (k := 2) (k' := 1) hK cls_0 fl_RX0_30 (by decide) (by omega) rfl rfl dX0_raiseRoot_1 ?_
  refine r_callV hK ck_X6_lowestFree im_X6_lowestFree sl_X6_lowestFree ml_RX0_94 (by omega) (c_X6_lowestFree (l := kL K) (g := g) (X := X) C (wpO_bd h)) cls_6 (k := 1) (by omega) rfl (As := []) (st := []) rfl (Nat.le_of_ble_eq_true rfl) dX0_raiseRoot_4 (kkI (fun C4 r4 h => ?_))
  refine r_istore_n hK dX0_raiseRoot_7 (by rw [hN]; decide) rfl (lv' := [some (.ref (gA g 2)), some (.int (I (a1))), some (.int (I (r4))), none]) rfl ?_
  refine r_aload_n hK dX0_raiseRoot_8 rfl ?_
  refine r_getR (k := 2) (k' := 1) hK cls_0 fl_RX0_30 (by decide) (by omega) rfl rfl dX0_raiseRoot_9 ?_
  refine r_iload_n hK dX0_raiseRoot_12 rfl ?_
  refine r_callV hK ck_X6_pageOf im_X6_pageOf sl_X6_pageOf ml_RX0_97 (by omega) (c_X6_pageOf (l := kL K) (g := g) (X := X) (r4) C4 (wpO_bd h)) cls_6 (k := 1) (by omega) rfl (As := [.int (I (r4))]) (st := []) rfl (Nat.le_of_ble_eq_true rfl) dX0_raiseRoot_13 (kkP (fun C13 r13 hr13 h => ?_))
  refine r_astore_n hK dX0_raiseRoot_16 (by rw [hN]; decide) rfl (lv' := [some (.ref (gA g 2)), some (.int (I (a1))), some (.int (I (r4))), some (.ref (gA g (27 + r13)))]) rfl ?_
  refine r_aload_n hK dX0_raiseRoot_17 rfl ?_
  refine r_iconst hK dX0_raiseRoot_18 ?_
  refine r_aload_n hK dX0_raiseRoot_19 rfl ?_
  refine r_getR (k := 2) (k' := 1) hK cls_0 fl_RX0_30 (by decide) (by omega) rfl rfl dX0_raiseRoot_20 ?_
  refine r_getIN (k := 1) hK cls_6 fl_RX0_122 (by decide) (by omega) rfl rfl dX0_raiseRoot_23 (mrg_c (by omega)) ?_
  refine r_callV hK ck_X4_begin im_X4_begin sl_X4_begin ml_RX0_125 (by omega) (c_X4_begin (l := kL K) (g := g) (X := X) r13 (2) (C13 1 4) hr13 C13 (wpO_bd h)) cls_4 (k := (27 + r13)) (by omega) (sh_page hr13) (As := [.int (I (2)), .int (I (C13 1 4))]) (st := []) rfl (Nat.le_of_ble_eq_true rfl) dX0_raiseRoot_26 (kkV (fun C26 h => ?_))
  refine r_aload_n hK dX0_raiseRoot_29 rfl ?_
  refine r_iconst hK dX0_raiseRoot_30 ?_
  refine r_aload_n hK dX0_raiseRoot_31 rfl ?_
  refine r_getR (k := 2) (k' := (10 + 2 * 1)) hK cls_0 fl_RX0_23 (by decide) (by omega) rfl rfl dX0_raiseRoot_32 ?_
  refine r_iload_n hK dX0_raiseRoot_35 rfl ?_
  refine r_callV hK ck_X4_insert im_X4_insert sl_X4_insert ml_RX0_76 (by omega) (c_X4_insert (l := kL K) (g := g) (X := X) r13 (0) 1 (a1) hr13 (by decide) C26 (wpO_bd h)) cls_4 (k := (27 + r13)) (by omega) (sh_page hr13) (As := [.int (I (0)), .ref (gA g (10 + 2 * 1)), .int (I (a1))]) (st := []) rfl (Nat.le_of_ble_eq_true rfl) dX0_raiseRoot_36 (kkV (fun C36 h => ?_))
  refine r_aload_n hK dX0_raiseRoot_39 rfl ?_
  refine r_getR (k := 2) (k' := 1) hK cls_0 fl_RX0_30 (by decide) (by omega) rfl rfl dX0_raiseRoot_40 ?_
  refine r_iload_n hK dX0_raiseRoot_43 rfl ?_
  refine r_putN (k := 1) hK cls_6 fl_RX0_122 (by decide) (by omega) rfl rfl rfl rfl rfl dX0_raiseRoot_44 (up_c (by omega)) ?_
  refine r_aload_n hK dX0_raiseRoot_47 rfl ?_
  refine r_getR (k := 2) (k' := 1) hK cls_0 fl_RX0_30 (by decide) (by omega) rfl rfl dX0_raiseRoot_48 ?_
  refine r_dup hK dX0_raiseRoot_51 rfl ?_
  refine r_getIN (k := 1) hK cls_6 fl_RX0_40 (by decide) (by omega) rfl rfl dX0_raiseRoot_52 (mrg_c (by omega)) ?_
  refine r_iconst hK dX0_raiseRoot_55 ?_
  refine r_iadd hK dX0_raiseRoot_56 ?_
  refine r_putN (k := 1) hK cls_6 fl_RX0_40 (by decide) (by omega) rfl rfl rfl rfl rfl dX0_raiseRoot_57 (up_c (by omega)) ?_
  exact r_return hK hr hQ dX0_raiseRoot_60 ⟨(up (up C36 1 4 (r4)) 1 5 (((up C36 1 4 (r4)) 1 5) + 1)), rfl, rfl, wpO_some h⟩
set_option maxRecDepth 100000 in
set_option maxHeartbeats 4000000 in
theorem w_X0_insertUpward_16 {K : KT} {g : GT} {X : Mem} {dd : Nat} (hK : Kok K g cX0_insertUpward RX0 dd) (hN : kN K = 7) (hr : (kMe K).sig.returnType = none) {Q : Mem → Int → Prop} (hQ : kQ K = MQ (kB K) (Qc g (QV (fun c => mrg c X) Q)) (kA K) (kS K) (kc K) (ks K) (gS g)) (hdd : 5 ≤ dd) (k : Int → Int → Int → Mem → Option (Mem × Int)) (hk : ∀ (v3 : Int) (v4 : Int) (v5 : Int) (C : Mem), wpO (k v3 v4 v5 C) Q → Wn K g (mrg C X) 101 [some (.ref (gA g 2)), none, none, some (.int (I (v3))), some (.int (I (v4))), some (.int (I (v5))), none] []) : ∀ (n : Nat) (v3 : Int) (v4 : Int) (v5 : Int) (C : Mem), wpO (f_X0_insertUpward_16 k n v3 v4 v5 C) Q → Wn K g (mrg C X) 16 [some (.ref (gA g 2)), none, none, some (.int (I (v3))), some (.int (I (v4))), some (.int (I (v5))), none] [] := by
  intro n
  induction n with
  | zero => intro v3 v4 v5 C h; exact (wpO_none h).elim
  | succ n ih =>
    intro v3 v4 v5 C h
    unfold f_X0_insertUpward_16 at h
    refine r_iload hK dX0_insertUpward_16 rfl ?_
    refine r_if_lt hK dX0_insertUpward_18 (t := 101) (by decide) (wpO_lt h) (fun h => ?_) (fun h => ?_)
    · exact hk (v3) (v4) (v5) C h
    · refine r_aload_n hK dX0_insertUpward_21 rfl ?_
      refine r_getR (k := 2) (k' := 1) hK cls_0 fl_RX0_30 (by decide) (by omega) rfl rfl dX0_insertUpward_22 ?_
      refine r_iload hK dX0_insertUpward_25 rfl ?_
      refine r_callV hK ck_X6_pageOn im_X6_pageOn sl_X6_pageOn ml_RX0_44 (by omega) (c_X6_pageOn (l := kL K) (g := g) (X := X) (v5) C (wpO_bd h)) cls_6 (k := 1) (by omega) rfl (As := [.int (I (v5))]) (st := []) rfl (Nat.le_of_ble_eq_true rfl) dX0_insertUpward_27 (kkP (fun C27 r27 hr27 h => ?_))
      refine r_astore hK dX0_insertUpward_30 (by rw [hN]; decide) rfl (lv' := [some (.ref (gA g 2)), none, none, some (.int (I (v3))), some (.int (I (v4))), some (.int (I (v5))), some (.ref (gA g (27 + r27)))]) rfl ?_
      refine r_aload_n hK dX0_insertUpward_32 rfl ?_
      refine r_getR (k := 2) (k' := (27 + 33)) hK cls_0 fl_RX0_14 (by decide) (by omega) rfl rfl dX0_insertUpward_33 ?_
      refine r_aload hK dX0_insertUpward_36 rfl ?_
      refine r_callV hK ck_X4_copyFrom im_X4_copyFrom sl_X4_copyFrom ml_RX0_73 (by omega) (c_X4_copyFrom (l := kL K) (g := g) (X := X) 33 r27 (by decide) hr27 C27 (wpO_bd h)) cls_4 (k := (27 + 33)) (by omega) (sh_page (by decide)) (As := [.ref (gA g (27 + r27))]) (st := []) rfl (Nat.le_of_ble_eq_true rfl) dX0_insertUpward_38 (kkV (fun C38 h => ?_))
      refine r_aload_n hK dX0_insertUpward_41 rfl ?_
      refine r_getR (k := 2) (k' := (27 + 33)) hK cls_0 fl_RX0_14 (by decide) (by omega) rfl rfl dX0_insertUpward_42 ?_
      refine r_iload_n hK dX0_insertUpward_45 rfl ?_
      refine r_aload_n hK dX0_insertUpward_46 rfl ?_
      refine r_getR (k := 2) (k' := (10 + 2 * 1)) hK cls_0 fl_RX0_23 (by decide) (by omega) rfl rfl dX0_insertUpward_47 ?_
      refine r_iload hK dX0_insertUpward_50 rfl ?_
      refine r_callV hK ck_X4_insert im_X4_insert sl_X4_insert ml_RX0_76 (by omega) (c_X4_insert (l := kL K) (g := g) (X := X) 33 (v3) 1 (v4) (by decide) (by decide) C38 (wpO_bd h)) cls_4 (k := (27 + 33)) (by omega) (sh_page (by decide)) (As := [.int (I (v3)), .ref (gA g (10 + 2 * 1)), .int (I (v4))]) (st := []) rfl (Nat.le_of_ble_eq_true rfl) dX0_insertUpward_52 (kkV (fun C52 h => ?_))
      refine r_aload_n hK dX0_insertUpward_55 rfl ?_
      refine r_getR (k := 2) (k' := (27 + 33)) hK cls_0 fl_RX0_14 (by decide) (by omega) rfl rfl dX0_insertUpward_56 ?_
      refine r_callV hK ck_X4_used im_X4_used sl_X4_used ml_RX0_80 (by omega) (c_X4_used (l := kL K) (g := g) (X := X) 33 (by decide) C52 (wpO_bd h)) cls_4 (k := (27 + 33)) (by omega) (sh_page (by decide)) (As := []) (st := []) rfl (Nat.le_of_ble_eq_true rfl) dX0_insertUpward_59 (kkI (fun C59 r59 h => ?_))
      refine r_bipush hK dX0_insertUpward_62 (by decide) ?_
      refine r_icmp_gt hK dX0_insertUpward_64 (t := 77) (by decide) (wpO_lt h) (fun h => ?_) (fun h => ?_)
      · refine r_aload_n hK dX0_insertUpward_77 rfl ?_
        refine r_aload hK dX0_insertUpward_78 rfl ?_
        refine r_callV hK ck_X0_split im_X0_split sl_X0_split ml_RX0_84 (by omega) (c_X0_split (l := kL K) (g := g) (X := X) r27 hr27 C59 (wpO_bd h)) cls_0 (k := 2) (by omega) rfl (As := [.ref (gA g (27 + r27))]) (st := []) rfl (Nat.le_of_ble_eq_true rfl) dX0_insertUpward_80 (kkI (fun C80 r80 h => ?_))
        refine r_istore hK dX0_insertUpward_83 (by rw [hN]; decide) rfl (lv' := [some (.ref (gA g 2)), none, none, some (.int (I (v3))), some (.int (I (r80))), some (.int (I (v5))), some (.ref (gA g (27 + r27)))]) rfl ?_
        refine r_aload_n hK dX0_insertUpward_85 rfl ?_
        refine r_getR (k := 2) (k' := 1) hK cls_0 fl_RX0_30 (by decide) (by omega) rfl rfl dX0_insertUpward_86 ?_
        refine r_iload hK dX0_insertUpward_89 rfl ?_
        refine r_callV hK ck_X6_slotOn im_X6_slotOn sl_X6_slotOn ml_RX0_88 (by omega) (c_X6_slotOn (l := kL K) (g := g) (X := X) (v5) C80 (wpO_bd h)) cls_6 (k := 1) (by omega) rfl (As := [.int (I (v5))]) (st := []) rfl (Nat.le_of_ble_eq_true rfl) dX0_insertUpward_91 (kkI (fun C91 r91 h => ?_))
        refine r_istore_n hK dX0_insertUpward_94 (by rw [hN]; decide) rfl (lv' := [some (.ref (gA g 2)), none, none, some (.int (I (r91))), some (.int (I (r80))), some (.int (I (v5))), some (.ref (gA g (27 + r27)))]) rfl ?_
        refine r_iinc hK dX0_insertUpward_95 (by rw [hN]; decide) rfl rfl (lv' := [some (.ref (gA g 2)), none, none, some (.int (I (r91))), some (.int (I (r80))), some (.int (I (v5 + (-1)))), some (.ref (gA g (27 + r27)))]) rfl ?_
        refine r_goto hK dX0_insertUpward_98 (t := 16) (by decide) ?_
        refine r_cut [true, false, false, true, true, true, false] (lv' := [some (.ref (gA g 2)), none, none, some (.int (I (r91))), some (.int (I (r80))), some (.int (I (v5 + (-1)))), none]) rfl ?_
        exact ih (r91) (r80) (v5 + (-1)) C91 h
      · refine r_aload hK dX0_insertUpward_67 rfl ?_
        refine r_aload_n hK dX0_insertUpward_69 rfl ?_
        refine r_getR (k := 2) (k' := (27 + 33)) hK cls_0 fl_RX0_14 (by decide) (by omega) rfl rfl dX0_insertUpward_70 ?_
        refine r_callV hK ck_X4_copyFrom im_X4_copyFrom sl_X4_copyFrom ml_RX0_73 (by omega) (c_X4_copyFrom (l := kL K) (g := g) (X := X) r27 33 hr27 (by decide) C59 (wpO_bd h)) cls_4 (k := (27 + r27)) (by omega) (sh_page hr27) (As := [.ref (gA g (27 + 33))]) (st := []) rfl (Nat.le_of_ble_eq_true rfl) dX0_insertUpward_73 (kkV (fun C73 h => ?_))
        exact r_return hK hr hQ dX0_insertUpward_76 ⟨C73, rfl, rfl, wpO_some h⟩
set_option maxRecDepth 100000 in
set_option maxHeartbeats 4000000 in
theorem c_X0_insertUpward {l : Launch} {g : GT} {X : Mem} {Q : Mem → Int → Prop} (a1 : Int) (a2 : Int) (C : Mem) (h : wpO (f_X0_insertUpward a1 a2 C) Q) : MetC l yX0_insertUpward cX0_insertUpward 7 none 5 g [.ref (gA g 2), .int (I (a1)), .int (I (a2))] (mrg C X) (QV (fun c => mrg c X) Q) := by
  refine met_at 4 (lv := [some (.ref (gA g 2)), some (.int (I (a1))), some (.int (I (a2))), none, none, none, none]) (by decide) (Nat.le_of_ble_eq_true rfl) rfl rfl (fun K hK hN hr hQ => ?_)
  unfold f_X0_insertUpward at h
  refine r_iload_n hK dX0_insertUpward_0 rfl ?_
  refine r_istore_n hK dX0_insertUpward_1 (by rw [hN]; decide) rfl (lv' := [some (.ref (gA g 2)), some (.int (I (a1))), some (.int (I (a2))), some (.int (I (a1))), none, none, none]) rfl ?_
  refine r_iload_n hK dX0_insertUpward_2 rfl ?_
  refine r_istore hK dX0_insertUpward_3 (by rw [hN]; decide) rfl (lv' := [some (.ref (gA g 2)), some (.int (I (a1))), some (.int (I (a2))), some (.int (I (a1))), some (.int (I (a2))), none, none]) rfl ?_
  refine r_aload_n hK dX0_insertUpward_5 rfl ?_
  refine r_getR (k := 2) (k' := 1) hK cls_0 fl_RX0_30 (by decide) (by omega) rfl rfl dX0_insertUpward_6 ?_
  refine r_getIN (k := 1) hK cls_6 fl_RX0_40 (by decide) (by omega) rfl rfl dX0_insertUpward_9 (mrg_c (by omega)) ?_
  refine r_iconst hK dX0_insertUpward_12 ?_
  refine r_isub hK dX0_insertUpward_13 ?_
  refine r_istore hK dX0_insertUpward_14 (by rw [hN]; decide) rfl (lv' := [some (.ref (gA g 2)), some (.int (I (a1))), some (.int (I (a2))), some (.int (I (a1))), some (.int (I (a2))), some (.int (I ((C 1 5) - 1))), none]) rfl ?_
  refine r_cut [true, false, false, true, true, true, false] (lv' := [some (.ref (gA g 2)), none, none, some (.int (I (a1))), some (.int (I (a2))), some (.int (I ((C 1 5) - 1))), none]) rfl ?_
  refine w_X0_insertUpward_16 hK hN hr hQ (by omega) _ (fun v3_e16 v4_e16 v5_e16 C_e16 h => ?_) FU (a1) (a2) ((C 1 5) - 1) C h
  refine r_aload_n hK dX0_insertUpward_101 rfl ?_
  refine r_iload hK dX0_insertUpward_102 rfl ?_
  refine r_callV hK ck_X0_raiseRoot im_X0_raiseRoot sl_X0_raiseRoot ml_RX0_91 (by omega) (c_X0_raiseRoot (l := kL K) (g := g) (X := X) (v4_e16) C_e16 (wpO_bd h)) cls_0 (k := 2) (by omega) rfl (As := [.int (I (v4_e16))]) (st := []) rfl (Nat.le_of_ble_eq_true rfl) dX0_insertUpward_104 (kkV (fun C104 h => ?_))
  exact r_return hK hr hQ dX0_insertUpward_107 ⟨C104, rfl, rfl, wpO_some h⟩
set_option maxRecDepth 100000 in
set_option maxHeartbeats 4000000 in
theorem c_X0_putKey {l : Launch} {g : GT} {X : Mem} {Q : Mem → Int → Prop} (a1 : Nat) (a2 : Int) (ha1 : a1 < 5) (C : Mem) (h : wpO (f_X0_putKey a1 a2 C) Q) : MetC l yX0_putKey cX0_putKey 6 (some .int) 6 g [.ref (gA g 2), .ref (gA g (10 + 2 * a1)), .int (I (a2))] (mrg C X) (QI (fun c => mrg c X) Q) := by
  refine met_at 3 (lv := [some (.ref (gA g 2)), some (.ref (gA g (10 + 2 * a1))), some (.int (I (a2))), none, none, none]) (by decide) (Nat.le_of_ble_eq_true rfl) rfl rfl (fun K hK hN hr hQ => ?_)
  unfold f_X0_putKey at h
  refine r_aload_n hK dX0_putKey_0 rfl ?_
  refine r_getR (k := 2) (k' := 1) hK cls_0 fl_RX0_30 (by decide) (by omega) rfl rfl dX0_putKey_1 ?_
  refine r_aload_n hK dX0_putKey_4 rfl ?_
  refine r_callV hK ck_X6_goDown im_X6_goDown sl_X6_goDown ml_RX0_34 (by omega) (c_X6_goDown (l := kL K) (g := g) (X := X) a1 ha1 C (wpO_bd h)) cls_6 (k := 1) (by omega) rfl (As := [.ref (gA g (10 + 2 * a1))]) (st := []) rfl (Nat.le_of_ble_eq_true rfl) dX0_putKey_5 (kkV (fun C5 h => ?_))
  refine r_aload_n hK dX0_putKey_8 rfl ?_
  refine r_getR (k := 2) (k' := 1) hK cls_0 fl_RX0_30 (by decide) (by omega) rfl rfl dX0_putKey_9 ?_
  refine r_aload_n hK dX0_putKey_12 rfl ?_
  refine r_getR (k := 2) (k' := 1) hK cls_0 fl_RX0_30 (by decide) (by omega) rfl rfl dX0_putKey_13 ?_
  refine r_getIN (k := 1) hK cls_6 fl_RX0_40 (by decide) (by omega) rfl rfl dX0_putKey_16 (mrg_c (by omega)) ?_
  refine r_iconst hK dX0_putKey_19 ?_
  refine r_isub hK dX0_putKey_20 ?_
  refine r_callV hK ck_X6_pageOn im_X6_pageOn sl_X6_pageOn ml_RX0_44 (by omega) (c_X6_pageOn (l := kL K) (g := g) (X := X) ((C5 1 5) - 1) C5 (wpO_bd h)) cls_6 (k := 1) (by omega) rfl (As := [.int (I ((C5 1 5) - 1))]) (st := []) rfl (Nat.le_of_ble_eq_true rfl) dX0_putKey_21 (kkP (fun C21 r21 hr21 h => ?_))
  refine r_astore_n hK dX0_putKey_24 (by rw [hN]; decide) rfl (lv' := [some (.ref (gA g 2)), some (.ref (gA g (10 + 2 * a1))), some (.int (I (a2))), some (.ref (gA g (27 + r21))), none, none]) rfl ?_
  refine r_aload_n hK dX0_putKey_25 rfl ?_
  refine r_aload_n hK dX0_putKey_26 rfl ?_
  refine r_iconst hK dX0_putKey_27 ?_
  refine r_callV hK ck_X4_entriesBelow im_X4_entriesBelow sl_X4_entriesBelow ml_RX0_48 (by omega) (c_X4_entriesBelow (l := kL K) (g := g) (X := X) r21 a1 (0) hr21 ha1 C21 (wpO_bd h)) cls_4 (k := (27 + r21)) (by omega) (sh_page hr21) (As := [.ref (gA g (10 + 2 * a1)), .int (I (0))]) (st := []) rfl (Nat.le_of_ble_eq_true rfl) dX0_putKey_28 (kkI (fun C28 r28 h => ?_))
  refine r_istore hK dX0_putKey_31 (by rw [hN]; decide) rfl (lv' := [some (.ref (gA g 2)), some (.ref (gA g (10 + 2 * a1))), some (.int (I (a2))), some (.ref (gA g (27 + r21))), some (.int (I (r28))), none]) rfl ?_
  refine r_aload_n hK dX0_putKey_33 rfl ?_
  refine r_iload hK dX0_putKey_34 rfl ?_
  refine r_aload_n hK dX0_putKey_36 rfl ?_
  refine r_callV hK ck_X4_isEntry im_X4_isEntry sl_X4_isEntry ml_RX0_52 (by omega) (c_X4_isEntry (l := kL K) (g := g) (X := X) r21 (r28) a1 hr21 ha1 C28 (wpO_bd h)) cls_4 (k := (27 + r21)) (by omega) (sh_page hr21) (As := [.int (I (r28)), .ref (gA g (10 + 2 * a1))]) (st := []) rfl (Nat.le_of_ble_eq_true rfl) dX0_putKey_37 (kkI (fun C37 r37 h => ?_))
  refine r_if_eq hK dX0_putKey_40 (t := 61) (by decide) (wpO_eq h) (fun h => ?_) (fun h => ?_)
  · refine r_aload_n hK dX0_putKey_61 rfl ?_
    refine r_getR (k := 2) (k' := 1) hK cls_0 fl_RX0_30 (by decide) (by omega) rfl rfl dX0_putKey_62 ?_
    refine r_iconst hK dX0_putKey_65 ?_
    refine r_callV hK ck_X6_pagesOfSort im_X6_pagesOfSort sl_X6_pagesOfSort ml_RX0_64 (by omega) (c_X6_pagesOfSort (l := kL K) (g := g) (X := X) (0) C37 (wpO_bd h)) cls_6 (k := 1) (by omega) rfl (As := [.int (I (0))]) (st := []) rfl (Nat.le_of_ble_eq_true rfl) dX0_putKey_66 (kkI (fun C66 r66 h => ?_))
    refine r_aload_n hK dX0_putKey_69 rfl ?_
    refine r_getR (k := 2) (k' := 1) hK cls_0 fl_RX0_30 (by decide) (by omega) rfl rfl dX0_putKey_70 ?_
    refine r_getIN (k := 1) hK cls_6 fl_RX0_40 (by decide) (by omega) rfl rfl dX0_putKey_73 (mrg_c (by omega)) ?_
    refine r_icmp_gt hK dX0_putKey_76 (t := 82) (by decide) (wpO_lt h) (fun h => ?_) (fun h => ?_)
    · refine r_aload_n hK dX0_putKey_82 rfl ?_
      refine r_getR (k := 2) (k' := (10 + 2 * 1)) hK cls_0 fl_RX0_23 (by decide) (by omega) rfl rfl dX0_putKey_83 ?_
      refine r_aload_n hK dX0_putKey_86 rfl ?_
      refine r_callV hK ck_X3_copyFrom im_X3_copyFrom sl_X3_copyFrom ml_RX0_67 (by omega) (c_X3_copyFrom (l := kL K) (g := g) (X := X) 1 a1 (by decide) ha1 C66 (wpO_bd h)) cls_3 (k := (10 + 2 * 1)) (by omega) (sh_key (by decide)) (As := [.ref (gA g (10 + 2 * a1))]) (st := []) rfl (Nat.le_of_ble_eq_true rfl) dX0_putKey_87 (kkV (fun C87 h => ?_))
      refine r_aload_n hK dX0_putKey_90 rfl ?_
      refine r_iload hK dX0_putKey_91 rfl ?_
      refine r_iload_n hK dX0_putKey_93 rfl ?_
      refine r_callV hK ck_X0_insertUpward im_X0_insertUpward sl_X0_insertUpward ml_RX0_70 (by omega) (c_X0_insertUpward (l := kL K) (g := g) (X := X) (r28) (a2) C87 (wpO_bd h)) cls_0 (k := 2) (by omega) rfl (As := [.int (I (r28)), .int (I (a2))]) (st := []) rfl (Nat.le_of_ble_eq_true rfl) dX0_putKey_94 (kkV (fun C94 h => ?_))
      refine r_bipush hK dX0_putKey_97 (by decide) ?_
      exact r_ireturn hK hr hQ rfl dX0_putKey_99 ⟨C94, (-9), rfl, rfl, wpO_some h⟩
    · refine r_bipush hK dX0_putKey_79 (by decide) ?_
      exact r_ireturn hK hr hQ rfl dX0_putKey_81 ⟨C66, (-3), rfl, rfl, wpO_some h⟩
  · refine r_aload_n hK dX0_putKey_43 rfl ?_
    refine r_iload hK dX0_putKey_44 rfl ?_
    refine r_callV hK ck_X4_tail im_X4_tail sl_X4_tail ml_RX0_56 (by omega) (c_X4_tail (l := kL K) (g := g) (X := X) r21 (r28) hr21 C37 (wpO_bd h)) cls_4 (k := (27 + r21)) (by omega) (sh_page hr21) (As := [.int (I (r28))]) (st := []) rfl (Nat.le_of_ble_eq_true rfl) dX0_putKey_46 (kkI (fun C46 r46 h => ?_))
    refine r_istore hK dX0_putKey_49 (by rw [hN]; decide) rfl (lv' := [some (.ref (gA g 2)), some (.ref (gA g (10 + 2 * a1))), some (.int (I (a2))), some (.ref (gA g (27 + r21))), some (.int (I (r28))), some (.int (I (r46)))]) rfl ?_
    refine r_aload_n hK dX0_putKey_51 rfl ?_
    refine r_iload hK dX0_putKey_52 rfl ?_
    refine r_iload_n hK dX0_putKey_54 rfl ?_
    refine r_callV hK ck_X4_setTail im_X4_setTail sl_X4_setTail ml_RX0_60 (by omega) (c_X4_setTail (l := kL K) (g := g) (X := X) r21 (r28) (a2) hr21 C46 (wpO_bd h)) cls_4 (k := (27 + r21)) (by omega) (sh_page hr21) (As := [.int (I (r28)), .int (I (a2))]) (st := []) rfl (Nat.le_of_ble_eq_true rfl) dX0_putKey_55 (kkV (fun C55 h => ?_))
    refine r_iload hK dX0_putKey_58 rfl ?_
    exact r_ireturn hK hr hQ rfl dX0_putKey_60 ⟨C55, r46, rfl, rfl, wpO_some h⟩
set_option maxRecDepth 100000 in
set_option maxHeartbeats 4000000 in
theorem c_X0_gather {l : Launch} {g : GT} {X : Mem} {Q : Mem → Int → Prop} (a1 : Nat) (a2 : Int) (a3 : Nat) (a4 : Nat) (ha1 : a1 < 34) (ha3 : a3 < 34) (ha4 : a4 < 34) (C : Mem) (h : wpO (f_X0_gather a1 a2 a3 a4 C) Q) : MetC l yX0_gather cX0_gather 5 none 3 g [.ref (gA g 2), .ref (gA g (27 + a1)), .int (I (a2)), .ref (gA g (27 + a3)), .ref (gA g (27 + a4))] (mrg C X) (QV (fun c => mrg c X) Q) := by
  refine met_at 0 (lv := [some (.ref (gA g 2)), some (.ref (gA g (27 + a1))), some (.int (I (a2))), some (.ref (gA g (27 + a3))), some (.ref (gA g (27 + a4)))]) (by decide) (Nat.le_of_ble_eq_true rfl) rfl rfl (fun K hK hN hr hQ => ?_)
  unfold f_X0_gather at h
  refine r_aload_n hK dX0_gather_0 rfl ?_
  refine r_getR (k := 2) (k' := (27 + 33)) hK cls_0 fl_RX0_14 (by decide) (by omega) rfl rfl dX0_gather_1 ?_
  refine r_aload_n hK dX0_gather_4 rfl ?_
  refine r_callV hK ck_X4_copyFrom im_X4_copyFrom sl_X4_copyFrom ml_RX0_73 (by omega) (c_X4_copyFrom (l := kL K) (g := g) (X := X) 33 a3 (by decide) ha3 C (wpO_bd h)) cls_4 (k := (27 + 33)) (by omega) (sh_page (by decide)) (As := [.ref (gA g (27 + a3))]) (st := []) rfl (Nat.le_of_ble_eq_true rfl) dX0_gather_5 (kkV (fun C5 h => ?_))
  refine r_aload_n hK dX0_gather_8 rfl ?_
  refine r_getR (k := 2) (k' := (27 + 33)) hK cls_0 fl_RX0_14 (by decide) (by omega) rfl rfl dX0_gather_9 ?_
  refine r_callV hK ck_X4_sort im_X4_sort sl_X4_sort ml_RX0_100 (by omega) (c_X4_sort (l := kL K) (g := g) (X := X) 33 (by decide) C5 (wpO_bd h)) cls_4 (k := (27 + 33)) (by omega) (sh_page (by decide)) (As := []) (st := []) rfl (Nat.le_of_ble_eq_true rfl) dX0_gather_12 (kkI (fun C12 r12 h => ?_))
  refine r_iconst hK dX0_gather_15 ?_
  refine r_jn (J := fun j51 => ∀ (C_51 : Mem), wpO (j51 C_51) Q → Wn K g (mrg C_51 X) 51 [some (.ref (gA g 2)), none, none, none, some (.ref (gA g (27 + a4)))] []) h ?_ ?_
  · intro C_51 h
    refine r_aload_n hK dX0_gather_51 rfl ?_
    refine r_getR (k := 2) (k' := (27 + 33)) hK cls_0 fl_RX0_14 (by decide) (by omega) rfl rfl dX0_gather_52 ?_
    refine r_aload hK dX0_gather_55 rfl ?_
    refine r_iconst hK dX0_gather_57 ?_
    refine r_aload hK dX0_gather_58 rfl ?_
    refine r_callV hK ck_X4_entries im_X4_entries sl_X4_entries ml_RX0_139 (by omega) (c_X4_entries (l := kL K) (g := g) (X := X) a4 ha4 C_51 (wpO_bd h)) cls_4 (k := (27 + a4)) (by omega) (sh_page ha4) (As := []) (st := [.int (I (0)), .ref (gA g (27 + a4)), .ref (gA g (27 + 33))]) rfl (Nat.le_of_ble_eq_true rfl) dX0_gather_60 (kkI (fun C60 r60 h => ?_))
    refine r_callV hK ck_X4_append im_X4_append sl_X4_append ml_RX0_135 (by omega) (c_X4_append (l := kL K) (g := g) (X := X) 33 a4 (0) (r60) (by decide) ha4 C60 (wpO_bd h)) cls_4 (k := (27 + 33)) (by omega) (sh_page (by decide)) (As := [.ref (gA g (27 + a4)), .int (I (0)), .int (I (r60))]) (st := []) rfl (Nat.le_of_ble_eq_true rfl) dX0_gather_63 (kkV (fun C63 h => ?_))
    exact r_return hK hr hQ dX0_gather_66 ⟨C63, rfl, rfl, wpO_some h⟩
  · intro hj51 h
    refine r_icmp_ne hK dX0_gather_16 (t := 51) (by decide) (wpO_eq h) (fun h => ?_) (fun h => ?_)
    · refine r_aload_n hK dX0_gather_19 rfl ?_
      refine r_iload_n hK dX0_gather_20 rfl ?_
      refine r_aload_n hK dX0_gather_21 rfl ?_
      refine r_getR (k := 2) (k' := (10 + 2 * 1)) hK cls_0 fl_RX0_23 (by decide) (by omega) rfl rfl dX0_gather_22 ?_
      refine r_callV hK ck_X4_readKey im_X4_readKey sl_X4_readKey ml_RX0_128 (by omega) (c_X4_readKey (l := kL K) (g := g) (X := X) a1 (a2) 1 ha1 (by decide) C12 (wpO_bd h)) cls_4 (k := (27 + a1)) (by omega) (sh_page ha1) (As := [.int (I (a2)), .ref (gA g (10 + 2 * 1))]) (st := []) rfl (Nat.le_of_ble_eq_true rfl) dX0_gather_25 (kkV (fun C25 h => ?_))
      refine r_aload_n hK dX0_gather_28 rfl ?_
      refine r_getR (k := 2) (k' := (27 + 33)) hK cls_0 fl_RX0_14 (by decide) (by omega) rfl rfl dX0_gather_29 ?_
      refine r_aload_n hK dX0_gather_32 rfl ?_
      refine r_getR (k := 2) (k' := (27 + 33)) hK cls_0 fl_RX0_14 (by decide) (by omega) rfl rfl dX0_gather_33 ?_
      refine r_callV hK ck_X4_entries im_X4_entries sl_X4_entries ml_RX0_139 (by omega) (c_X4_entries (l := kL K) (g := g) (X := X) 33 (by decide) C25 (wpO_bd h)) cls_4 (k := (27 + 33)) (by omega) (sh_page (by decide)) (As := []) (st := [.ref (gA g (27 + 33))]) rfl (Nat.le_of_ble_eq_true rfl) dX0_gather_36 (kkI (fun C36 r36 h => ?_))
      refine r_aload_n hK dX0_gather_39 rfl ?_
      refine r_getR (k := 2) (k' := (10 + 2 * 1)) hK cls_0 fl_RX0_23 (by decide) (by omega) rfl rfl dX0_gather_40 ?_
      refine r_aload hK dX0_gather_43 rfl ?_
      refine r_callV hK ck_X4_link im_X4_link sl_X4_link ml_RX0_103 (by omega) (c_X4_link (l := kL K) (g := g) (X := X) a4 ha4 C36 (wpO_bd h)) cls_4 (k := (27 + a4)) (by omega) (sh_page ha4) (As := []) (st := [.ref (gA g (10 + 2 * 1)), .int (I (r36)), .ref (gA g (27 + 33))]) rfl (Nat.le_of_ble_eq_true rfl) dX0_gather_45 (kkI (fun C45 r45 h => ?_))
      refine r_callV hK ck_X4_insert im_X4_insert sl_X4_insert ml_RX0_76 (by omega) (c_X4_insert (l := kL K) (g := g) (X := X) 33 (r36) 1 (r45) (by decide) (by decide) C45 (wpO_bd h)) cls_4 (k := (27 + 33)) (by omega) (sh_page (by decide)) (As := [.int (I (r36)), .ref (gA g (10 + 2 * 1)), .int (I (r45))]) (st := []) rfl (Nat.le_of_ble_eq_true rfl) dX0_gather_48 (kkV (fun C48 h => ?_))
      refine r_cut [true, false, false, false, true] (lv' := [some (.ref (gA g 2)), none, none, none, some (.ref (gA g (27 + a4)))]) rfl ?_
      exact hj51 C48 h
    · refine r_cut [true, false, false, false, true] (lv' := [some (.ref (gA g 2)), none, none, none, some (.ref (gA g (27 + a4)))]) rfl ?_
      exact hj51 C12 h
set_option maxRecDepth 100000 in
set_option maxHeartbeats 4000000 in
theorem c_X0_join {l : Launch} {g : GT} {X : Mem} {Q : Mem → Int → Prop} (a1 : Nat) (a2 : Nat) (ha1 : a1 < 34) (ha2 : a2 < 34) (C : Mem) (h : wpO (f_X0_join a1 a2 C) Q) : MetC l yX0_join cX0_join 3 none 3 g [.ref (gA g 2), .ref (gA g (27 + a1)), .ref (gA g (27 + a2))] (mrg C X) (QV (fun c => mrg c X) Q) := by
  refine met_at 0 (lv := [some (.ref (gA g 2)), some (.ref (gA g (27 + a1))), some (.ref (gA g (27 + a2)))]) (by decide) (Nat.le_of_ble_eq_true rfl) rfl rfl (fun K hK hN hr hQ => ?_)
  unfold f_X0_join at h
  refine r_aload_n hK dX0_join_0 rfl ?_
  refine r_aload_n hK dX0_join_1 rfl ?_
  refine r_getR (k := 2) (k' := (27 + 33)) hK cls_0 fl_RX0_14 (by decide) (by omega) rfl rfl dX0_join_2 ?_
  refine r_callV hK ck_X4_copyFrom im_X4_copyFrom sl_X4_copyFrom ml_RX0_73 (by omega) (c_X4_copyFrom (l := kL K) (g := g) (X := X) a1 33 ha1 (by decide) C (wpO_bd h)) cls_4 (k := (27 + a1)) (by omega) (sh_page ha1) (As := [.ref (gA g (27 + 33))]) (st := []) rfl (Nat.le_of_ble_eq_true rfl) dX0_join_5 (kkV (fun C5 h => ?_))
  refine r_aload_n hK dX0_join_8 rfl ?_
  refine r_getR (k := 2) (k' := (27 + 33)) hK cls_0 fl_RX0_14 (by decide) (by omega) rfl rfl dX0_join_9 ?_
  refine r_callV hK ck_X4_sort im_X4_sort sl_X4_sort ml_RX0_100 (by omega) (c_X4_sort (l := kL K) (g := g) (X := X) 33 (by decide) C5 (wpO_bd h)) cls_4 (k := (27 + 33)) (by omega) (sh_page (by decide)) (As := []) (st := []) rfl (Nat.le_of_ble_eq_true rfl) dX0_join_12 (kkI (fun C12 r12 h => ?_))
  refine r_iconst hK dX0_join_15 ?_
  refine r_jn (J := fun j27 => ∀ (C_27 : Mem), wpO (j27 C_27) Q → Wn K g (mrg C_27 X) 27 [some (.ref (gA g 2)), none, some (.ref (gA g (27 + a2)))] []) h ?_ ?_
  · intro C_27 h
    refine r_aload_n hK dX0_join_27 rfl ?_
    refine r_callV hK ck_X4_release im_X4_release sl_X4_release ml_RX0_166 (by omega) (c_X4_release (l := kL K) (g := g) (X := X) a2 ha2 C_27 (wpO_bd h)) cls_4 (k := (27 + a2)) (by omega) (sh_page ha2) (As := []) (st := []) rfl (Nat.le_of_ble_eq_true rfl) dX0_join_28 (kkV (fun C28 h => ?_))
    refine r_aload_n hK dX0_join_31 rfl ?_
    refine r_dup hK dX0_join_32 rfl ?_
    refine r_getI (k := 2) hK cls_0 fl_RX0_169 (by decide) (by omega) rfl rfl dX0_join_33 (mrg_c (by omega)) ?_
    refine r_iconst hK dX0_join_36 ?_
    refine r_iadd hK dX0_join_37 ?_
    refine r_put (k := 2) hK cls_0 fl_RX0_169 (by decide) (by omega) rfl rfl rfl rfl rfl dX0_join_38 (up_c (by omega)) ?_
    exact r_return hK hr hQ dX0_join_41 ⟨(up C28 2 5 ((C28 2 5) + 1)), rfl, rfl, wpO_some h⟩
  · intro hj27 h
    refine r_icmp_ne hK dX0_join_16 (t := 27) (by decide) (wpO_eq h) (fun h => ?_) (fun h => ?_)
    · refine r_aload_n hK dX0_join_19 rfl ?_
      refine r_aload_n hK dX0_join_20 rfl ?_
      refine r_callV hK ck_X4_link im_X4_link sl_X4_link ml_RX0_103 (by omega) (c_X4_link (l := kL K) (g := g) (X := X) a2 ha2 C12 (wpO_bd h)) cls_4 (k := (27 + a2)) (by omega) (sh_page ha2) (As := []) (st := [.ref (gA g (27 + a1))]) rfl (Nat.le_of_ble_eq_true rfl) dX0_join_21 (kkI (fun C21 r21 h => ?_))
      refine r_callV hK ck_X4_setLink im_X4_setLink sl_X4_setLink ml_RX0_106 (by omega) (c_X4_setLink (l := kL K) (g := g) (X := X) a1 (r21) ha1 C21 (wpO_bd h)) cls_4 (k := (27 + a1)) (by omega) (sh_page ha1) (As := [.int (I (r21))]) (st := []) rfl (Nat.le_of_ble_eq_true rfl) dX0_join_24 (kkV (fun C24 h => ?_))
      refine r_cut [true, false, true] (lv' := [some (.ref (gA g 2)), none, some (.ref (gA g (27 + a2)))]) rfl ?_
      exact hj27 C24 h
    · refine r_cut [true, false, true] (lv' := [some (.ref (gA g 2)), none, some (.ref (gA g (27 + a2)))]) rfl ?_
      exact hj27 C12 h
set_option maxRecDepth 100000 in
set_option maxHeartbeats 4000000 in
theorem c_X0_shareAnew {l : Launch} {g : GT} {X : Mem} {Q : Mem → Int → Prop} (a1 : Nat) (a2 : Int) (a3 : Nat) (a4 : Nat) (ha1 : a1 < 34) (ha3 : a3 < 34) (ha4 : a4 < 34) (C : Mem) (h : wpO (f_X0_shareAnew a1 a2 a3 a4 C) Q) : MetC l yX0_shareAnew cX0_shareAnew 7 none 4 g [.ref (gA g 2), .ref (gA g (27 + a1)), .int (I (a2)), .ref (gA g (27 + a3)), .ref (gA g (27 + a4))] (mrg C X) (QV (fun c => mrg c X) Q) := by
  refine met_at 2 (lv := [some (.ref (gA g 2)), some (.ref (gA g (27 + a1))), some (.int (I (a2))), some (.ref (gA g (27 + a3))), some (.ref (gA g (27 + a4))), none, none]) (by decide) (Nat.le_of_ble_eq_true rfl) rfl rfl (fun K hK hN hr hQ => ?_)
  unfold f_X0_shareAnew at h
  refine r_aload_n hK dX0_shareAnew_0 rfl ?_
  refine r_getR (k := 2) (k' := (27 + 33)) hK cls_0 fl_RX0_14 (by decide) (by omega) rfl rfl dX0_shareAnew_1 ?_
  refine r_callV hK ck_X4_half im_X4_half sl_X4_half ml_RX0_109 (by omega) (c_X4_half (l := kL K) (g := g) (X := X) 33 (by decide) C (wpO_bd h)) cls_4 (k := (27 + 33)) (by omega) (sh_page (by decide)) (As := []) (st := []) rfl (Nat.le_of_ble_eq_true rfl) dX0_shareAnew_4 (kkI (fun C4 r4 h => ?_))
  refine r_istore hK dX0_shareAnew_7 (by rw [hN]; decide) rfl (lv' := [some (.ref (gA g 2)), some (.ref (gA g (27 + a1))), some (.int (I (a2))), some (.ref (gA g (27 + a3))), some (.ref (gA g (27 + a4))), some (.int (I (r4))), none]) rfl ?_
  refine r_aload_n hK dX0_shareAnew_9 rfl ?_
  refine r_iload hK dX0_shareAnew_10 rfl ?_
  refine r_callV hK ck_X0_readSeparator im_X0_readSeparator sl_X0_readSeparator ml_RX0_112 (by omega) (c_X0_readSeparator (l := kL K) (g := g) (X := X) (r4) C4 (wpO_bd h)) cls_0 (k := 2) (by omega) rfl (As := [.int (I (r4))]) (st := []) rfl (Nat.le_of_ble_eq_true rfl) dX0_shareAnew_12 (kkV (fun C12 h => ?_))
  refine r_aload_n hK dX0_shareAnew_15 rfl ?_
  refine r_callV hK ck_X4_used im_X4_used sl_X4_used ml_RX0_80 (by omega) (c_X4_used (l := kL K) (g := g) (X := X) a1 ha1 C12 (wpO_bd h)) cls_4 (k := (27 + a1)) (by omega) (sh_page ha1) (As := []) (st := []) rfl (Nat.le_of_ble_eq_true rfl) dX0_shareAnew_16 (kkI (fun C16 r16 h => ?_))
  refine r_aload_n hK dX0_shareAnew_19 rfl ?_
  refine r_iload_n hK dX0_shareAnew_20 rfl ?_
  refine r_callV hK ck_X4_letters im_X4_letters sl_X4_letters ml_RX0_172 (by omega) (c_X4_letters (l := kL K) (g := g) (X := X) a1 (a2) ha1 C16 (wpO_bd h)) cls_4 (k := (27 + a1)) (by omega) (sh_page ha1) (As := [.int (I (a2))]) (st := [.int (I (r16))]) rfl (Nat.le_of_ble_eq_true rfl) dX0_shareAnew_21 (kkI (fun C21 r21 h => ?_))
  refine r_isub hK dX0_shareAnew_24 ?_
  refine r_aload_n hK dX0_shareAnew_25 rfl ?_
  refine r_getR (k := 2) (k' := (10 + 2 * 1)) hK cls_0 fl_RX0_23 (by decide) (by omega) rfl rfl dX0_shareAnew_26 ?_
  refine r_getIN (k := (10 + 2 * 1)) hK cls_3 fl_RX0_175 (by decide) (by omega) (sh_key (by decide)) rfl dX0_shareAnew_29 (mrg_c (by omega)) ?_
  refine r_iadd hK dX0_shareAnew_32 ?_
  refine r_bipush hK dX0_shareAnew_33 (by decide) ?_
  refine r_icmp_le hK dX0_shareAnew_35 (t := 39) (by decide) (wpO_lt h) (fun h => ?_) (fun h => ?_)
  · exact r_return hK hr hQ dX0_shareAnew_38 ⟨C21, rfl, rfl, wpO_some h⟩
  · refine r_aload_n hK dX0_shareAnew_39 rfl ?_
    refine r_iload_n hK dX0_shareAnew_40 rfl ?_
    refine r_iconst hK dX0_shareAnew_41 ?_
    refine r_iadd hK dX0_shareAnew_42 ?_
    refine r_callV hK ck_X4_child im_X4_child sl_X4_child ml_RX0_152 (by omega) (c_X4_child (l := kL K) (g := g) (X := X) a1 (a2 + 1) ha1 C21 (wpO_bd h)) cls_4 (k := (27 + a1)) (by omega) (sh_page ha1) (As := [.int (I (a2 + 1))]) (st := []) rfl (Nat.le_of_ble_eq_true rfl) dX0_shareAnew_43 (kkI (fun C43 r43 h => ?_))
    refine r_istore hK dX0_shareAnew_46 (by rw [hN]; decide) rfl (lv' := [some (.ref (gA g 2)), some (.ref (gA g (27 + a1))), some (.int (I (a2))), some (.ref (gA g (27 + a3))), some (.ref (gA g (27 + a4))), some (.int (I (r4))), some (.int (I (r43)))]) rfl ?_
    refine r_aload_n hK dX0_shareAnew_48 rfl ?_
    refine r_iload_n hK dX0_shareAnew_49 rfl ?_
    refine r_callV hK ck_X4_remove im_X4_remove sl_X4_remove ml_RX0_142 (by omega) (c_X4_remove (l := kL K) (g := g) (X := X) a1 (a2) ha1 C43 (wpO_bd h)) cls_4 (k := (27 + a1)) (by omega) (sh_page ha1) (As := [.int (I (a2))]) (st := []) rfl (Nat.le_of_ble_eq_true rfl) dX0_shareAnew_50 (kkV (fun C50 h => ?_))
    refine r_aload_n hK dX0_shareAnew_53 rfl ?_
    refine r_iload_n hK dX0_shareAnew_54 rfl ?_
    refine r_aload_n hK dX0_shareAnew_55 rfl ?_
    refine r_getR (k := 2) (k' := (10 + 2 * 1)) hK cls_0 fl_RX0_23 (by decide) (by omega) rfl rfl dX0_shareAnew_56 ?_
    refine r_iload hK dX0_shareAnew_59 rfl ?_
    refine r_callV hK ck_X4_insert im_X4_insert sl_X4_insert ml_RX0_76 (by omega) (c_X4_insert (l := kL K) (g := g) (X := X) a1 (a2) 1 (r43) ha1 (by decide) C50 (wpO_bd h)) cls_4 (k := (27 + a1)) (by omega) (sh_page ha1) (As := [.int (I (a2)), .ref (gA g (10 + 2 * 1)), .int (I (r43))]) (st := []) rfl (Nat.le_of_ble_eq_true rfl) dX0_shareAnew_61 (kkV (fun C61 h => ?_))
    refine r_aload_n hK dX0_shareAnew_64 rfl ?_
    refine r_iload hK dX0_shareAnew_65 rfl ?_
    refine r_aload_n hK dX0_shareAnew_67 rfl ?_
    refine r_aload hK dX0_shareAnew_68 rfl ?_
    refine r_callV hK ck_X0_deal im_X0_deal sl_X0_deal ml_RX0_115 (by omega) (c_X0_deal (l := kL K) (g := g) (X := X) (r4) a3 a4 ha3 ha4 C61 (wpO_bd h)) cls_0 (k := 2) (by omega) rfl (As := [.int (I (r4)), .ref (gA g (27 + a3)), .ref (gA g (27 + a4))]) (st := []) rfl (Nat.le_of_ble_eq_true rfl) dX0_shareAnew_70 (kkV (fun C70 h => ?_))
    refine r_aload_n hK dX0_shareAnew_73 rfl ?_
    refine r_dup hK dX0_shareAnew_74 rfl ?_
    refine r_getI (k := 2) hK cls_0 fl_RX0_178 (by decide) (by omega) rfl rfl dX0_shareAnew_75 (mrg_c (by omega)) ?_
    refine r_iconst hK dX0_shareAnew_78 ?_
    refine r_iadd hK dX0_shareAnew_79 ?_
    refine r_put (k := 2) hK cls_0 fl_RX0_178 (by decide) (by omega) rfl rfl rfl rfl rfl dX0_shareAnew_80 (up_c (by omega)) ?_
    exact r_return hK hr hQ dX0_shareAnew_83 ⟨(up C70 2 6 ((C70 2 6) + 1)), rfl, rfl, wpO_some h⟩
set_option maxRecDepth 100000 in
set_option maxHeartbeats 4000000 in
theorem c_X0_mend {l : Launch} {g : GT} {X : Mem} {Q : Mem → Int → Prop} (a1 : Int) (C : Mem) (h : wpO (f_X0_mend a1 C) Q) : MetC l yX0_mend cX0_mend 7 (some .boolean) 5 g [.ref (gA g 2), .int (I (a1))] (mrg C X) (QI (fun c => mrg c X) Q) := by
  refine met_at 5 (lv := [some (.ref (gA g 2)), some (.int (I (a1))), none, none, none, none, none]) (by decide) (Nat.le_of_ble_eq_true rfl) rfl rfl (fun K hK hN hr hQ => ?_)
  unfold f_X0_mend at h
  refine r_aload_n hK dX0_mend_0 rfl ?_
  refine r_getR (k := 2) (k' := 1) hK cls_0 fl_RX0_30 (by decide) (by omega) rfl rfl dX0_mend_1 ?_
  refine r_iload_n hK dX0_mend_4 rfl ?_
  refine r_iconst hK dX0_mend_5 ?_
  refine r_isub hK dX0_mend_6 ?_
  refine r_callV hK ck_X6_pageOn im_X6_pageOn sl_X6_pageOn ml_RX0_44 (by omega) (c_X6_pageOn (l := kL K) (g := g) (X := X) (a1 - 1) C (wpO_bd h)) cls_6 (k := 1) (by omega) rfl (As := [.int (I (a1 - 1))]) (st := []) rfl (Nat.le_of_ble_eq_true rfl) dX0_mend_7 (kkP (fun C7 r7 hr7 h => ?_))
  refine r_astore_n hK dX0_mend_10 (by rw [hN]; decide) rfl (lv' := [some (.ref (gA g 2)), some (.int (I (a1))), some (.ref (gA g (27 + r7))), none, none, none, none]) rfl ?_
  refine r_aload_n hK dX0_mend_11 rfl ?_
  refine r_getR (k := 2) (k' := 1) hK cls_0 fl_RX0_30 (by decide) (by omega) rfl rfl dX0_mend_12 ?_
  refine r_iload_n hK dX0_mend_15 rfl ?_
  refine r_callV hK ck_X6_slotOn im_X6_slotOn sl_X6_slotOn ml_RX0_88 (by omega) (c_X6_slotOn (l := kL K) (g := g) (X := X) (a1) C7 (wpO_bd h)) cls_6 (k := 1) (by omega) rfl (As := [.int (I (a1))]) (st := []) rfl (Nat.le_of_ble_eq_true rfl) dX0_mend_16 (kkI (fun C16 r16 h => ?_))
  refine r_istore_n hK dX0_mend_19 (by rw [hN]; decide) rfl (lv' := [some (.ref (gA g 2)), some (.int (I (a1))), some (.ref (gA g (27 + r7))), some (.int (I (r16))), none, none, none]) rfl ?_
  refine r_iload_n hK dX0_mend_20 rfl ?_
  refine r_aload_n hK dX0_mend_21 rfl ?_
  refine r_callV hK ck_X4_entries im_X4_entries sl_X4_entries ml_RX0_139 (by omega) (c_X4_entries (l := kL K) (g := g) (X := X) r7 hr7 C16 (wpO_bd h)) cls_4 (k := (27 + r7)) (by omega) (sh_page hr7) (As := []) (st := [.int (I (r16))]) rfl (Nat.le_of_ble_eq_true rfl) dX0_mend_22 (kkI (fun C22 r22 h => ?_))
  refine r_jn (J := fun j35 => ∀ (s0_35 : Int), wpO (j35 s0_35) Q → Wn K g (mrg C22 X) 35 [some (.ref (gA g 2)), none, some (.ref (gA g (27 + r7))), none, none, none, none] [.int (I (s0_35))]) h ?_ ?_
  · intro s0_35 h
    refine r_istore hK dX0_mend_35 (by rw [hN]; decide) rfl (lv' := [some (.ref (gA g 2)), none, some (.ref (gA g (27 + r7))), none, some (.int (I (s0_35))), none, none]) rfl ?_
    refine r_iload hK dX0_mend_37 rfl ?_
    refine r_if_ge hK dX0_mend_39 (t := 44) (by decide) (wpO_lt h) (fun h => ?_) (fun h => ?_)
    · refine r_iconst hK dX0_mend_42 ?_
      exact r_ireturn hK hr hQ (nar_b (by decide)) dX0_mend_43 ⟨C22, 0, rfl, rfl, wpO_some h⟩
    · refine r_aload_n hK dX0_mend_44 rfl ?_
      refine r_getR (k := 2) (k' := 1) hK cls_0 fl_RX0_30 (by decide) (by omega) rfl rfl dX0_mend_45 ?_
      refine r_aload_n hK dX0_mend_48 rfl ?_
      refine r_iload hK dX0_mend_49 rfl ?_
      refine r_callV hK ck_X4_child im_X4_child sl_X4_child ml_RX0_152 (by omega) (c_X4_child (l := kL K) (g := g) (X := X) r7 (s0_35) hr7 C22 (wpO_bd h)) cls_4 (k := (27 + r7)) (by omega) (sh_page hr7) (As := [.int (I (s0_35))]) (st := [.ref (gA g 1)]) rfl (Nat.le_of_ble_eq_true rfl) dX0_mend_51 (kkI (fun C51 r51 h => ?_))
      refine r_callV hK ck_X6_pageOf im_X6_pageOf sl_X6_pageOf ml_RX0_97 (by omega) (c_X6_pageOf (l := kL K) (g := g) (X := X) (r51) C51 (wpO_bd h)) cls_6 (k := 1) (by omega) rfl (As := [.int (I (r51))]) (st := []) rfl (Nat.le_of_ble_eq_true rfl) dX0_mend_54 (kkP (fun C54 r54 hr54 h => ?_))
      refine r_astore hK dX0_mend_57 (by rw [hN]; decide) rfl (lv' := [some (.ref (gA g 2)), none, some (.ref (gA g (27 + r7))), none, some (.int (I (s0_35))), some (.ref (gA g (27 + r54))), none]) rfl ?_
      refine r_aload_n hK dX0_mend_59 rfl ?_
      refine r_getR (k := 2) (k' := 1) hK cls_0 fl_RX0_30 (by decide) (by omega) rfl rfl dX0_mend_60 ?_
      refine r_aload_n hK dX0_mend_63 rfl ?_
      refine r_iload hK dX0_mend_64 rfl ?_
      refine r_iconst hK dX0_mend_66 ?_
      refine r_iadd hK dX0_mend_67 ?_
      refine r_callV hK ck_X4_child im_X4_child sl_X4_child ml_RX0_152 (by omega) (c_X4_child (l := kL K) (g := g) (X := X) r7 (s0_35 + 1) hr7 C54 (wpO_bd h)) cls_4 (k := (27 + r7)) (by omega) (sh_page hr7) (As := [.int (I (s0_35 + 1))]) (st := [.ref (gA g 1)]) rfl (Nat.le_of_ble_eq_true rfl) dX0_mend_68 (kkI (fun C68 r68 h => ?_))
      refine r_callV hK ck_X6_pageOf im_X6_pageOf sl_X6_pageOf ml_RX0_97 (by omega) (c_X6_pageOf (l := kL K) (g := g) (X := X) (r68) C68 (wpO_bd h)) cls_6 (k := 1) (by omega) rfl (As := [.int (I (r68))]) (st := []) rfl (Nat.le_of_ble_eq_true rfl) dX0_mend_71 (kkP (fun C71 r71 hr71 h => ?_))
      refine r_astore hK dX0_mend_74 (by rw [hN]; decide) rfl (lv' := [some (.ref (gA g 2)), none, some (.ref (gA g (27 + r7))), none, some (.int (I (s0_35))), some (.ref (gA g (27 + r54))), some (.ref (gA g (27 + r71)))]) rfl ?_
      refine r_aload_n hK dX0_mend_76 rfl ?_
      refine r_aload_n hK dX0_mend_77 rfl ?_
      refine r_iload hK dX0_mend_78 rfl ?_
      refine r_aload hK dX0_mend_80 rfl ?_
      refine r_aload hK dX0_mend_82 rfl ?_
      refine r_callV hK ck_X0_gather im_X0_gather sl_X0_gather ml_RX0_155 (by omega) (c_X0_gather (l := kL K) (g := g) (X := X) r7 (s0_35) r54 r71 hr7 hr54 hr71 C71 (wpO_bd h)) cls_0 (k := 2) (by omega) rfl (As := [.ref (gA g (27 + r7)), .int (I (s0_35)), .ref (gA g (27 + r54)), .ref (gA g (27 + r71))]) (st := []) rfl (Nat.le_of_ble_eq_true rfl) dX0_mend_84 (kkV (fun C84 h => ?_))
      refine r_aload_n hK dX0_mend_87 rfl ?_
      refine r_getR (k := 2) (k' := (27 + 33)) hK cls_0 fl_RX0_14 (by decide) (by omega) rfl rfl dX0_mend_88 ?_
      refine r_callV hK ck_X4_used im_X4_used sl_X4_used ml_RX0_80 (by omega) (c_X4_used (l := kL K) (g := g) (X := X) 33 (by decide) C84 (wpO_bd h)) cls_4 (k := (27 + 33)) (by omega) (sh_page (by decide)) (As := []) (st := []) rfl (Nat.le_of_ble_eq_true rfl) dX0_mend_91 (kkI (fun C91 r91 h => ?_))
      refine r_bipush hK dX0_mend_94 (by decide) ?_
      refine r_icmp_gt hK dX0_mend_96 (t := 115) (by decide) (wpO_lt h) (fun h => ?_) (fun h => ?_)
      · refine r_aload_n hK dX0_mend_115 rfl ?_
        refine r_aload_n hK dX0_mend_116 rfl ?_
        refine r_iload hK dX0_mend_117 rfl ?_
        refine r_aload hK dX0_mend_119 rfl ?_
        refine r_aload hK dX0_mend_121 rfl ?_
        refine r_callV hK ck_X0_shareAnew im_X0_shareAnew sl_X0_shareAnew ml_RX0_163 (by omega) (c_X0_shareAnew (l := kL K) (g := g) (X := X) r7 (s0_35) r54 r71 hr7 hr54 hr71 C91 (wpO_bd h)) cls_0 (k := 2) (by omega) rfl (As := [.ref (gA g (27 + r7)), .int (I (s0_35)), .ref (gA g (27 + r54)), .ref (gA g (27 + r71))]) (st := []) rfl (Nat.le_of_ble_eq_true rfl) dX0_mend_123 (kkV (fun C123 h => ?_))
        refine r_iconst hK dX0_mend_126 ?_
        exact r_ireturn hK hr hQ (nar_b (by decide)) dX0_mend_127 ⟨C123, 0, rfl, rfl, wpO_some h⟩
      · refine r_aload_n hK dX0_mend_99 rfl ?_
        refine r_aload hK dX0_mend_100 rfl ?_
        refine r_aload hK dX0_mend_102 rfl ?_
        refine r_callV hK ck_X0_join im_X0_join sl_X0_join ml_RX0_159 (by omega) (c_X0_join (l := kL K) (g := g) (X := X) r54 r71 hr54 hr71 C91 (wpO_bd h)) cls_0 (k := 2) (by omega) rfl (As := [.ref (gA g (27 + r54)), .ref (gA g (27 + r71))]) (st := []) rfl (Nat.le_of_ble_eq_true rfl) dX0_mend_104 (kkV (fun C104 h => ?_))
        refine r_aload_n hK dX0_mend_107 rfl ?_
        refine r_iload hK dX0_mend_108 rfl ?_
        refine r_callV hK ck_X4_remove im_X4_remove sl_X4_remove ml_RX0_142 (by omega) (c_X4_remove (l := kL K) (g := g) (X := X) r7 (s0_35) hr7 C104 (wpO_bd h)) cls_4 (k := (27 + r7)) (by omega) (sh_page hr7) (As := [.int (I (s0_35))]) (st := []) rfl (Nat.le_of_ble_eq_true rfl) dX0_mend_110 (kkV (fun C110 h => ?_))
        refine r_iconst hK dX0_mend_113 ?_
        exact r_ireturn hK hr hQ (nar_b (by decide)) dX0_mend_114 ⟨C110, 1, rfl, rfl, wpO_some h⟩
  · intro hj35 h
    refine r_icmp_ge hK dX0_mend_25 (t := 32) (by decide) (wpO_lt h) (fun h => ?_) (fun h => ?_)
    · refine r_iload_n hK dX0_mend_28 rfl ?_
      refine r_goto hK dX0_mend_29 (t := 35) (by decide) ?_
      refine r_cut [true, false, true, false, false, false, false] (lv' := [some (.ref (gA g 2)), none, some (.ref (gA g (27 + r7))), none, none, none, none]) rfl ?_
      exact hj35 (r16) h
    · refine r_iload_n hK dX0_mend_32 rfl ?_
      refine r_iconst hK dX0_mend_33 ?_
      refine r_isub hK dX0_mend_34 ?_
      refine r_cut [true, false, true, false, false, false, false] (lv' := [some (.ref (gA g 2)), none, some (.ref (gA g (27 + r7))), none, none, none, none]) rfl ?_
      exact hj35 (r16 - 1) h
set_option maxRecDepth 100000 in
set_option maxHeartbeats 4000000 in
theorem c_X0_lowerRoot {l : Launch} {g : GT} {X : Mem} {Q : Mem → Int → Prop} (C : Mem) (h : wpO (f_X0_lowerRoot C) Q) : MetC l yX0_lowerRoot cX0_lowerRoot 2 none 3 g [.ref (gA g 2)] (mrg C X) (QV (fun c => mrg c X) Q) := by
  refine met_at 1 (lv := [some (.ref (gA g 2)), none]) (by decide) (Nat.le_of_ble_eq_true rfl) rfl rfl (fun K hK hN hr hQ => ?_)
  unfold f_X0_lowerRoot at h
  refine r_aload_n hK dX0_lowerRoot_0 rfl ?_
  refine r_getR (k := 2) (k' := 1) hK cls_0 fl_RX0_30 (by decide) (by omega) rfl rfl dX0_lowerRoot_1 ?_
  refine r_aload_n hK dX0_lowerRoot_4 rfl ?_
  refine r_getR (k := 2) (k' := 1) hK cls_0 fl_RX0_30 (by decide) (by omega) rfl rfl dX0_lowerRoot_5 ?_
  refine r_getIN (k := 1) hK cls_6 fl_RX0_122 (by decide) (by omega) rfl rfl dX0_lowerRoot_8 (mrg_c (by omega)) ?_
  refine r_callV hK ck_X6_pageOf im_X6_pageOf sl_X6_pageOf ml_RX0_97 (by omega) (c_X6_pageOf (l := kL K) (g := g) (X := X) (C 1 4) C (wpO_bd h)) cls_6 (k := 1) (by omega) rfl (As := [.int (I (C 1 4))]) (st := []) rfl (Nat.le_of_ble_eq_true rfl) dX0_lowerRoot_11 (kkP (fun C11 r11 hr11 h => ?_))
  refine r_astore_n hK dX0_lowerRoot_14 (by rw [hN]; decide) rfl (lv' := [some (.ref (gA g 2)), some (.ref (gA g (27 + r11)))]) rfl ?_
  refine r_aload_n hK dX0_lowerRoot_15 rfl ?_
  refine r_callV hK ck_X4_sort im_X4_sort sl_X4_sort ml_RX0_100 (by omega) (c_X4_sort (l := kL K) (g := g) (X := X) r11 hr11 C11 (wpO_bd h)) cls_4 (k := (27 + r11)) (by omega) (sh_page hr11) (As := []) (st := []) rfl (Nat.le_of_ble_eq_true rfl) dX0_lowerRoot_16 (kkI (fun C16 r16 h => ?_))
  refine r_iconst hK dX0_lowerRoot_19 ?_
  refine r_icmp_ne hK dX0_lowerRoot_20 (t := 58) (by decide) (wpO_eq h) (fun h => ?_) (fun h => ?_)
  · refine r_aload_n hK dX0_lowerRoot_23 rfl ?_
    refine r_callV hK ck_X4_entries im_X4_entries sl_X4_entries ml_RX0_139 (by omega) (c_X4_entries (l := kL K) (g := g) (X := X) r11 hr11 C16 (wpO_bd h)) cls_4 (k := (27 + r11)) (by omega) (sh_page hr11) (As := []) (st := []) rfl (Nat.le_of_ble_eq_true rfl) dX0_lowerRoot_24 (kkI (fun C24 r24 h => ?_))
    refine r_if_ne hK dX0_lowerRoot_27 (t := 58) (by decide) (wpO_eq h) (fun h => ?_) (fun h => ?_)
    · refine r_aload_n hK dX0_lowerRoot_30 rfl ?_
      refine r_getR (k := 2) (k' := 1) hK cls_0 fl_RX0_30 (by decide) (by omega) rfl rfl dX0_lowerRoot_31 ?_
      refine r_aload_n hK dX0_lowerRoot_34 rfl ?_
      refine r_callV hK ck_X4_link im_X4_link sl_X4_link ml_RX0_103 (by omega) (c_X4_link (l := kL K) (g := g) (X := X) r11 hr11 C24 (wpO_bd h)) cls_4 (k := (27 + r11)) (by omega) (sh_page hr11) (As := []) (st := [.ref (gA g 1)]) rfl (Nat.le_of_ble_eq_true rfl) dX0_lowerRoot_35 (kkI (fun C35 r35 h => ?_))
      refine r_putN (k := 1) hK cls_6 fl_RX0_122 (by decide) (by omega) rfl rfl rfl rfl rfl dX0_lowerRoot_38 (up_c (by omega)) ?_
      refine r_aload_n hK dX0_lowerRoot_41 rfl ?_
      refine r_getR (k := 2) (k' := 1) hK cls_0 fl_RX0_30 (by decide) (by omega) rfl rfl dX0_lowerRoot_42 ?_
      refine r_dup hK dX0_lowerRoot_45 rfl ?_
      refine r_getIN (k := 1) hK cls_6 fl_RX0_40 (by decide) (by omega) rfl rfl dX0_lowerRoot_46 (mrg_c (by omega)) ?_
      refine r_iconst hK dX0_lowerRoot_49 ?_
      refine r_isub hK dX0_lowerRoot_50 ?_
      refine r_putN (k := 1) hK cls_6 fl_RX0_40 (by decide) (by omega) rfl rfl rfl rfl rfl dX0_lowerRoot_51 (up_c (by omega)) ?_
      refine r_aload_n hK dX0_lowerRoot_54 rfl ?_
      refine r_callV hK ck_X4_release im_X4_release sl_X4_release ml_RX0_166 (by omega) (c_X4_release (l := kL K) (g := g) (X := X) r11 hr11 (up (up C35 1 4 (r35)) 1 5 (((up C35 1 4 (r35)) 1 5) - 1)) (wpO_bd h)) cls_4 (k := (27 + r11)) (by omega) (sh_page hr11) (As := []) (st := []) rfl (Nat.le_of_ble_eq_true rfl) dX0_lowerRoot_55 (kkV (fun C55 h => ?_))
      exact r_return hK hr hQ dX0_lowerRoot_58 ⟨C55, rfl, rfl, wpO_some h⟩
    · exact r_return hK hr hQ dX0_lowerRoot_58 ⟨C24, rfl, rfl, wpO_some h⟩
  · exact r_return hK hr hQ dX0_lowerRoot_58 ⟨C16, rfl, rfl, wpO_some h⟩
set_option maxRecDepth 100000 in
set_option maxHeartbeats 4000000 in
theorem w_X0_takeKey_67 {K : KT} {g : GT} {X : Mem} {dd : Nat} (hK : Kok K g cX0_takeKey RX0 dd) (hN : kN K = 6) (hr : (kMe K).sig.returnType = (some .int)) {Q : Mem → Int → Prop} (hQ : kQ K = MQ (kB K) (Qc g (QI (fun c => mrg c X) Q)) (kA K) (kS K) (kc K) (ks K) (gS g)) (hdd : 6 ≤ dd) (u4 : Int) (k : Int → Mem → Option (Mem × Int)) (hk : ∀ (v5 : Int) (C : Mem), wpO (k v5 C) Q → Wn K g (mrg C X) 104 [some (.ref (gA g 2)), none, none, none, some (.int (I (u4))), some (.int (I (v5)))] []) : ∀ (n : Nat) (v5 : Int) (C : Mem), wpO (f_X0_takeKey_67 u4 k n v5 C) Q → Wn K g (mrg C X) 67 [some (.ref (gA g 2)), none, none, none, some (.int (I (u4))), some (.int (I (v5)))] [] := by
  intro n
  induction n with
  | zero => intro v5 C h; exact (wpO_none h).elim
  | succ n ih =>
    intro v5 C h
    unfold f_X0_takeKey_67 at h
    refine r_iload hK dX0_takeKey_67 rfl ?_
    refine r_if_le hK dX0_takeKey_69 (t := 104) (by decide) (wpO_lt h) (fun h => ?_) (fun h => ?_)
    · refine r_aload_n hK dX0_takeKey_72 rfl ?_
      refine r_getR (k := 2) (k' := 1) hK cls_0 fl_RX0_30 (by decide) (by omega) rfl rfl dX0_takeKey_73 ?_
      refine r_iload hK dX0_takeKey_76 rfl ?_
      refine r_callV hK ck_X6_pageOn im_X6_pageOn sl_X6_pageOn ml_RX0_44 (by omega) (c_X6_pageOn (l := kL K) (g := g) (X := X) (v5) C (wpO_bd h)) cls_6 (k := 1) (by omega) rfl (As := [.int (I (v5))]) (st := []) rfl (Nat.le_of_ble_eq_true rfl) dX0_takeKey_78 (kkP (fun C78 r78 hr78 h => ?_))
      refine r_callV hK ck_X4_used im_X4_used sl_X4_used ml_RX0_80 (by omega) (c_X4_used (l := kL K) (g := g) (X := X) r78 hr78 C78 (wpO_bd h)) cls_4 (k := (27 + r78)) (by omega) (sh_page hr78) (As := []) (st := []) rfl (Nat.le_of_ble_eq_true rfl) dX0_takeKey_81 (kkI (fun C81 r81 h => ?_))
      refine r_bipush hK dX0_takeKey_84 (by decide) ?_
      refine r_icmp_ge hK dX0_takeKey_86 (t := 104) (by decide) (wpO_lt h) (fun h => ?_) (fun h => ?_)
      · refine r_aload_n hK dX0_takeKey_89 rfl ?_
        refine r_iload hK dX0_takeKey_90 rfl ?_
        refine r_callV hK ck_X0_mend im_X0_mend sl_X0_mend ml_RX0_145 (by omega) (c_X0_mend (l := kL K) (g := g) (X := X) (v5) C81 (wpO_bd h)) cls_0 (k := 2) (by omega) rfl (As := [.int (I (v5))]) (st := []) rfl (Nat.le_of_ble_eq_true rfl) dX0_takeKey_92 (kkI (fun C92 r92 h => ?_))
        refine r_if_eq hK dX0_takeKey_95 (t := 104) (by decide) (wpO_eq h) (fun h => ?_) (fun h => ?_)
        · exact hk (v5) C92 h
        · refine r_iinc hK dX0_takeKey_98 (by rw [hN]; decide) rfl rfl (lv' := [some (.ref (gA g 2)), none, none, none, some (.int (I (u4))), some (.int (I (v5 + (-1))))]) rfl ?_
          refine r_goto hK dX0_takeKey_101 (t := 67) (by decide) ?_
          exact ih (v5 + (-1)) C92 h
      · exact hk (v5) C81 h
    · exact hk (v5) C h
set_option maxRecDepth 100000 in
set_option maxHeartbeats 4000000 in
theorem c_X0_takeKey {l : Launch} {g : GT} {X : Mem} {Q : Mem → Int → Prop} (a1 : Nat) (ha1 : a1 < 5) (C : Mem) (h : wpO (f_X0_takeKey a1 C) Q) : MetC l yX0_takeKey cX0_takeKey 6 (some .int) 6 g [.ref (gA g 2), .ref (gA g (10 + 2 * a1))] (mrg C X) (QI (fun c => mrg c X) Q) := by
  refine met_at 4 (lv := [some (.ref (gA g 2)), some (.ref (gA g (10 + 2 * a1))), none, none, none, none]) (by decide) (Nat.le_of_ble_eq_true rfl) rfl rfl (fun K hK hN hr hQ => ?_)
  unfold f_X0_takeKey at h
  refine r_aload_n hK dX0_takeKey_0 rfl ?_
  refine r_getR (k := 2) (k' := 1) hK cls_0 fl_RX0_30 (by decide) (by omega) rfl rfl dX0_takeKey_1 ?_
  refine r_aload_n hK dX0_takeKey_4 rfl ?_
  refine r_callV hK ck_X6_goDown im_X6_goDown sl_X6_goDown ml_RX0_34 (by omega) (c_X6_goDown (l := kL K) (g := g) (X := X) a1 ha1 C (wpO_bd h)) cls_6 (k := 1) (by omega) rfl (As := [.ref (gA g (10 + 2 * a1))]) (st := []) rfl (Nat.le_of_ble_eq_true rfl) dX0_takeKey_5 (kkV (fun C5 h => ?_))
  refine r_aload_n hK dX0_takeKey_8 rfl ?_
  refine r_getR (k := 2) (k' := 1) hK cls_0 fl_RX0_30 (by decide) (by omega) rfl rfl dX0_takeKey_9 ?_
  refine r_aload_n hK dX0_takeKey_12 rfl ?_
  refine r_getR (k := 2) (k' := 1) hK cls_0 fl_RX0_30 (by decide) (by omega) rfl rfl dX0_takeKey_13 ?_
  refine r_getIN (k := 1) hK cls_6 fl_RX0_40 (by decide) (by omega) rfl rfl dX0_takeKey_16 (mrg_c (by omega)) ?_
  refine r_iconst hK dX0_takeKey_19 ?_
  refine r_isub hK dX0_takeKey_20 ?_
  refine r_callV hK ck_X6_pageOn im_X6_pageOn sl_X6_pageOn ml_RX0_44 (by omega) (c_X6_pageOn (l := kL K) (g := g) (X := X) ((C5 1 5) - 1) C5 (wpO_bd h)) cls_6 (k := 1) (by omega) rfl (As := [.int (I ((C5 1 5) - 1))]) (st := []) rfl (Nat.le_of_ble_eq_true rfl) dX0_takeKey_21 (kkP (fun C21 r21 hr21 h => ?_))
  refine r_astore_n hK dX0_takeKey_24 (by rw [hN]; decide) rfl (lv' := [some (.ref (gA g 2)), some (.ref (gA g (10 + 2 * a1))), some (.ref (gA g (27 + r21))), none, none, none]) rfl ?_
  refine r_aload_n hK dX0_takeKey_25 rfl ?_
  refine r_aload_n hK dX0_takeKey_26 rfl ?_
  refine r_iconst hK dX0_takeKey_27 ?_
  refine r_callV hK ck_X4_entriesBelow im_X4_entriesBelow sl_X4_entriesBelow ml_RX0_48 (by omega) (c_X4_entriesBelow (l := kL K) (g := g) (X := X) r21 a1 (0) hr21 ha1 C21 (wpO_bd h)) cls_4 (k := (27 + r21)) (by omega) (sh_page hr21) (As := [.ref (gA g (10 + 2 * a1)), .int (I (0))]) (st := []) rfl (Nat.le_of_ble_eq_true rfl) dX0_takeKey_28 (kkI (fun C28 r28 h => ?_))
  refine r_istore_n hK dX0_takeKey_31 (by rw [hN]; decide) rfl (lv' := [some (.ref (gA g 2)), some (.ref (gA g (10 + 2 * a1))), some (.ref (gA g (27 + r21))), some (.int (I (r28))), none, none]) rfl ?_
  refine r_aload_n hK dX0_takeKey_32 rfl ?_
  refine r_iload_n hK dX0_takeKey_33 rfl ?_
  refine r_aload_n hK dX0_takeKey_34 rfl ?_
  refine r_callV hK ck_X4_isEntry im_X4_isEntry sl_X4_isEntry ml_RX0_52 (by omega) (c_X4_isEntry (l := kL K) (g := g) (X := X) r21 (r28) a1 hr21 ha1 C28 (wpO_bd h)) cls_4 (k := (27 + r21)) (by omega) (sh_page hr21) (As := [.int (I (r28)), .ref (gA g (10 + 2 * a1))]) (st := []) rfl (Nat.le_of_ble_eq_true rfl) dX0_takeKey_35 (kkI (fun C35 r35 h => ?_))
  refine r_if_ne hK dX0_takeKey_38 (t := 44) (by decide) (wpO_eq h) (fun h => ?_) (fun h => ?_)
  · refine r_bipush hK dX0_takeKey_41 (by decide) ?_
    exact r_ireturn hK hr hQ rfl dX0_takeKey_43 ⟨C35, (-9), rfl, rfl, wpO_some h⟩
  · refine r_aload_n hK dX0_takeKey_44 rfl ?_
    refine r_iload_n hK dX0_takeKey_45 rfl ?_
    refine r_callV hK ck_X4_tail im_X4_tail sl_X4_tail ml_RX0_56 (by omega) (c_X4_tail (l := kL K) (g := g) (X := X) r21 (r28) hr21 C35 (wpO_bd h)) cls_4 (k := (27 + r21)) (by omega) (sh_page hr21) (As := [.int (I (r28))]) (st := []) rfl (Nat.le_of_ble_eq_true rfl) dX0_takeKey_46 (kkI (fun C46 r46 h => ?_))
    refine r_istore hK dX0_takeKey_49 (by rw [hN]; decide) rfl (lv' := [some (.ref (gA g 2)), some (.ref (gA g (10 + 2 * a1))), some (.ref (gA g (27 + r21))), some (.int (I (r28))), some (.int (I (r46))), none]) rfl ?_
    refine r_aload_n hK dX0_takeKey_51 rfl ?_
    refine r_iload_n hK dX0_takeKey_52 rfl ?_
    refine r_callV hK ck_X4_remove im_X4_remove sl_X4_remove ml_RX0_142 (by omega) (c_X4_remove (l := kL K) (g := g) (X := X) r21 (r28) hr21 C46 (wpO_bd h)) cls_4 (k := (27 + r21)) (by omega) (sh_page hr21) (As := [.int (I (r28))]) (st := []) rfl (Nat.le_of_ble_eq_true rfl) dX0_takeKey_53 (kkV (fun C53 h => ?_))
    refine r_aload_n hK dX0_takeKey_56 rfl ?_
    refine r_getR (k := 2) (k' := 1) hK cls_0 fl_RX0_30 (by decide) (by omega) rfl rfl dX0_takeKey_57 ?_
    refine r_getIN (k := 1) hK cls_6 fl_RX0_40 (by decide) (by omega) rfl rfl dX0_takeKey_60 (mrg_c (by omega)) ?_
    refine r_iconst hK dX0_takeKey_63 ?_
    refine r_isub hK dX0_takeKey_64 ?_
    refine r_istore hK dX0_takeKey_65 (by rw [hN]; decide) rfl (lv' := [some (.ref (gA g 2)), some (.ref (gA g (10 + 2 * a1))), some (.ref (gA g (27 + r21))), some (.int (I (r28))), some (.int (I (r46))), some (.int (I ((C53 1 5) - 1)))]) rfl ?_
    refine r_cut [true, false, false, false, true, true] (lv' := [some (.ref (gA g 2)), none, none, none, some (.int (I (r46))), some (.int (I ((C53 1 5) - 1)))]) rfl ?_
    refine w_X0_takeKey_67 hK hN hr hQ (by omega) (r46) _ (fun v5_e67 C_e67 h => ?_) FU ((C53 1 5) - 1) C53 h
    refine r_iload hK dX0_takeKey_104 rfl ?_
    refine r_if_ne hK dX0_takeKey_106 (t := 113) (by decide) (wpO_eq h) (fun h => ?_) (fun h => ?_)
    · refine r_aload_n hK dX0_takeKey_109 rfl ?_
      refine r_callV hK ck_X0_lowerRoot im_X0_lowerRoot sl_X0_lowerRoot ml_RX0_149 (by omega) (c_X0_lowerRoot (l := kL K) (g := g) (X := X) C_e67 (wpO_bd h)) cls_0 (k := 2) (by omega) rfl (As := []) (st := []) rfl (Nat.le_of_ble_eq_true rfl) dX0_takeKey_110 (kkV (fun C110 h => ?_))
      refine r_iload hK dX0_takeKey_113 rfl ?_
      exact r_ireturn hK hr hQ rfl dX0_takeKey_115 ⟨C110, r46, rfl, rfl, wpO_some h⟩
    · refine r_iload hK dX0_takeKey_113 rfl ?_
      exact r_ireturn hK hr hQ rfl dX0_takeKey_115 ⟨C_e67, r46, rfl, rfl, wpO_some h⟩
set_option maxRecDepth 100000 in
set_option maxHeartbeats 4000000 in
theorem w_X0_fillLeaves_19 {K : KT} {g : GT} {X : Mem} {dd : Nat} (hK : Kok K g cX0_fillLeaves RX0 dd) (hN : kN K = 7) (hr : (kMe K).sig.returnType = (some .int)) {Q : Mem → Int → Prop} (hQ : kQ K = MQ (kB K) (Qc g (QI (fun c => mrg c X) Q)) (kA K) (kS K) (kc K) (ks K) (gS g)) (hdd : 3 ≤ dd) (u1 : Int) (u2 : Int) (u3 : Int) (k : Int → Int → Mem → Option (Mem × Int)) (hk : ∀ (v4 : Int) (v5 : Int) (C : Mem), wpO (k v4 v5 C) Q → Wn K g (mrg C X) 132 [some (.ref (gA g 2)), some (.int (I (u1))), some (.int (I (u2))), some (.int (I (u3))), some (.int (I (v4))), some (.int (I (v5))), none] []) : ∀ (n : Nat) (v4 : Int) (v5 : Int) (C : Mem), wpO (f_X0_fillLeaves_19 u1 u2 u3 k n v4 v5 C) Q → Wn K g (mrg C X) 19 [some (.ref (gA g 2)), some (.int (I (u1))), some (.int (I (u2))), some (.int (I (u3))), some (.int (I (v4))), some (.int (I (v5))), none] [] := by
  intro n
  induction n with
  | zero => intro v4 v5 C h; exact (wpO_none h).elim
  | succ n ih =>
    intro v4 v5 C h
    unfold f_X0_fillLeaves_19 at h
    refine r_iload hK dX0_fillLeaves_19 rfl ?_
    refine r_iload_n hK dX0_fillLeaves_21 rfl ?_
    refine r_icmp_ge hK dX0_fillLeaves_22 (t := 132) (by decide) (wpO_lt h) (fun h => ?_) (fun h => ?_)
    · refine r_aload_n hK dX0_fillLeaves_25 rfl ?_
      refine r_getR (k := 2) (k' := (10 + 2 * 1)) hK cls_0 fl_RX0_23 (by decide) (by omega) rfl rfl dX0_fillLeaves_26 ?_
      refine r_iload_n hK dX0_fillLeaves_29 rfl ?_
      refine r_iload_n hK dX0_fillLeaves_30 rfl ?_
      refine r_iload hK dX0_fillLeaves_31 rfl ?_
      refine r_imul hK dX0_fillLeaves_33 ?_
      refine r_iadd hK dX0_fillLeaves_34 ?_
      refine r_iconst hK dX0_fillLeaves_35 ?_
      refine r_callV hK ck_X3_spell im_X3_spell sl_X3_spell ml_RX0_191 (by omega) (c_X3_spell (l := kL K) (g := g) (X := X) 1 (u1 + (u2 * v5)) (3) (by decide) C (wpO_bd h)) cls_3 (k := (10 + 2 * 1)) (by omega) (sh_key (by decide)) (As := [.int (I (u1 + (u2 * v5))), .int (I (3))]) (st := []) rfl (Nat.le_of_ble_eq_true rfl) dX0_fillLeaves_36 (kkV (fun C36 h => ?_))
      refine r_aload_n hK dX0_fillLeaves_39 rfl ?_
      refine r_getR (k := 2) (k' := 1) hK cls_0 fl_RX0_30 (by decide) (by omega) rfl rfl dX0_fillLeaves_40 ?_
      refine r_iload hK dX0_fillLeaves_43 rfl ?_
      refine r_callV hK ck_X6_pageOf im_X6_pageOf sl_X6_pageOf ml_RX0_97 (by omega) (c_X6_pageOf (l := kL K) (g := g) (X := X) (v4) C36 (wpO_bd h)) cls_6 (k := 1) (by omega) rfl (As := [.int (I (v4))]) (st := []) rfl (Nat.le_of_ble_eq_true rfl) dX0_fillLeaves_45 (kkP (fun C45 r45 hr45 h => ?_))
      refine r_callV hK ck_X4_used im_X4_used sl_X4_used ml_RX0_80 (by omega) (c_X4_used (l := kL K) (g := g) (X := X) r45 hr45 C45 (wpO_bd h)) cls_4 (k := (27 + r45)) (by omega) (sh_page hr45) (As := []) (st := []) rfl (Nat.le_of_ble_eq_true rfl) dX0_fillLeaves_48 (kkI (fun C48 r48 h => ?_))
      refine r_aload_n hK dX0_fillLeaves_51 rfl ?_
      refine r_getR (k := 2) (k' := (10 + 2 * 1)) hK cls_0 fl_RX0_23 (by decide) (by omega) rfl rfl dX0_fillLeaves_52 ?_
      refine r_getIN (k := (10 + 2 * 1)) hK cls_3 fl_RX0_175 (by decide) (by omega) (sh_key (by decide)) rfl dX0_fillLeaves_55 (mrg_c (by omega)) ?_
      refine r_iadd hK dX0_fillLeaves_58 ?_
      refine r_iconst hK dX0_fillLeaves_59 ?_
      refine r_iadd hK dX0_fillLeaves_60 ?_
      refine r_bipush hK dX0_fillLeaves_61 (by decide) ?_
      refine r_jn (J := fun j99 => ∀ (x4_99 : Int) (C_99 : Mem), wpO (j99 x4_99 C_99) Q → Wn K g (mrg C_99 X) 99 [some (.ref (gA g 2)), some (.int (I (u1))), some (.int (I (u2))), some (.int (I (u3))), some (.int (I (x4_99))), some (.int (I (v5))), none] []) h ?_ ?_
      · intro x4_99 C_99 h
        refine r_aload_n hK dX0_fillLeaves_99 rfl ?_
        refine r_getR (k := 2) (k' := 1) hK cls_0 fl_RX0_30 (by decide) (by omega) rfl rfl dX0_fillLeaves_100 ?_
        refine r_iload hK dX0_fillLeaves_103 rfl ?_
        refine r_callV hK ck_X6_pageOf im_X6_pageOf sl_X6_pageOf ml_RX0_97 (by omega) (c_X6_pageOf (l := kL K) (g := g) (X := X) (x4_99) C_99 (wpO_bd h)) cls_6 (k := 1) (by omega) rfl (As := [.int (I (x4_99))]) (st := []) rfl (Nat.le_of_ble_eq_true rfl) dX0_fillLeaves_105 (kkP (fun C105 r105 hr105 h => ?_))
        refine r_astore hK dX0_fillLeaves_108 (by rw [hN]; decide) rfl (lv' := [some (.ref (gA g 2)), some (.int (I (u1))), some (.int (I (u2))), some (.int (I (u3))), some (.int (I (x4_99))), some (.int (I (v5))), some (.ref (gA g (27 + r105)))]) rfl ?_
        refine r_aload hK dX0_fillLeaves_110 rfl ?_
        refine r_aload hK dX0_fillLeaves_112 rfl ?_
        refine r_callV hK ck_X4_entries im_X4_entries sl_X4_entries ml_RX0_139 (by omega) (c_X4_entries (l := kL K) (g := g) (X := X) r105 hr105 C105 (wpO_bd h)) cls_4 (k := (27 + r105)) (by omega) (sh_page hr105) (As := []) (st := [.ref (gA g (27 + r105))]) rfl (Nat.le_of_ble_eq_true rfl) dX0_fillLeaves_114 (kkI (fun C114 r114 h => ?_))
        refine r_aload_n hK dX0_fillLeaves_117 rfl ?_
        refine r_getR (k := 2) (k' := (10 + 2 * 1)) hK cls_0 fl_RX0_23 (by decide) (by omega) rfl rfl dX0_fillLeaves_118 ?_
        refine r_iload hK dX0_fillLeaves_121 rfl ?_
        refine r_callV hK ck_X4_insert im_X4_insert sl_X4_insert ml_RX0_76 (by omega) (c_X4_insert (l := kL K) (g := g) (X := X) r105 (r114) 1 (v5) hr105 (by decide) C114 (wpO_bd h)) cls_4 (k := (27 + r105)) (by omega) (sh_page hr105) (As := [.int (I (r114)), .ref (gA g (10 + 2 * 1)), .int (I (v5))]) (st := []) rfl (Nat.le_of_ble_eq_true rfl) dX0_fillLeaves_123 (kkV (fun C123 h => ?_))
        refine r_iinc hK dX0_fillLeaves_126 (by rw [hN]; decide) rfl rfl (lv' := [some (.ref (gA g 2)), some (.int (I (u1))), some (.int (I (u2))), some (.int (I (u3))), some (.int (I (x4_99))), some (.int (I (v5 + 1))), some (.ref (gA g (27 + r105)))]) rfl ?_
        refine r_goto hK dX0_fillLeaves_129 (t := 19) (by decide) ?_
        refine r_cut [true, true, true, true, true, true, false] (lv' := [some (.ref (gA g 2)), some (.int (I (u1))), some (.int (I (u2))), some (.int (I (u3))), some (.int (I (x4_99))), some (.int (I (v5 + 1))), none]) rfl ?_
        exact ih (x4_99) (v5 + 1) C123 h
      · intro hj99 h
        refine r_icmp_le hK dX0_fillLeaves_63 (t := 99) (by decide) (wpO_lt h) (fun h => ?_) (fun h => ?_)
        · refine r_aload_n hK dX0_fillLeaves_66 rfl ?_
          refine r_getR (k := 2) (k' := 1) hK cls_0 fl_RX0_30 (by decide) (by omega) rfl rfl dX0_fillLeaves_67 ?_
          refine r_iload hK dX0_fillLeaves_70 rfl ?_
          refine r_callV hK ck_X6_pageOf im_X6_pageOf sl_X6_pageOf ml_RX0_97 (by omega) (c_X6_pageOf (l := kL K) (g := g) (X := X) (v4) C48 (wpO_bd h)) cls_6 (k := 1) (by omega) rfl (As := [.int (I (v4))]) (st := []) rfl (Nat.le_of_ble_eq_true rfl) dX0_fillLeaves_72 (kkP (fun C72 r72 hr72 h => ?_))
          refine r_iload hK dX0_fillLeaves_75 rfl ?_
          refine r_iconst hK dX0_fillLeaves_77 ?_
          refine r_iadd hK dX0_fillLeaves_78 ?_
          refine r_callV hK ck_X4_setLink im_X4_setLink sl_X4_setLink ml_RX0_106 (by omega) (c_X4_setLink (l := kL K) (g := g) (X := X) r72 (v4 + 2) hr72 C72 (wpO_bd h)) cls_4 (k := (27 + r72)) (by omega) (sh_page hr72) (As := [.int (I (v4 + 2))]) (st := []) rfl (Nat.le_of_ble_eq_true rfl) dX0_fillLeaves_79 (kkV (fun C79 h => ?_))
          refine r_iinc hK dX0_fillLeaves_82 (by rw [hN]; decide) rfl rfl (lv' := [some (.ref (gA g 2)), some (.int (I (u1))), some (.int (I (u2))), some (.int (I (u3))), some (.int (I (v4 + 1))), some (.int (I (v5))), none]) rfl ?_
          refine r_aload_n hK dX0_fillLeaves_85 rfl ?_
          refine r_getR (k := 2) (k' := 1) hK cls_0 fl_RX0_30 (by decide) (by omega) rfl rfl dX0_fillLeaves_86 ?_
          refine r_iload hK dX0_fillLeaves_89 rfl ?_
          refine r_callV hK ck_X6_pageOf im_X6_pageOf sl_X6_pageOf ml_RX0_97 (by omega) (c_X6_pageOf (l := kL K) (g := g) (X := X) (v4 + 1) C79 (wpO_bd h)) cls_6 (k := 1) (by omega) rfl (As := [.int (I (v4 + 1))]) (st := []) rfl (Nat.le_of_ble_eq_true rfl) dX0_fillLeaves_91 (kkP (fun C91 r91 hr91 h => ?_))
          refine r_iconst hK dX0_fillLeaves_94 ?_
          refine r_iconst hK dX0_fillLeaves_95 ?_
          refine r_callV hK ck_X4_begin im_X4_begin sl_X4_begin ml_RX0_125 (by omega) (c_X4_begin (l := kL K) (g := g) (X := X) r91 (1) (0) hr91 C91 (wpO_bd h)) cls_4 (k := (27 + r91)) (by omega) (sh_page hr91) (As := [.int (I (1)), .int (I (0))]) (st := []) rfl (Nat.le_of_ble_eq_true rfl) dX0_fillLeaves_96 (kkV (fun C96 h => ?_))
          exact hj99 (v4 + 1) C96 h
        · exact hj99 (v4) C48 h
    · exact hk (v4) (v5) C h
set_option maxRecDepth 100000 in
set_option maxHeartbeats 4000000 in
theorem c_X0_fillLeaves {l : Launch} {g : GT} {X : Mem} {Q : Mem → Int → Prop} (a1 : Int) (a2 : Int) (a3 : Int) (C : Mem) (h : wpO (f_X0_fillLeaves a1 a2 a3 C) Q) : MetC l yX0_fillLeaves cX0_fillLeaves 7 (some .int) 3 g [.ref (gA g 2), .int (I (a1)), .int (I (a2)), .int (I (a3))] (mrg C X) (QI (fun c => mrg c X) Q) := by
  refine met_at 3 (lv := [some (.ref (gA g 2)), some (.int (I (a1))), some (.int (I (a2))), some (.int (I (a3))), none, none, none]) (by decide) (Nat.le_of_ble_eq_true rfl) rfl rfl (fun K hK hN hr hQ => ?_)
  unfold f_X0_fillLeaves at h
  refine r_iconst hK dX0_fillLeaves_0 ?_
  refine r_istore hK dX0_fillLeaves_1 (by rw [hN]; decide) rfl (lv' := [some (.ref (gA g 2)), some (.int (I (a1))), some (.int (I (a2))), some (.int (I (a3))), some (.int (I (0))), none, none]) rfl ?_
  refine r_aload_n hK dX0_fillLeaves_3 rfl ?_
  refine r_getR (k := 2) (k' := 1) hK cls_0 fl_RX0_30 (by decide) (by omega) rfl rfl dX0_fillLeaves_4 ?_
  refine r_iconst hK dX0_fillLeaves_7 ?_
  refine r_callV hK ck_X6_pageOf im_X6_pageOf sl_X6_pageOf ml_RX0_97 (by omega) (c_X6_pageOf (l := kL K) (g := g) (X := X) (0) C (wpO_bd h)) cls_6 (k := 1) (by omega) rfl (As := [.int (I (0))]) (st := []) rfl (Nat.le_of_ble_eq_true rfl) dX0_fillLeaves_8 (kkP (fun C8 r8 hr8 h => ?_))
  refine r_iconst hK dX0_fillLeaves_11 ?_
  refine r_iconst hK dX0_fillLeaves_12 ?_
  refine r_callV hK ck_X4_begin im_X4_begin sl_X4_begin ml_RX0_125 (by omega) (c_X4_begin (l := kL K) (g := g) (X := X) r8 (1) (0) hr8 C8 (wpO_bd h)) cls_4 (k := (27 + r8)) (by omega) (sh_page hr8) (As := [.int (I (1)), .int (I (0))]) (st := []) rfl (Nat.le_of_ble_eq_true rfl) dX0_fillLeaves_13 (kkV (fun C13 h => ?_))
  refine r_iconst hK dX0_fillLeaves_16 ?_
  refine r_istore hK dX0_fillLeaves_17 (by rw [hN]; decide) rfl (lv' := [some (.ref (gA g 2)), some (.int (I (a1))), some (.int (I (a2))), some (.int (I (a3))), some (.int (I (0))), some (.int (I (0))), none]) rfl ?_
  refine w_X0_fillLeaves_19 hK hN hr hQ (by omega) (a1) (a2) (a3) _ (fun v4_e19 v5_e19 C_e19 h => ?_) FU (0) (0) C13 h
  refine r_iload hK dX0_fillLeaves_132 rfl ?_
  exact r_ireturn hK hr hQ rfl dX0_fillLeaves_134 ⟨C_e19, v4_e19, rfl, rfl, wpO_some h⟩
set_option maxRecDepth 100000 in
set_option maxHeartbeats 4000000 in
theorem c_X0_shareWithLast {l : Launch} {g : GT} {X : Mem} {Q : Mem → Int → Prop} (a1 : Int) (C : Mem) (h : wpO (f_X0_shareWithLast a1 C) Q) : MetC l yX0_shareWithLast cX0_shareWithLast 4 none 4 g [.ref (gA g 2), .int (I (a1))] (mrg C X) (QV (fun c => mrg c X) Q) := by
  refine met_at 2 (lv := [some (.ref (gA g 2)), some (.int (I (a1))), none, none]) (by decide) (Nat.le_of_ble_eq_true rfl) rfl rfl (fun K hK hN hr hQ => ?_)
  unfold f_X0_shareWithLast at h
  refine r_aload_n hK dX0_shareWithLast_0 rfl ?_
  refine r_getR (k := 2) (k' := 1) hK cls_0 fl_RX0_30 (by decide) (by omega) rfl rfl dX0_shareWithLast_1 ?_
  refine r_iload_n hK dX0_shareWithLast_4 rfl ?_
  refine r_iconst hK dX0_shareWithLast_5 ?_
  refine r_isub hK dX0_shareWithLast_6 ?_
  refine r_callV hK ck_X6_pageOf im_X6_pageOf sl_X6_pageOf ml_RX0_97 (by omega) (c_X6_pageOf (l := kL K) (g := g) (X := X) (a1 - 1) C (wpO_bd h)) cls_6 (k := 1) (by omega) rfl (As := [.int (I (a1 - 1))]) (st := []) rfl (Nat.le_of_ble_eq_true rfl) dX0_shareWithLast_7 (kkP (fun C7 r7 hr7 h => ?_))
  refine r_astore_n hK dX0_shareWithLast_10 (by rw [hN]; decide) rfl (lv' := [some (.ref (gA g 2)), some (.int (I (a1))), some (.ref (gA g (27 + r7))), none]) rfl ?_
  refine r_aload_n hK dX0_shareWithLast_11 rfl ?_
  refine r_getR (k := 2) (k' := 1) hK cls_0 fl_RX0_30 (by decide) (by omega) rfl rfl dX0_shareWithLast_12 ?_
  refine r_iload_n hK dX0_shareWithLast_15 rfl ?_
  refine r_callV hK ck_X6_pageOf im_X6_pageOf sl_X6_pageOf ml_RX0_97 (by omega) (c_X6_pageOf (l := kL K) (g := g) (X := X) (a1) C7 (wpO_bd h)) cls_6 (k := 1) (by omega) rfl (As := [.int (I (a1))]) (st := []) rfl (Nat.le_of_ble_eq_true rfl) dX0_shareWithLast_16 (kkP (fun C16 r16 hr16 h => ?_))
  refine r_astore_n hK dX0_shareWithLast_19 (by rw [hN]; decide) rfl (lv' := [some (.ref (gA g 2)), some (.int (I (a1))), some (.ref (gA g (27 + r7))), some (.ref (gA g (27 + r16)))]) rfl ?_
  refine r_aload_n hK dX0_shareWithLast_20 rfl ?_
  refine r_callV hK ck_X4_used im_X4_used sl_X4_used ml_RX0_80 (by omega) (c_X4_used (l := kL K) (g := g) (X := X) r16 hr16 C16 (wpO_bd h)) cls_4 (k := (27 + r16)) (by omega) (sh_page hr16) (As := []) (st := []) rfl (Nat.le_of_ble_eq_true rfl) dX0_shareWithLast_21 (kkI (fun C21 r21 h => ?_))
  refine r_bipush hK dX0_shareWithLast_24 (by decide) ?_
  refine r_icmp_ge hK dX0_shareWithLast_26 (t := 63) (by decide) (wpO_lt h) (fun h => ?_) (fun h => ?_)
  · refine r_aload_n hK dX0_shareWithLast_29 rfl ?_
    refine r_getR (k := 2) (k' := (27 + 33)) hK cls_0 fl_RX0_14 (by decide) (by omega) rfl rfl dX0_shareWithLast_30 ?_
    refine r_aload_n hK dX0_shareWithLast_33 rfl ?_
    refine r_callV hK ck_X4_copyFrom im_X4_copyFrom sl_X4_copyFrom ml_RX0_73 (by omega) (c_X4_copyFrom (l := kL K) (g := g) (X := X) 33 r7 (by decide) hr7 C21 (wpO_bd h)) cls_4 (k := (27 + 33)) (by omega) (sh_page (by decide)) (As := [.ref (gA g (27 + r7))]) (st := []) rfl (Nat.le_of_ble_eq_true rfl) dX0_shareWithLast_34 (kkV (fun C34 h => ?_))
    refine r_aload_n hK dX0_shareWithLast_37 rfl ?_
    refine r_getR (k := 2) (k' := (27 + 33)) hK cls_0 fl_RX0_14 (by decide) (by omega) rfl rfl dX0_shareWithLast_38 ?_
    refine r_aload_n hK dX0_shareWithLast_41 rfl ?_
    refine r_iconst hK dX0_shareWithLast_42 ?_
    refine r_aload_n hK dX0_shareWithLast_43 rfl ?_
    refine r_callV hK ck_X4_entries im_X4_entries sl_X4_entries ml_RX0_139 (by omega) (c_X4_entries (l := kL K) (g := g) (X := X) r16 hr16 C34 (wpO_bd h)) cls_4 (k := (27 + r16)) (by omega) (sh_page hr16) (As := []) (st := [.int (I (0)), .ref (gA g (27 + r16)), .ref (gA g (27 + 33))]) rfl (Nat.le_of_ble_eq_true rfl) dX0_shareWithLast_44 (kkI (fun C44 r44 h => ?_))
    refine r_callV hK ck_X4_append im_X4_append sl_X4_append ml_RX0_135 (by omega) (c_X4_append (l := kL K) (g := g) (X := X) 33 r16 (0) (r44) (by decide) hr16 C44 (wpO_bd h)) cls_4 (k := (27 + 33)) (by omega) (sh_page (by decide)) (As := [.ref (gA g (27 + r16)), .int (I (0)), .int (I (r44))]) (st := []) rfl (Nat.le_of_ble_eq_true rfl) dX0_shareWithLast_47 (kkV (fun C47 h => ?_))
    refine r_aload_n hK dX0_shareWithLast_50 rfl ?_
    refine r_aload_n hK dX0_shareWithLast_51 rfl ?_
    refine r_getR (k := 2) (k' := (27 + 33)) hK cls_0 fl_RX0_14 (by decide) (by omega) rfl rfl dX0_shareWithLast_52 ?_
    refine r_callV hK ck_X4_half im_X4_half sl_X4_half ml_RX0_109 (by omega) (c_X4_half (l := kL K) (g := g) (X := X) 33 (by decide) C47 (wpO_bd h)) cls_4 (k := (27 + 33)) (by omega) (sh_page (by decide)) (As := []) (st := [.ref (gA g 2)]) rfl (Nat.le_of_ble_eq_true rfl) dX0_shareWithLast_55 (kkI (fun C55 r55 h => ?_))
    refine r_aload_n hK dX0_shareWithLast_58 rfl ?_
    refine r_aload_n hK dX0_shareWithLast_59 rfl ?_
    refine r_callV hK ck_X0_deal im_X0_deal sl_X0_deal ml_RX0_115 (by omega) (c_X0_deal (l := kL K) (g := g) (X := X) (r55) r7 r16 hr7 hr16 C55 (wpO_bd h)) cls_0 (k := 2) (by omega) rfl (As := [.int (I (r55)), .ref (gA g (27 + r7)), .ref (gA g (27 + r16))]) (st := []) rfl (Nat.le_of_ble_eq_true rfl) dX0_shareWithLast_60 (kkV (fun C60 h => ?_))
    exact r_return hK hr hQ dX0_shareWithLast_63 ⟨C60, rfl, rfl, wpO_some h⟩
  · exact r_return hK hr hQ dX0_shareWithLast_63 ⟨C21, rfl, rfl, wpO_some h⟩
set_option maxRecDepth 100000 in
set_option maxHeartbeats 4000000 in
theorem w_X0_coverLeaves_45 {K : KT} {g : GT} {X : Mem} {dd : Nat} (hK : Kok K g cX0_coverLeaves RX0 dd) (hN : kN K = 5) (hr : (kMe K).sig.returnType = none) {Q : Mem → Int → Prop} (hQ : kQ K = MQ (kB K) (Qc g (QV (fun c => mrg c X) Q)) (kA K) (kS K) (kc K) (ks K) (gS g)) (hdd : 3 ≤ dd) (u1 : Int) (u2 : Nat) (hu2 : u2 < 34) (k : Int → Mem → Option (Mem × Int)) (hk : ∀ (v3 : Int) (C : Mem), wpO (k v3 C) Q → Wn K g (mrg C X) 124 [some (.ref (gA g 2)), some (.int (I (u1))), some (.ref (gA g (27 + u2))), some (.int (I (v3))), none] []) : ∀ (n : Nat) (v3 : Int) (C : Mem), wpO (f_X0_coverLeaves_45 u1 u2 k n v3 C) Q → Wn K g (mrg C X) 45 [some (.ref (gA g 2)), some (.int (I (u1))), some (.ref (gA g (27 + u2))), some (.int (I (v3))), none] [] := by
  intro n
  induction n with
  | zero => intro v3 C h; exact (wpO_none h).elim
  | succ n ih =>
    intro v3 C h
    unfold f_X0_coverLeaves_45 at h
    refine r_iload_n hK dX0_coverLeaves_45 rfl ?_
    refine r_iload_n hK dX0_coverLeaves_46 rfl ?_
    refine r_icmp_gt hK dX0_coverLeaves_47 (t := 124) (by decide) (wpO_lt h) (fun h => ?_) (fun h => ?_)
    · exact hk (v3) C h
    · refine r_aload_n hK dX0_coverLeaves_50 rfl ?_
      refine r_getR (k := 2) (k' := 1) hK cls_0 fl_RX0_30 (by decide) (by omega) rfl rfl dX0_coverLeaves_51 ?_
      refine r_iload_n hK dX0_coverLeaves_54 rfl ?_
      refine r_iconst hK dX0_coverLeaves_55 ?_
      refine r_isub hK dX0_coverLeaves_56 ?_
      refine r_callV hK ck_X6_pageOf im_X6_pageOf sl_X6_pageOf ml_RX0_97 (by omega) (c_X6_pageOf (l := kL K) (g := g) (X := X) (v3 - 1) C (wpO_bd h)) cls_6 (k := 1) (by omega) rfl (As := [.int (I (v3 - 1))]) (st := []) rfl (Nat.le_of_ble_eq_true rfl) dX0_coverLeaves_57 (kkP (fun C57 r57 hr57 h => ?_))
      refine r_astore hK dX0_coverLeaves_60 (by rw [hN]; decide) rfl (lv' := [some (.ref (gA g 2)), some (.int (I (u1))), some (.ref (gA g (27 + u2))), some (.int (I (v3))), some (.ref (gA g (27 + r57)))]) rfl ?_
      refine r_aload hK dX0_coverLeaves_62 rfl ?_
      refine r_aload hK dX0_coverLeaves_64 rfl ?_
      refine r_callV hK ck_X4_entries im_X4_entries sl_X4_entries ml_RX0_139 (by omega) (c_X4_entries (l := kL K) (g := g) (X := X) r57 hr57 C57 (wpO_bd h)) cls_4 (k := (27 + r57)) (by omega) (sh_page hr57) (As := []) (st := [.ref (gA g (27 + r57))]) rfl (Nat.le_of_ble_eq_true rfl) dX0_coverLeaves_66 (kkI (fun C66 r66 h => ?_))
      refine r_iconst hK dX0_coverLeaves_69 ?_
      refine r_isub hK dX0_coverLeaves_70 ?_
      refine r_aload_n hK dX0_coverLeaves_71 rfl ?_
      refine r_getR (k := 2) (k' := (10 + 2 * 2)) hK cls_0 fl_RX0_27 (by decide) (by omega) rfl rfl dX0_coverLeaves_72 ?_
      refine r_callV hK ck_X4_readKey im_X4_readKey sl_X4_readKey ml_RX0_128 (by omega) (c_X4_readKey (l := kL K) (g := g) (X := X) r57 (r66 - 1) 2 hr57 (by decide) C66 (wpO_bd h)) cls_4 (k := (27 + r57)) (by omega) (sh_page hr57) (As := [.int (I (r66 - 1)), .ref (gA g (10 + 2 * 2))]) (st := []) rfl (Nat.le_of_ble_eq_true rfl) dX0_coverLeaves_75 (kkV (fun C75 h => ?_))
      refine r_aload_n hK dX0_coverLeaves_78 rfl ?_
      refine r_getR (k := 2) (k' := 1) hK cls_0 fl_RX0_30 (by decide) (by omega) rfl rfl dX0_coverLeaves_79 ?_
      refine r_iload_n hK dX0_coverLeaves_82 rfl ?_
      refine r_callV hK ck_X6_pageOf im_X6_pageOf sl_X6_pageOf ml_RX0_97 (by omega) (c_X6_pageOf (l := kL K) (g := g) (X := X) (v3) C75 (wpO_bd h)) cls_6 (k := 1) (by omega) rfl (As := [.int (I (v3))]) (st := []) rfl (Nat.le_of_ble_eq_true rfl) dX0_coverLeaves_83 (kkP (fun C83 r83 hr83 h => ?_))
      refine r_iconst hK dX0_coverLeaves_86 ?_
      refine r_aload_n hK dX0_coverLeaves_87 rfl ?_
      refine r_getR (k := 2) (k' := (10 + 2 * 1)) hK cls_0 fl_RX0_23 (by decide) (by omega) rfl rfl dX0_coverLeaves_88 ?_
      refine r_callV hK ck_X4_readKey im_X4_readKey sl_X4_readKey ml_RX0_128 (by omega) (c_X4_readKey (l := kL K) (g := g) (X := X) r83 (0) 1 hr83 (by decide) C83 (wpO_bd h)) cls_4 (k := (27 + r83)) (by omega) (sh_page hr83) (As := [.int (I (0)), .ref (gA g (10 + 2 * 1))]) (st := []) rfl (Nat.le_of_ble_eq_true rfl) dX0_coverLeaves_91 (kkV (fun C91 h => ?_))
      refine r_aload_n hK dX0_coverLeaves_94 rfl ?_
      refine r_getR (k := 2) (k' := (10 + 2 * 1)) hK cls_0 fl_RX0_23 (by decide) (by omega) rfl rfl dX0_coverLeaves_95 ?_
      refine r_aload_n hK dX0_coverLeaves_98 rfl ?_
      refine r_getR (k := 2) (k' := (10 + 2 * 2)) hK cls_0 fl_RX0_27 (by decide) (by omega) rfl rfl dX0_coverLeaves_99 ?_
      refine r_callV hK ck_X3_cutAbove im_X3_cutAbove sl_X3_cutAbove ml_RX0_132 (by omega) (c_X3_cutAbove (l := kL K) (g := g) (X := X) 1 2 (by decide) (by decide) C91 (wpO_bd h)) cls_3 (k := (10 + 2 * 1)) (by omega) (sh_key (by decide)) (As := [.ref (gA g (10 + 2 * 2))]) (st := []) rfl (Nat.le_of_ble_eq_true rfl) dX0_coverLeaves_102 (kkV (fun C102 h => ?_))
      refine r_aload_n hK dX0_coverLeaves_105 rfl ?_
      refine r_aload_n hK dX0_coverLeaves_106 rfl ?_
      refine r_callV hK ck_X4_entries im_X4_entries sl_X4_entries ml_RX0_139 (by omega) (c_X4_entries (l := kL K) (g := g) (X := X) u2 hu2 C102 (wpO_bd h)) cls_4 (k := (27 + u2)) (by omega) (sh_page hu2) (As := []) (st := [.ref (gA g (27 + u2))]) rfl (Nat.le_of_ble_eq_true rfl) dX0_coverLeaves_107 (kkI (fun C107 r107 h => ?_))
      refine r_aload_n hK dX0_coverLeaves_110 rfl ?_
      refine r_getR (k := 2) (k' := (10 + 2 * 1)) hK cls_0 fl_RX0_23 (by decide) (by omega) rfl rfl dX0_coverLeaves_111 ?_
      refine r_iload_n hK dX0_coverLeaves_114 rfl ?_
      refine r_callV hK ck_X4_insert im_X4_insert sl_X4_insert ml_RX0_76 (by omega) (c_X4_insert (l := kL K) (g := g) (X := X) u2 (r107) 1 (v3) hu2 (by decide) C107 (wpO_bd h)) cls_4 (k := (27 + u2)) (by omega) (sh_page hu2) (As := [.int (I (r107)), .ref (gA g (10 + 2 * 1)), .int (I (v3))]) (st := []) rfl (Nat.le_of_ble_eq_true rfl) dX0_coverLeaves_115 (kkV (fun C115 h => ?_))
      refine r_iinc hK dX0_coverLeaves_118 (by rw [hN]; decide) rfl rfl (lv' := [some (.ref (gA g 2)), some (.int (I (u1))), some (.ref (gA g (27 + u2))), some (.int (I (v3 + 1))), some (.ref (gA g (27 + r57)))]) rfl ?_
      refine r_goto hK dX0_coverLeaves_121 (t := 45) (by decide) ?_
      refine r_cut [true, true, true, true, false] (lv' := [some (.ref (gA g 2)), some (.int (I (u1))), some (.ref (gA g (27 + u2))), some (.int (I (v3 + 1))), none]) rfl ?_
      exact ih (v3 + 1) C115 h
set_option maxRecDepth 100000 in
set_option maxHeartbeats 4000000 in
theorem c_X0_coverLeaves {l : Launch} {g : GT} {X : Mem} {Q : Mem → Int → Prop} (a1 : Int) (C : Mem) (h : wpO (f_X0_coverLeaves a1 C) Q) : MetC l yX0_coverLeaves cX0_coverLeaves 5 none 3 g [.ref (gA g 2), .int (I (a1))] (mrg C X) (QV (fun c => mrg c X) Q) := by
  refine met_at 3 (lv := [some (.ref (gA g 2)), some (.int (I (a1))), none, none, none]) (by decide) (Nat.le_of_ble_eq_true rfl) rfl rfl (fun K hK hN hr hQ => ?_)
  unfold f_X0_coverLeaves at h
  refine r_aload_n hK dX0_coverLeaves_0 rfl ?_
  refine r_getR (k := 2) (k' := 1) hK cls_0 fl_RX0_30 (by decide) (by omega) rfl rfl dX0_coverLeaves_1 ?_
  refine r_aload_n hK dX0_coverLeaves_4 rfl ?_
  refine r_getR (k := 2) (k' := 1) hK cls_0 fl_RX0_30 (by decide) (by omega) rfl rfl dX0_coverLeaves_5 ?_
  refine r_callV hK ck_X6_lowestFree im_X6_lowestFree sl_X6_lowestFree ml_RX0_94 (by omega) (c_X6_lowestFree (l := kL K) (g := g) (X := X) C (wpO_bd h)) cls_6 (k := 1) (by omega) rfl (As := []) (st := [.ref (gA g 1)]) rfl (Nat.le_of_ble_eq_true rfl) dX0_coverLeaves_8 (kkI (fun C8 r8 h => ?_))
  refine r_putN (k := 1) hK cls_6 fl_RX0_122 (by decide) (by omega) rfl rfl rfl rfl rfl dX0_coverLeaves_11 (up_c (by omega)) ?_
  refine r_aload_n hK dX0_coverLeaves_14 rfl ?_
  refine r_getR (k := 2) (k' := 1) hK cls_0 fl_RX0_30 (by decide) (by omega) rfl rfl dX0_coverLeaves_15 ?_
  refine r_iconst hK dX0_coverLeaves_18 ?_
  refine r_putN (k := 1) hK cls_6 fl_RX0_40 (by decide) (by omega) rfl rfl rfl rfl rfl dX0_coverLeaves_19 (up_c (by omega)) ?_
  refine r_aload_n hK dX0_coverLeaves_22 rfl ?_
  refine r_getR (k := 2) (k' := 1) hK cls_0 fl_RX0_30 (by decide) (by omega) rfl rfl dX0_coverLeaves_23 ?_
  refine r_aload_n hK dX0_coverLeaves_26 rfl ?_
  refine r_getR (k := 2) (k' := 1) hK cls_0 fl_RX0_30 (by decide) (by omega) rfl rfl dX0_coverLeaves_27 ?_
  refine r_getIN (k := 1) hK cls_6 fl_RX0_122 (by decide) (by omega) rfl rfl dX0_coverLeaves_30 (mrg_c (by omega)) ?_
  refine r_callV hK ck_X6_pageOf im_X6_pageOf sl_X6_pageOf ml_RX0_97 (by omega) (c_X6_pageOf (l := kL K) (g := g) (X := X) ((up (up C8 1 4 (r8)) 1 5 (2)) 1 4) (up (up C8 1 4 (r8)) 1 5 (2)) (wpO_bd h)) cls_6 (k := 1) (by omega) rfl (As := [.int (I ((up (up C8 1 4 (r8)) 1 5 (2)) 1 4))]) (st := []) rfl (Nat.le_of_ble_eq_true rfl) dX0_coverLeaves_33 (kkP (fun C33 r33 hr33 h => ?_))
  refine r_astore_n hK dX0_coverLeaves_36 (by rw [hN]; decide) rfl (lv' := [some (.ref (gA g 2)), some (.int (I (a1))), some (.ref (gA g (27 + r33))), none, none]) rfl ?_
  refine r_aload_n hK dX0_coverLeaves_37 rfl ?_
  refine r_iconst hK dX0_coverLeaves_38 ?_
  refine r_iconst hK dX0_coverLeaves_39 ?_
  refine r_callV hK ck_X4_begin im_X4_begin sl_X4_begin ml_RX0_125 (by omega) (c_X4_begin (l := kL K) (g := g) (X := X) r33 (2) (0) hr33 C33 (wpO_bd h)) cls_4 (k := (27 + r33)) (by omega) (sh_page hr33) (As := [.int (I (2)), .int (I (0))]) (st := []) rfl (Nat.le_of_ble_eq_true rfl) dX0_coverLeaves_40 (kkV (fun C40 h => ?_))
  refine r_iconst hK dX0_coverLeaves_43 ?_
  refine r_istore_n hK dX0_coverLeaves_44 (by rw [hN]; decide) rfl (lv' := [some (.ref (gA g 2)), some (.int (I (a1))), some (.ref (gA g (27 + r33))), some (.int (I (1))), none]) rfl ?_
  refine w_X0_coverLeaves_45 hK hN hr hQ (by omega) (a1) r33 hr33 _ (fun v3_e45 C_e45 h => ?_) FU (1) C40 h
  exact r_return hK hr hQ dX0_coverLeaves_124 ⟨C_e45, rfl, rfl, wpO_some h⟩
set_option maxRecDepth 100000 in
set_option maxHeartbeats 4000000 in
theorem w_X0_loadRow_3 {K : KT} {g : GT} {X : Mem} {dd : Nat} (hK : Kok K g cX0_loadRow RX0 dd) (hN : kN K = 5) (hr : (kMe K).sig.returnType = none) {Q : Mem → Int → Prop} (hQ : kQ K = MQ (kB K) (Qc g (QV (fun c => mrg c X) Q)) (kA K) (kS K) (kc K) (ks K) (gS g)) (hdd : 5 ≤ dd) (u1 : Int) (u2 : Int) (u3 : Int) (k : Int → Mem → Option (Mem × Int)) (hk : ∀ (v4 : Int) (C : Mem), wpO (k v4 C) Q → Wn K g (mrg C X) 28 [some (.ref (gA g 2)), some (.int (I (u1))), some (.int (I (u2))), some (.int (I (u3))), some (.int (I (v4)))] []) : ∀ (n : Nat) (v4 : Int) (C : Mem), wpO (f_X0_loadRow_3 u1 u2 u3 k n v4 C) Q → Wn K g (mrg C X) 3 [some (.ref (gA g 2)), some (.int (I (u1))), some (.int (I (u2))), some (.int (I (u3))), some (.int (I (v4)))] [] := by
  intro n
  induction n with
  | zero => intro v4 C h; exact (wpO_none h).elim
  | succ n ih =>
    intro v4 C h
    unfold f_X0_loadRow_3 at h
    refine r_iload hK dX0_loadRow_3 rfl ?_
    refine r_bipush hK dX0_loadRow_5 (by decide) ?_
    refine r_icmp_ge hK dX0_loadRow_7 (t := 28) (by decide) (wpO_lt h) (fun h => ?_) (fun h => ?_)
    · refine r_aload_n hK dX0_loadRow_10 rfl ?_
      refine r_getR (k := 2) (k' := 1) hK cls_0 fl_RX0_30 (by decide) (by omega) rfl rfl dX0_loadRow_11 ?_
      refine r_iload hK dX0_loadRow_14 rfl ?_
      refine r_callV hK ck_X6_pageOf im_X6_pageOf sl_X6_pageOf ml_RX0_97 (by omega) (c_X6_pageOf (l := kL K) (g := g) (X := X) (v4) C (wpO_bd h)) cls_6 (k := 1) (by omega) rfl (As := [.int (I (v4))]) (st := []) rfl (Nat.le_of_ble_eq_true rfl) dX0_loadRow_16 (kkP (fun C16 r16 hr16 h => ?_))
      refine r_callV hK ck_X4_release im_X4_release sl_X4_release ml_RX0_166 (by omega) (c_X4_release (l := kL K) (g := g) (X := X) r16 hr16 C16 (wpO_bd h)) cls_4 (k := (27 + r16)) (by omega) (sh_page hr16) (As := []) (st := []) rfl (Nat.le_of_ble_eq_true rfl) dX0_loadRow_19 (kkV (fun C19 h => ?_))
      refine r_iinc hK dX0_loadRow_22 (by rw [hN]; decide) rfl rfl (lv' := [some (.ref (gA g 2)), some (.int (I (u1))), some (.int (I (u2))), some (.int (I (u3))), some (.int (I (v4 + 1)))]) rfl ?_
      refine r_goto hK dX0_loadRow_25 (t := 3) (by decide) ?_
      exact ih (v4 + 1) C19 h
    · exact hk (v4) C h
set_option maxRecDepth 100000 in
set_option maxHeartbeats 4000000 in
theorem c_X0_loadRow {l : Launch} {g : GT} {X : Mem} {Q : Mem → Int → Prop} (a1 : Int) (a2 : Int) (a3 : Int) (C : Mem) (h : wpO (f_X0_loadRow a1 a2 a3 C) Q) : MetC l yX0_loadRow cX0_loadRow 5 none 5 g [.ref (gA g 2), .int (I (a1)), .int (I (a2)), .int (I (a3))] (mrg C X) (QV (fun c => mrg c X) Q) := by
  refine met_at 1 (lv := [some (.ref (gA g 2)), some (.int (I (a1))), some (.int (I (a2))), some (.int (I (a3))), none]) (by decide) (Nat.le_of_ble_eq_true rfl) rfl rfl (fun K hK hN hr hQ => ?_)
  unfold f_X0_loadRow at h
  refine r_iconst hK dX0_loadRow_0 ?_
  refine r_istore hK dX0_loadRow_1 (by rw [hN]; decide) rfl (lv' := [some (.ref (gA g 2)), some (.int (I (a1))), some (.int (I (a2))), some (.int (I (a3))), some (.int (I (0)))]) rfl ?_
  refine w_X0_loadRow_3 hK hN hr hQ (by omega) (a1) (a2) (a3) _ (fun v4_e3 C_e3 h => ?_) FU (0) C h
  refine r_aload_n hK dX0_loadRow_28 rfl ?_
  refine r_getR (k := 2) (k' := 1) hK cls_0 fl_RX0_30 (by decide) (by omega) rfl rfl dX0_loadRow_29 ?_
  refine r_iconst hK dX0_loadRow_32 ?_
  refine r_putN (k := 1) hK cls_6 fl_RX0_122 (by decide) (by omega) rfl rfl rfl rfl rfl dX0_loadRow_33 (up_c (by omega)) ?_
  refine r_aload_n hK dX0_loadRow_36 rfl ?_
  refine r_getR (k := 2) (k' := 1) hK cls_0 fl_RX0_30 (by decide) (by omega) rfl rfl dX0_loadRow_37 ?_
  refine r_iconst hK dX0_loadRow_40 ?_
  refine r_putN (k := 1) hK cls_6 fl_RX0_40 (by decide) (by omega) rfl rfl rfl rfl rfl dX0_loadRow_41 (up_c (by omega)) ?_
  refine r_aload_n hK dX0_loadRow_44 rfl ?_
  refine r_iload_n hK dX0_loadRow_45 rfl ?_
  refine r_iload_n hK dX0_loadRow_46 rfl ?_
  refine r_iload_n hK dX0_loadRow_47 rfl ?_
  refine r_callV hK ck_X0_fillLeaves im_X0_fillLeaves sl_X0_fillLeaves ml_RX0_181 (by omega) (c_X0_fillLeaves (l := kL K) (g := g) (X := X) (a1) (a2) (a3) (up (up C_e3 1 4 (0)) 1 5 (1)) (wpO_bd h)) cls_0 (k := 2) (by omega) rfl (As := [.int (I (a1)), .int (I (a2)), .int (I (a3))]) (st := []) rfl (Nat.le_of_ble_eq_true rfl) dX0_loadRow_48 (kkI (fun C48 r48 h => ?_))
  refine r_istore hK dX0_loadRow_51 (by rw [hN]; decide) rfl (lv' := [some (.ref (gA g 2)), some (.int (I (a1))), some (.int (I (a2))), some (.int (I (a3))), some (.int (I (r48)))]) rfl ?_
  refine r_iload hK dX0_loadRow_53 rfl ?_
  refine r_if_le hK dX0_loadRow_55 (t := 70) (by decide) (wpO_lt h) (fun h => ?_) (fun h => ?_)
  · refine r_aload_n hK dX0_loadRow_58 rfl ?_
    refine r_iload hK dX0_loadRow_59 rfl ?_
    refine r_callV hK ck_X0_shareWithLast im_X0_shareWithLast sl_X0_shareWithLast ml_RX0_185 (by omega) (c_X0_shareWithLast (l := kL K) (g := g) (X := X) (r48) C48 (wpO_bd h)) cls_0 (k := 2) (by omega) rfl (As := [.int (I (r48))]) (st := []) rfl (Nat.le_of_ble_eq_true rfl) dX0_loadRow_61 (kkV (fun C61 h => ?_))
    refine r_aload_n hK dX0_loadRow_64 rfl ?_
    refine r_iload hK dX0_loadRow_65 rfl ?_
    refine r_callV hK ck_X0_coverLeaves im_X0_coverLeaves sl_X0_coverLeaves ml_RX0_188 (by omega) (c_X0_coverLeaves (l := kL K) (g := g) (X := X) (r48) C61 (wpO_bd h)) cls_0 (k := 2) (by omega) rfl (As := [.int (I (r48))]) (st := []) rfl (Nat.le_of_ble_eq_true rfl) dX0_loadRow_67 (kkV (fun C67 h => ?_))
    exact r_return hK hr hQ dX0_loadRow_70 ⟨C67, rfl, rfl, wpO_some h⟩
  · exact r_return hK hr hQ dX0_loadRow_70 ⟨C48, rfl, rfl, wpO_some h⟩

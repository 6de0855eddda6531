set_option maxRecDepth 100000 in
set_option maxHeartbeats 4000000 in
theorem c_X5_add {l : Launch} {g : GT} {X : Mem} {Q : Mem → Int → Prop} (a1 : Int) (C : Mem) (h : wpO (f_X5_add a1 C) Q) : MetC l yX5_add cX5_add 2 (some .boolean) 1 g [.ref (gA g 4), .int (I (a1))] (mrg C X) (QI (fun c => mrg c X) Q) := by
  refine met_at 0 (lv := [some (.ref (gA g 4)), some (.int (I (a1)))]) (by decide) (Nat.le_of_ble_eq_true rfl) rfl rfl (fun K hK hN hr hQ => ?_)
  unfold f_X5_add at h
  refine r_aload_n hK dX5_add_0 rfl ?_
  refine r_getI (k := 4) hK cls_5 fl_RX5_25 (by decide) (by omega) rfl rfl dX5_add_1 (mrg_c (by omega)) ?_
  refine r_if_lt hK dX5_add_4 (t := 19) (by decide) (wpO_lt h) (fun h => ?_) (fun h => ?_)
  · refine r_iconst hK dX5_add_19 ?_
    exact r_ireturn hK hr hQ (nar_b (by decide)) dX5_add_20 ⟨C, 0, rfl, rfl, wpO_some h⟩
  · refine r_aload_n hK dX5_add_7 rfl ?_
    refine r_getI (k := 4) hK cls_5 fl_RX5_25 (by decide) (by omega) rfl rfl dX5_add_8 (mrg_c (by omega)) ?_
    refine r_aload_n hK dX5_add_11 rfl ?_
    refine r_getR (k := 4) (k' := (25)) hK cls_5 fl_RX5_9 (by decide) (by omega) rfl rfl dX5_add_12 ?_
    refine r_alen (k := (25)) hK (by omega) rfl (by decide) dX5_add_15 ?_
    refine r_icmp_lt hK dX5_add_16 (t := 21) (by decide) (wpO_lt h) (fun h => ?_) (fun h => ?_)
    · refine r_aload_n hK dX5_add_21 rfl ?_
      refine r_getR (k := 4) (k' := (25)) hK cls_5 fl_RX5_9 (by decide) (by omega) rfl rfl dX5_add_22 ?_
      refine r_aload_n hK dX5_add_25 rfl ?_
      refine r_getI (k := 4) hK cls_5 fl_RX5_25 (by decide) (by omega) rfl rfl dX5_add_26 (mrg_c (by omega)) ?_
      refine r_iload_n hK dX5_add_29 rfl ?_
      obtain ⟨hb30, h⟩ := wpO_ix h
      refine r_iastore (k := (25)) hK (by omega) rfl (by decide) hb30 dX5_add_30 (up_c (by omega)) ?_
      refine r_aload_n hK dX5_add_31 rfl ?_
      refine r_dup hK dX5_add_32 rfl ?_
      refine r_getI (k := 4) hK cls_5 fl_RX5_25 (by decide) (by omega) rfl rfl dX5_add_33 (mrg_c (by omega)) ?_
      refine r_iconst hK dX5_add_36 ?_
      refine r_iadd hK dX5_add_37 ?_
      refine r_put (k := 4) hK cls_5 fl_RX5_25 (by decide) (by omega) rfl rfl rfl rfl rfl dX5_add_38 (up_c (by omega)) ?_
      refine r_iconst hK dX5_add_41 ?_
      exact r_ireturn hK hr hQ (nar_b (by decide)) dX5_add_42 ⟨(up (up C (25) (C 4 1).toNat (a1)) 4 1 (((up C (25) (C 4 1).toNat (a1)) 4 1) + 1)), 1, rfl, rfl, wpO_some h⟩
    · refine r_iconst hK dX5_add_19 ?_
      exact r_ireturn hK hr hQ (nar_b (by decide)) dX5_add_20 ⟨C, 0, rfl, rfl, wpO_some h⟩
set_option maxRecDepth 100000 in
set_option maxHeartbeats 4000000 in
theorem c_X5_rewind {l : Launch} {g : GT} {X : Mem} {Q : Mem → Int → Prop} (C : Mem) (h : wpO (f_X5_rewind C) Q) : MetC l yX5_rewind cX5_rewind 1 none 1 g [.ref (gA g 4)] (mrg C X) (QV (fun c => mrg c X) Q) := by
  refine met_at 0 (lv := [some (.ref (gA g 4))]) (by decide) (Nat.le_of_ble_eq_true rfl) rfl rfl (fun K hK hN hr hQ => ?_)
  unfold f_X5_rewind at h
  refine r_aload_n hK dX5_rewind_0 rfl ?_
  refine r_iconst hK dX5_rewind_1 ?_
  refine r_put (k := 4) hK cls_5 fl_RX5_29 (by decide) (by omega) rfl rfl rfl rfl rfl dX5_rewind_2 (up_c (by omega)) ?_
  exact r_return hK hr hQ dX5_rewind_5 ⟨(up C 4 3 (0)), rfl, rfl, wpO_some h⟩
set_option maxRecDepth 100000 in
set_option maxHeartbeats 4000000 in
theorem c_X5_at {l : Launch} {g : GT} {X : Mem} {Q : Mem → Int → Prop} (a1 : Int) (C : Mem) (h : wpO (f_X5_at a1 C) Q) : MetC l yX5_at cX5_at 2 (some .int) 1 g [.ref (gA g 4), .int (I (a1))] (mrg C X) (QI (fun c => mrg c X) Q) := by
  refine met_at 0 (lv := [some (.ref (gA g 4)), some (.int (I (a1)))]) (by decide) (Nat.le_of_ble_eq_true rfl) rfl rfl (fun K hK hN hr hQ => ?_)
  unfold f_X5_at at h
  refine r_iload_n hK dX5_at_0 rfl ?_
  refine r_if_lt hK dX5_at_1 (t := 30) (by decide) (wpO_lt h) (fun h => ?_) (fun h => ?_)
  · refine r_iconst hK dX5_at_30 ?_
    exact r_ireturn hK hr hQ rfl dX5_at_31 ⟨C, 0, rfl, rfl, wpO_some h⟩
  · refine r_iload_n hK dX5_at_4 rfl ?_
    refine r_aload_n hK dX5_at_5 rfl ?_
    refine r_getI (k := 4) hK cls_5 fl_RX5_25 (by decide) (by omega) rfl rfl dX5_at_6 (mrg_c (by omega)) ?_
    refine r_icmp_ge hK dX5_at_9 (t := 30) (by decide) (wpO_lt h) (fun h => ?_) (fun h => ?_)
    · refine r_iload_n hK dX5_at_12 rfl ?_
      refine r_aload_n hK dX5_at_13 rfl ?_
      refine r_getR (k := 4) (k' := (25)) hK cls_5 fl_RX5_9 (by decide) (by omega) rfl rfl dX5_at_14 ?_
      refine r_alen (k := (25)) hK (by omega) rfl (by decide) dX5_at_17 ?_
      refine r_icmp_ge hK dX5_at_18 (t := 30) (by decide) (wpO_lt h) (fun h => ?_) (fun h => ?_)
      · refine r_aload_n hK dX5_at_21 rfl ?_
        refine r_getR (k := 4) (k' := (25)) hK cls_5 fl_RX5_9 (by decide) (by omega) rfl rfl dX5_at_22 ?_
        refine r_iload_n hK dX5_at_25 rfl ?_
        obtain ⟨hb26, h⟩ := wpO_ix h
        refine r_iaload (k := (25)) hK (by omega) rfl (by decide) hb26 dX5_at_26 (mrg_c (by omega)) ?_
        refine r_goto hK dX5_at_27 (t := 31) (by decide) ?_
        exact r_ireturn hK hr hQ rfl dX5_at_31 ⟨C, (C (25) (a1).toNat), rfl, rfl, wpO_some h⟩
      · refine r_iconst hK dX5_at_30 ?_
        exact r_ireturn hK hr hQ rfl dX5_at_31 ⟨C, 0, rfl, rfl, wpO_some h⟩
    · refine r_iconst hK dX5_at_30 ?_
      exact r_ireturn hK hr hQ rfl dX5_at_31 ⟨C, 0, rfl, rfl, wpO_some h⟩
set_option maxRecDepth 100000 in
set_option maxHeartbeats 4000000 in
theorem c_X5_isFigure {l : Launch} {g : GT} {X : Mem} {Q : Mem → Int → Prop} (a0 : Int) (C : Mem) (h : wpO (f_X5_isFigure a0 C) Q) : MetC l yX5_isFigure cX5_isFigure 1 (some .boolean) 1 g [.int (I (a0))] (mrg C X) (QI (fun c => mrg c X) Q) := by
  refine met_at 0 (lv := [some (.int (I (a0)))]) (by decide) (Nat.le_of_ble_eq_true rfl) rfl rfl (fun K hK hN hr hQ => ?_)
  unfold f_X5_isFigure at h
  refine r_iload_n hK dX5_isFigure_0 rfl ?_
  refine r_bipush hK dX5_isFigure_1 (by decide) ?_
  refine r_icmp_lt hK dX5_isFigure_3 (t := 16) (by decide) (wpO_lt h) (fun h => ?_) (fun h => ?_)
  · refine r_iconst hK dX5_isFigure_16 ?_
    exact r_ireturn hK hr hQ (nar_b (by decide)) dX5_isFigure_17 ⟨C, 0, rfl, rfl, wpO_some h⟩
  · refine r_iload_n hK dX5_isFigure_6 rfl ?_
    refine r_bipush hK dX5_isFigure_7 (by decide) ?_
    refine r_icmp_gt hK dX5_isFigure_9 (t := 16) (by decide) (wpO_lt h) (fun h => ?_) (fun h => ?_)
    · refine r_iconst hK dX5_isFigure_16 ?_
      exact r_ireturn hK hr hQ (nar_b (by decide)) dX5_isFigure_17 ⟨C, 0, rfl, rfl, wpO_some h⟩
    · refine r_iconst hK dX5_isFigure_12 ?_
      refine r_goto hK dX5_isFigure_13 (t := 17) (by decide) ?_
      exact r_ireturn hK hr hQ (nar_b (by decide)) dX5_isFigure_17 ⟨C, 1, rfl, rfl, wpO_some h⟩
set_option maxRecDepth 100000 in
set_option maxHeartbeats 4000000 in
theorem w_X5_readFigures_15 {K : KT} {g : GT} {X : Mem} {dd : Nat} (hK : Kok K g cX5_readFigures RX5 dd) (hN : kN K = 2) (hr : (kMe K).sig.returnType = none) {Q : Mem → Int → Prop} (hQ : kQ K = MQ (kB K) (Qc g (QV (fun c => mrg c X) Q)) (kA K) (kS K) (kc K) (ks K) (gS g)) (hdd : 2 ≤ dd) (k : Mem → Option (Mem × Int)) (hk : ∀ (C : Mem), wpO (k C) Q → Wn K g (mrg C X) 85 [some (.ref (gA g 4)), none] []) : ∀ (n : Nat) (C : Mem), wpO (f_X5_readFigures_15 k n C) Q → Wn K g (mrg C X) 15 [some (.ref (gA g 4)), none] [] := by
  intro n
  induction n with
  | zero => intro C h; exact (wpO_none h).elim
  | succ n ih =>
    intro C h
    unfold f_X5_readFigures_15 at h
    refine r_aload_n hK dX5_readFigures_15 rfl ?_
    refine r_getI (k := 4) hK cls_5 fl_RX5_29 (by decide) (by omega) rfl rfl dX5_readFigures_16 (mrg_c (by omega)) ?_
    refine r_aload_n hK dX5_readFigures_19 rfl ?_
    refine r_getI (k := 4) hK cls_5 fl_RX5_25 (by decide) (by omega) rfl rfl dX5_readFigures_20 (mrg_c (by omega)) ?_
    refine r_icmp_ge hK dX5_readFigures_23 (t := 85) (by decide) (wpO_lt h) (fun h => ?_) (fun h => ?_)
    · refine r_aload_n hK dX5_readFigures_26 rfl ?_
      refine r_aload_n hK dX5_readFigures_27 rfl ?_
      refine r_getI (k := 4) hK cls_5 fl_RX5_29 (by decide) (by omega) rfl rfl dX5_readFigures_28 (mrg_c (by omega)) ?_
      refine r_callV hK ck_X5_at im_X5_at sl_X5_at ml_RX5_84 (by omega) (c_X5_at (l := kL K) (g := g) (X := X) (C 4 3) C (wpO_bd h)) cls_5 (k := 4) (by omega) rfl (As := [.int (I (C 4 3))]) (st := []) rfl (Nat.le_of_ble_eq_true rfl) dX5_readFigures_31 (kkI (fun C31 r31 h => ?_))
      refine r_callS hK ck_X5_isFigure sc_X5_isFigure ml_RX5_110 (by omega) (c_X5_isFigure (l := kL K) (g := g) (X := X) (r31) C31 (wpO_bd h)) (As := [.int (I (r31))]) (st := []) rfl (Nat.le_of_ble_eq_true rfl) dX5_readFigures_34 (kkI (fun C34 r34 h => ?_))
      refine r_if_eq hK dX5_readFigures_37 (t := 85) (by decide) (wpO_eq h) (fun h => ?_) (fun h => ?_)
      · exact hk C34 h
      · refine r_aload_n hK dX5_readFigures_40 rfl ?_
        refine r_getI (k := 4) hK cls_5 fl_RX5_91 (by decide) (by omega) rfl rfl dX5_readFigures_41 (mrg_c (by omega)) ?_
        refine r_ldc hK kc_RX5_116 dX5_readFigures_44 ?_
        refine r_jn (J := fun j72 => ∀ (C_72 : Mem), wpO (j72 C_72) Q → Wn K g (mrg C_72 X) 72 [some (.ref (gA g 4)), none] []) h ?_ ?_
        · intro C_72 h
          refine r_aload_n hK dX5_readFigures_72 rfl ?_
          refine r_dup hK dX5_readFigures_73 rfl ?_
          refine r_getI (k := 4) hK cls_5 fl_RX5_29 (by decide) (by omega) rfl rfl dX5_readFigures_74 (mrg_c (by omega)) ?_
          refine r_iconst hK dX5_readFigures_77 ?_
          refine r_iadd hK dX5_readFigures_78 ?_
          refine r_put (k := 4) hK cls_5 fl_RX5_29 (by decide) (by omega) rfl rfl rfl rfl rfl dX5_readFigures_79 (up_c (by omega)) ?_
          refine r_goto hK dX5_readFigures_82 (t := 15) (by decide) ?_
          exact ih (up C_72 4 3 ((C_72 4 3) + 1)) h
        · intro hj72 h
          refine r_icmp_gt hK dX5_readFigures_46 (t := 72) (by decide) (wpO_lt h) (fun h => ?_) (fun h => ?_)
          · exact hj72 C34 h
          · refine r_aload_n hK dX5_readFigures_49 rfl ?_
            refine r_bipush hK dX5_readFigures_50 (by decide) ?_
            refine r_aload_n hK dX5_readFigures_52 rfl ?_
            refine r_getI (k := 4) hK cls_5 fl_RX5_91 (by decide) (by omega) rfl rfl dX5_readFigures_53 (mrg_c (by omega)) ?_
            refine r_imul hK dX5_readFigures_56 ?_
            refine r_aload_n hK dX5_readFigures_57 rfl ?_
            refine r_aload_n hK dX5_readFigures_58 rfl ?_
            refine r_getI (k := 4) hK cls_5 fl_RX5_29 (by decide) (by omega) rfl rfl dX5_readFigures_59 (mrg_c (by omega)) ?_
            refine r_callV hK ck_X5_at im_X5_at sl_X5_at ml_RX5_84 (by omega) (c_X5_at (l := kL K) (g := g) (X := X) (C34 4 3) C34 (wpO_bd h)) cls_5 (k := 4) (by omega) rfl (As := [.int (I (C34 4 3))]) (st := [.int (I (10 * (C34 4 5))), .ref (gA g 4)]) rfl (Nat.le_of_ble_eq_true rfl) dX5_readFigures_62 (kkI (fun C62 r62 h => ?_))
            refine r_iadd hK dX5_readFigures_65 ?_
            refine r_bipush hK dX5_readFigures_66 (by decide) ?_
            refine r_isub hK dX5_readFigures_68 ?_
            refine r_put (k := 4) hK cls_5 fl_RX5_91 (by decide) (by omega) rfl rfl rfl rfl rfl dX5_readFigures_69 (up_c (by omega)) ?_
            exact hj72 (up C62 4 5 (((10 * (C34 4 5)) + r62) - 48)) h
    · exact hk C h
set_option maxRecDepth 100000 in
set_option maxHeartbeats 4000000 in
theorem c_X5_readFigures {l : Launch} {g : GT} {X : Mem} {Q : Mem → Int → Prop} (C : Mem) (h : wpO (f_X5_readFigures C) Q) : MetC l yX5_readFigures cX5_readFigures 2 none 2 g [.ref (gA g 4)] (mrg C X) (QV (fun c => mrg c X) Q) := by
  refine met_at 1 (lv := [some (.ref (gA g 4)), none]) (by decide) (Nat.le_of_ble_eq_true rfl) rfl rfl (fun K hK hN hr hQ => ?_)
  unfold f_X5_readFigures at h
  refine r_aload_n hK dX5_readFigures_0 rfl ?_
  refine r_aload_n hK dX5_readFigures_1 rfl ?_
  refine r_aload_n hK dX5_readFigures_2 rfl ?_
  refine r_getI (k := 4) hK cls_5 fl_RX5_42 (by decide) (by omega) rfl rfl dX5_readFigures_3 (mrg_c (by omega)) ?_
  refine r_callV hK ck_X5_at im_X5_at sl_X5_at ml_RX5_84 (by omega) (c_X5_at (l := kL K) (g := g) (X := X) (C 4 2) C (wpO_bd h)) cls_5 (k := 4) (by omega) rfl (As := [.int (I (C 4 2))]) (st := [.ref (gA g 4)]) rfl (Nat.le_of_ble_eq_true rfl) dX5_readFigures_6 (kkI (fun C6 r6 h => ?_))
  refine r_bipush hK dX5_readFigures_9 (by decide) ?_
  refine r_isub hK dX5_readFigures_11 ?_
  refine r_put (k := 4) hK cls_5 fl_RX5_91 (by decide) (by omega) rfl rfl rfl rfl rfl dX5_readFigures_12 (up_c (by omega)) ?_
  refine w_X5_readFigures_15 hK hN hr hQ (by omega) _ (fun C_e15 h => ?_) FU (up C6 4 5 (r6 - 48)) h
  refine r_aload_n hK dX5_readFigures_85 rfl ?_
  refine r_aload_n hK dX5_readFigures_86 rfl ?_
  refine r_getI (k := 4) hK cls_5 fl_RX5_42 (by decide) (by omega) rfl rfl dX5_readFigures_87 (mrg_c (by omega)) ?_
  refine r_callV hK ck_X5_at im_X5_at sl_X5_at ml_RX5_84 (by omega) (c_X5_at (l := kL K) (g := g) (X := X) (C_e15 4 2) C_e15 (wpO_bd h)) cls_5 (k := 4) (by omega) rfl (As := [.int (I (C_e15 4 2))]) (st := []) rfl (Nat.le_of_ble_eq_true rfl) dX5_readFigures_90 (kkI (fun C90 r90 h => ?_))
  refine r_bipush hK dX5_readFigures_93 (by decide) ?_
  refine r_jn (J := fun j116 => ∀ (s0_116 : Int), wpO (j116 s0_116) Q → Wn K g (mrg C90 X) 116 [some (.ref (gA g 4)), none] [.int (I (s0_116))]) h ?_ ?_
  · intro s0_116 h
    refine r_istore_n hK dX5_readFigures_116 (by rw [hN]; decide) rfl (lv' := [some (.ref (gA g 4)), some (.int (I (s0_116)))]) rfl ?_
    refine r_aload_n hK dX5_readFigures_117 rfl ?_
    refine r_aload_n hK dX5_readFigures_118 rfl ?_
    refine r_getI (k := 4) hK cls_5 fl_RX5_91 (by decide) (by omega) rfl rfl dX5_readFigures_119 (mrg_c (by omega)) ?_
    refine r_ldc hK kc_RX5_116 dX5_readFigures_122 ?_
    refine r_icmp_gt hK dX5_readFigures_124 (t := 131) (by decide) (wpO_lt h) (fun h => ?_) (fun h => ?_)
    · refine r_iconst hK dX5_readFigures_131 ?_
      refine r_goto hK dX5_readFigures_132 (t := 136) (by decide) ?_
      refine r_put (k := 4) hK cls_5 fl_RX5_48 (by decide) (by omega) rfl rfl rfl rfl rfl dX5_readFigures_136 (up_c (by omega)) ?_
      exact r_return hK hr hQ dX5_readFigures_139 ⟨(up C90 4 4 (4)), rfl, rfl, wpO_some h⟩
    · refine r_iload_n hK dX5_readFigures_127 rfl ?_
      refine r_if_eq hK dX5_readFigures_128 (t := 135) (by decide) (wpO_eq h) (fun h => ?_) (fun h => ?_)
      · refine r_iconst hK dX5_readFigures_135 ?_
        refine r_put (k := 4) hK cls_5 fl_RX5_48 (by decide) (by omega) rfl rfl rfl rfl rfl dX5_readFigures_136 (up_c (by omega)) ?_
        exact r_return hK hr hQ dX5_readFigures_139 ⟨(up C90 4 4 (2)), rfl, rfl, wpO_some h⟩
      · refine r_iconst hK dX5_readFigures_131 ?_
        refine r_goto hK dX5_readFigures_132 (t := 136) (by decide) ?_
        refine r_put (k := 4) hK cls_5 fl_RX5_48 (by decide) (by omega) rfl rfl rfl rfl rfl dX5_readFigures_136 (up_c (by omega)) ?_
        exact r_return hK hr hQ dX5_readFigures_139 ⟨(up C90 4 4 (4)), rfl, rfl, wpO_some h⟩
  · intro hj116 h
    refine r_jn (J := fun j115 => wpO (j115) Q → Wn K g (mrg C90 X) 115 [some (.ref (gA g 4)), none] []) h ?_ ?_
    · intro h
      refine r_iconst hK dX5_readFigures_115 ?_
      exact hj116 (0) h
    · intro hj115 h
      refine r_icmp_ne hK dX5_readFigures_95 (t := 115) (by decide) (wpO_eq h) (fun h => ?_) (fun h => ?_)
      · refine r_aload_n hK dX5_readFigures_98 rfl ?_
        refine r_getI (k := 4) hK cls_5 fl_RX5_29 (by decide) (by omega) rfl rfl dX5_readFigures_99 (mrg_c (by omega)) ?_
        refine r_aload_n hK dX5_readFigures_102 rfl ?_
        refine r_getI (k := 4) hK cls_5 fl_RX5_42 (by decide) (by omega) rfl rfl dX5_readFigures_103 (mrg_c (by omega)) ?_
        refine r_isub hK dX5_readFigures_106 ?_
        refine r_iconst hK dX5_readFigures_107 ?_
        refine r_icmp_le hK dX5_readFigures_108 (t := 115) (by decide) (wpO_lt h) (fun h => ?_) (fun h => ?_)
        · refine r_iconst hK dX5_readFigures_111 ?_
          refine r_goto hK dX5_readFigures_112 (t := 116) (by decide) ?_
          exact hj116 (1) h
        · exact hj115 h
      · exact hj115 h
set_option maxRecDepth 100000 in
set_option maxHeartbeats 4000000 in
theorem w_X5_readToken_8 {K : KT} {g : GT} {X : Mem} {dd : Nat} (hK : Kok K g cX5_readToken RX5 dd) (hN : kN K = 1) (hr : (kMe K).sig.returnType = none) {Q : Mem → Int → Prop} (hQ : kQ K = MQ (kB K) (Qc g (QV (fun c => mrg c X) Q)) (kA K) (kS K) (kc K) (ks K) (gS g)) (hdd : 3 ≤ dd) (k : Mem → Option (Mem × Int)) (hk : ∀ (C : Mem), wpO (k C) Q → Wn K g (mrg C X) 45 [some (.ref (gA g 4))] []) : ∀ (n : Nat) (C : Mem), wpO (f_X5_readToken_8 k n C) Q → Wn K g (mrg C X) 8 [some (.ref (gA g 4))] [] := by
  intro n
  induction n with
  | zero => intro C h; exact (wpO_none h).elim
  | succ n ih =>
    intro C h
    unfold f_X5_readToken_8 at h
    refine r_aload_n hK dX5_readToken_8 rfl ?_
    refine r_getI (k := 4) hK cls_5 fl_RX5_42 (by decide) (by omega) rfl rfl dX5_readToken_9 (mrg_c (by omega)) ?_
    refine r_aload_n hK dX5_readToken_12 rfl ?_
    refine r_getI (k := 4) hK cls_5 fl_RX5_25 (by decide) (by omega) rfl rfl dX5_readToken_13 (mrg_c (by omega)) ?_
    refine r_icmp_ge hK dX5_readToken_16 (t := 45) (by decide) (wpO_lt h) (fun h => ?_) (fun h => ?_)
    · refine r_aload_n hK dX5_readToken_19 rfl ?_
      refine r_aload_n hK dX5_readToken_20 rfl ?_
      refine r_getI (k := 4) hK cls_5 fl_RX5_42 (by decide) (by omega) rfl rfl dX5_readToken_21 (mrg_c (by omega)) ?_
      refine r_callV hK ck_X5_at im_X5_at sl_X5_at ml_RX5_84 (by omega) (c_X5_at (l := kL K) (g := g) (X := X) (C 4 2) C (wpO_bd h)) cls_5 (k := 4) (by omega) rfl (As := [.int (I (C 4 2))]) (st := []) rfl (Nat.le_of_ble_eq_true rfl) dX5_readToken_24 (kkI (fun C24 r24 h => ?_))
      refine r_bipush hK dX5_readToken_27 (by decide) ?_
      refine r_icmp_ne hK dX5_readToken_29 (t := 45) (by decide) (wpO_eq h) (fun h => ?_) (fun h => ?_)
      · refine r_aload_n hK dX5_readToken_32 rfl ?_
        refine r_dup hK dX5_readToken_33 rfl ?_
        refine r_getI (k := 4) hK cls_5 fl_RX5_42 (by decide) (by omega) rfl rfl dX5_readToken_34 (mrg_c (by omega)) ?_
        refine r_iconst hK dX5_readToken_37 ?_
        refine r_iadd hK dX5_readToken_38 ?_
        refine r_put (k := 4) hK cls_5 fl_RX5_42 (by decide) (by omega) rfl rfl rfl rfl rfl dX5_readToken_39 (up_c (by omega)) ?_
        refine r_goto hK dX5_readToken_42 (t := 8) (by decide) ?_
        exact ih (up C24 4 2 ((C24 4 2) + 1)) h
      · exact hk C24 h
    · exact hk C h
set_option maxRecDepth 100000 in
set_option maxHeartbeats 4000000 in
theorem w_X5_readToken_99 {K : KT} {g : GT} {X : Mem} {dd : Nat} (hK : Kok K g cX5_readToken RX5 dd) (hN : kN K = 1) (hr : (kMe K).sig.returnType = none) {Q : Mem → Int → Prop} (hQ : kQ K = MQ (kB K) (Qc g (QV (fun c => mrg c X) Q)) (kA K) (kS K) (kc K) (ks K) (gS g)) (hdd : 3 ≤ dd) (k : Mem → Option (Mem × Int)) (hk : ∀ (C : Mem), wpO (k C) Q → Wn K g (mrg C X) 137 [some (.ref (gA g 4))] []) : ∀ (n : Nat) (C : Mem), wpO (f_X5_readToken_99 k n C) Q → Wn K g (mrg C X) 99 [some (.ref (gA g 4))] [] := by
  intro n
  induction n with
  | zero => intro C h; exact (wpO_none h).elim
  | succ n ih =>
    intro C h
    unfold f_X5_readToken_99 at h
    refine r_aload_n hK dX5_readToken_99 rfl ?_
    refine r_getI (k := 4) hK cls_5 fl_RX5_29 (by decide) (by omega) rfl rfl dX5_readToken_100 (mrg_c (by omega)) ?_
    refine r_aload_n hK dX5_readToken_103 rfl ?_
    refine r_getI (k := 4) hK cls_5 fl_RX5_25 (by decide) (by omega) rfl rfl dX5_readToken_104 (mrg_c (by omega)) ?_
    refine r_icmp_ge hK dX5_readToken_107 (t := 180) (by decide) (wpO_lt h) (fun h => ?_) (fun h => ?_)
    · refine r_aload_n hK dX5_readToken_110 rfl ?_
      refine r_aload_n hK dX5_readToken_111 rfl ?_
      refine r_getI (k := 4) hK cls_5 fl_RX5_29 (by decide) (by omega) rfl rfl dX5_readToken_112 (mrg_c (by omega)) ?_
      refine r_callV hK ck_X5_at im_X5_at sl_X5_at ml_RX5_84 (by omega) (c_X5_at (l := kL K) (g := g) (X := X) (C 4 3) C (wpO_bd h)) cls_5 (k := 4) (by omega) rfl (As := [.int (I (C 4 3))]) (st := []) rfl (Nat.le_of_ble_eq_true rfl) dX5_readToken_115 (kkI (fun C115 r115 h => ?_))
      refine r_callSN hK ck_X7_isLetter sc_X7_isLetter ml_RX5_106 (by omega) (c_X7_isLetter (l := kL K) (g := g) (X := X) (r115) C115 (wpO_bd h)) (As := [.int (I (r115))]) (st := []) rfl (Nat.le_of_ble_eq_true rfl) dX5_readToken_118 (kkI (fun C118 r118 h => ?_))
      refine r_if_eq hK dX5_readToken_121 (t := 180) (by decide) (wpO_eq h) (fun h => ?_) (fun h => ?_)
      · exact r_return hK hr hQ dX5_readToken_180 ⟨C118, rfl, rfl, wpO_some h⟩
      · refine r_aload_n hK dX5_readToken_124 rfl ?_
        refine r_dup hK dX5_readToken_125 rfl ?_
        refine r_getI (k := 4) hK cls_5 fl_RX5_29 (by decide) (by omega) rfl rfl dX5_readToken_126 (mrg_c (by omega)) ?_
        refine r_iconst hK dX5_readToken_129 ?_
        refine r_iadd hK dX5_readToken_130 ?_
        refine r_put (k := 4) hK cls_5 fl_RX5_29 (by decide) (by omega) rfl rfl rfl rfl rfl dX5_readToken_131 (up_c (by omega)) ?_
        refine r_goto hK dX5_readToken_134 (t := 99) (by decide) ?_
        exact ih (up C118 4 3 ((C118 4 3) + 1)) h
    · exact r_return hK hr hQ dX5_readToken_180 ⟨C, rfl, rfl, wpO_some h⟩
set_option maxRecDepth 100000 in
set_option maxHeartbeats 4000000 in
theorem c_X5_readToken {l : Launch} {g : GT} {X : Mem} {Q : Mem → Int → Prop} (C : Mem) (h : wpO (f_X5_readToken C) Q) : MetC l yX5_readToken cX5_readToken 1 none 3 g [.ref (gA g 4)] (mrg C X) (QV (fun c => mrg c X) Q) := by
  refine met_at 0 (lv := [some (.ref (gA g 4))]) (by decide) (Nat.le_of_ble_eq_true rfl) rfl rfl (fun K hK hN hr hQ => ?_)
  unfold f_X5_readToken at h
  refine r_aload_n hK dX5_readToken_0 rfl ?_
  refine r_aload_n hK dX5_readToken_1 rfl ?_
  refine r_getI (k := 4) hK cls_5 fl_RX5_29 (by decide) (by omega) rfl rfl dX5_readToken_2 (mrg_c (by omega)) ?_
  refine r_put (k := 4) hK cls_5 fl_RX5_42 (by decide) (by omega) rfl rfl rfl rfl rfl dX5_readToken_5 (up_c (by omega)) ?_
  refine w_X5_readToken_8 hK hN hr hQ (by omega) _ (fun C_e8 h => ?_) FU (up C 4 2 (C 4 3)) h
  refine r_aload_n hK dX5_readToken_45 rfl ?_
  refine r_getI (k := 4) hK cls_5 fl_RX5_42 (by decide) (by omega) rfl rfl dX5_readToken_46 (mrg_c (by omega)) ?_
  refine r_aload_n hK dX5_readToken_49 rfl ?_
  refine r_getI (k := 4) hK cls_5 fl_RX5_25 (by decide) (by omega) rfl rfl dX5_readToken_50 (mrg_c (by omega)) ?_
  refine r_icmp_lt hK dX5_readToken_53 (t := 70) (by decide) (wpO_lt h) (fun h => ?_) (fun h => ?_)
  · refine r_aload_n hK dX5_readToken_70 rfl ?_
    refine r_aload_n hK dX5_readToken_71 rfl ?_
    refine r_getI (k := 4) hK cls_5 fl_RX5_42 (by decide) (by omega) rfl rfl dX5_readToken_72 (mrg_c (by omega)) ?_
    refine r_iconst hK dX5_readToken_75 ?_
    refine r_iadd hK dX5_readToken_76 ?_
    refine r_put (k := 4) hK cls_5 fl_RX5_29 (by decide) (by omega) rfl rfl rfl rfl rfl dX5_readToken_77 (up_c (by omega)) ?_
    refine r_aload_n hK dX5_readToken_80 rfl ?_
    refine r_aload_n hK dX5_readToken_81 rfl ?_
    refine r_getI (k := 4) hK cls_5 fl_RX5_42 (by decide) (by omega) rfl rfl dX5_readToken_82 (mrg_c (by omega)) ?_
    refine r_callV hK ck_X5_at im_X5_at sl_X5_at ml_RX5_84 (by omega) (c_X5_at (l := kL K) (g := g) (X := X) ((up C_e8 4 3 ((C_e8 4 2) + 1)) 4 2) (up C_e8 4 3 ((C_e8 4 2) + 1)) (wpO_bd h)) cls_5 (k := 4) (by omega) rfl (As := [.int (I ((up C_e8 4 3 ((C_e8 4 2) + 1)) 4 2))]) (st := []) rfl (Nat.le_of_ble_eq_true rfl) dX5_readToken_85 (kkI (fun C85 r85 h => ?_))
    refine r_callSN hK ck_X7_isLetter sc_X7_isLetter ml_RX5_106 (by omega) (c_X7_isLetter (l := kL K) (g := g) (X := X) (r85) C85 (wpO_bd h)) (As := [.int (I (r85))]) (st := []) rfl (Nat.le_of_ble_eq_true rfl) dX5_readToken_88 (kkI (fun C88 r88 h => ?_))
    refine r_jn (J := fun j137 => ∀ (C_137 : Mem), wpO (j137 C_137) Q → Wn K g (mrg C_137 X) 137 [some (.ref (gA g 4))] []) h ?_ ?_
    · intro C_137 h
      refine r_aload_n hK dX5_readToken_137 rfl ?_
      refine r_aload_n hK dX5_readToken_138 rfl ?_
      refine r_getI (k := 4) hK cls_5 fl_RX5_42 (by decide) (by omega) rfl rfl dX5_readToken_139 (mrg_c (by omega)) ?_
      refine r_callV hK ck_X5_at im_X5_at sl_X5_at ml_RX5_84 (by omega) (c_X5_at (l := kL K) (g := g) (X := X) (C_137 4 2) C_137 (wpO_bd h)) cls_5 (k := 4) (by omega) rfl (As := [.int (I (C_137 4 2))]) (st := []) rfl (Nat.le_of_ble_eq_true rfl) dX5_readToken_142 (kkI (fun C142 r142 h => ?_))
      refine r_callS hK ck_X5_isFigure sc_X5_isFigure ml_RX5_110 (by omega) (c_X5_isFigure (l := kL K) (g := g) (X := X) (r142) C142 (wpO_bd h)) (As := [.int (I (r142))]) (st := []) rfl (Nat.le_of_ble_eq_true rfl) dX5_readToken_145 (kkI (fun C145 r145 h => ?_))
      refine r_if_eq hK dX5_readToken_148 (t := 158) (by decide) (wpO_eq h) (fun h => ?_) (fun h => ?_)
      · refine r_aload_n hK dX5_readToken_158 rfl ?_
        refine r_aload_n hK dX5_readToken_159 rfl ?_
        refine r_aload_n hK dX5_readToken_160 rfl ?_
        refine r_getI (k := 4) hK cls_5 fl_RX5_42 (by decide) (by omega) rfl rfl dX5_readToken_161 (mrg_c (by omega)) ?_
        refine r_callV hK ck_X5_at im_X5_at sl_X5_at ml_RX5_84 (by omega) (c_X5_at (l := kL K) (g := g) (X := X) (C145 4 2) C145 (wpO_bd h)) cls_5 (k := 4) (by omega) rfl (As := [.int (I (C145 4 2))]) (st := [.ref (gA g 4)]) rfl (Nat.le_of_ble_eq_true rfl) dX5_readToken_164 (kkI (fun C164 r164 h => ?_))
        refine r_bipush hK dX5_readToken_167 (by decide) ?_
        refine r_icmp_ne hK dX5_readToken_169 (t := 176) (by decide) (wpO_eq h) (fun h => ?_) (fun h => ?_)
        · refine r_iconst hK dX5_readToken_172 ?_
          refine r_goto hK dX5_readToken_173 (t := 177) (by decide) ?_
          refine r_put (k := 4) hK cls_5 fl_RX5_48 (by decide) (by omega) rfl rfl rfl rfl rfl dX5_readToken_177 (up_c (by omega)) ?_
          exact r_return hK hr hQ dX5_readToken_180 ⟨(up C164 4 4 (3)), rfl, rfl, wpO_some h⟩
        · refine r_iconst hK dX5_readToken_176 ?_
          refine r_put (k := 4) hK cls_5 fl_RX5_48 (by decide) (by omega) rfl rfl rfl rfl rfl dX5_readToken_177 (up_c (by omega)) ?_
          exact r_return hK hr hQ dX5_readToken_180 ⟨(up C164 4 4 (4)), rfl, rfl, wpO_some h⟩
      · refine r_aload_n hK dX5_readToken_151 rfl ?_
        refine r_callV hK ck_X5_readFigures im_X5_readFigures sl_X5_readFigures ml_RX5_113 (by omega) (c_X5_readFigures (l := kL K) (g := g) (X := X) C145 (wpO_bd h)) cls_5 (k := 4) (by omega) rfl (As := []) (st := []) rfl (Nat.le_of_ble_eq_true rfl) dX5_readToken_152 (kkV (fun C152 h => ?_))
        refine r_goto hK dX5_readToken_155 (t := 180) (by decide) ?_
        exact r_return hK hr hQ dX5_readToken_180 ⟨C152, rfl, rfl, wpO_some h⟩
    · intro hj137 h
      refine r_if_eq hK dX5_readToken_91 (t := 137) (by decide) (wpO_eq h) (fun h => ?_) (fun h => ?_)
      · exact hj137 C88 h
      · refine r_aload_n hK dX5_readToken_94 rfl ?_
        refine r_iconst hK dX5_readToken_95 ?_
        refine r_put (k := 4) hK cls_5 fl_RX5_48 (by decide) (by omega) rfl rfl rfl rfl rfl dX5_readToken_96 (up_c (by omega)) ?_
        refine w_X5_readToken_99 hK hN hr hQ (by omega) _ (fun C_e99 h => ?_) FU (up C88 4 4 (1)) h
        exact hj137 C_e99 h
  · refine r_aload_n hK dX5_readToken_56 rfl ?_
    refine r_iconst hK dX5_readToken_57 ?_
    refine r_put (k := 4) hK cls_5 fl_RX5_48 (by decide) (by omega) rfl rfl rfl rfl rfl dX5_readToken_58 (up_c (by omega)) ?_
    refine r_aload_n hK dX5_readToken_61 rfl ?_
    refine r_aload_n hK dX5_readToken_62 rfl ?_
    refine r_getI (k := 4) hK cls_5 fl_RX5_42 (by decide) (by omega) rfl rfl dX5_readToken_63 (mrg_c (by omega)) ?_
    refine r_put (k := 4) hK cls_5 fl_RX5_29 (by decide) (by omega) rfl rfl rfl rfl rfl dX5_readToken_66 (up_c (by omega)) ?_
    exact r_return hK hr hQ dX5_readToken_69 ⟨(up (up C_e8 4 4 (0)) 4 3 ((up C_e8 4 4 (0)) 4 2)), rfl, rfl, wpO_some h⟩
set_option maxRecDepth 100000 in
set_option maxHeartbeats 4000000 in
theorem c_X5_hasMore {l : Launch} {g : GT} {X : Mem} {Q : Mem → Int → Prop} (C : Mem) (h : wpO (f_X5_hasMore C) Q) : MetC l yX5_hasMore cX5_hasMore 1 (some .boolean) 4 g [.ref (gA g 4)] (mrg C X) (QI (fun c => mrg c X) Q) := by
  refine met_at 0 (lv := [some (.ref (gA g 4))]) (by decide) (Nat.le_of_ble_eq_true rfl) rfl rfl (fun K hK hN hr hQ => ?_)
  unfold f_X5_hasMore at h
  refine r_aload_n hK dX5_hasMore_0 rfl ?_
  refine r_callV hK ck_X5_readToken im_X5_readToken sl_X5_readToken ml_RX5_45 (by omega) (c_X5_readToken (l := kL K) (g := g) (X := X) C (wpO_bd h)) cls_5 (k := 4) (by omega) rfl (As := []) (st := []) rfl (Nat.le_of_ble_eq_true rfl) dX5_hasMore_1 (kkV (fun C1 h => ?_))
  refine r_aload_n hK dX5_hasMore_4 rfl ?_
  refine r_getI (k := 4) hK cls_5 fl_RX5_48 (by decide) (by omega) rfl rfl dX5_hasMore_5 (mrg_c (by omega)) ?_
  refine r_if_eq hK dX5_hasMore_8 (t := 15) (by decide) (wpO_eq h) (fun h => ?_) (fun h => ?_)
  · refine r_iconst hK dX5_hasMore_15 ?_
    exact r_ireturn hK hr hQ (nar_b (by decide)) dX5_hasMore_16 ⟨C1, 0, rfl, rfl, wpO_some h⟩
  · refine r_iconst hK dX5_hasMore_11 ?_
    refine r_goto hK dX5_hasMore_12 (t := 16) (by decide) ?_
    exact r_ireturn hK hr hQ (nar_b (by decide)) dX5_hasMore_16 ⟨C1, 1, rfl, rfl, wpO_some h⟩
set_option maxRecDepth 100000 in
set_option maxHeartbeats 4000000 in
theorem w_X5_isWord_28 {K : KT} {g : GT} {X : Mem} {dd : Nat} (hK : Kok K g cX5_isWord RX5 dd) (hN : kN K = 3) (hr : (kMe K).sig.returnType = (some .boolean)) {Q : Mem → Int → Prop} (hQ : kQ K = MQ (kB K) (Qc g (QI (fun c => mrg c X) Q)) (kA K) (kS K) (kc K) (ks K) (gS g)) (hdd : 5 ≤ dd) (u1 : Nat) (hu1 : u1 < 3) (k : Int → Mem → Option (Mem × Int)) (hk : ∀ (v2 : Int) (C : Mem), wpO (k v2 C) Q → Wn K g (mrg C X) 62 [some (.ref (gA g 4)), some (.ref (gK g u1)), some (.int (I (v2)))] []) : ∀ (n : Nat) (v2 : Int) (C : Mem), wpO (f_X5_isWord_28 u1 k n v2 C) Q → Wn K g (mrg C X) 28 [some (.ref (gA g 4)), some (.ref (gK g u1)), some (.int (I (v2)))] [] := by
  intro n
  induction n with
  | zero => intro v2 C h; exact (wpO_none h).elim
  | succ n ih =>
    intro v2 C h
    unfold f_X5_isWord_28 at h
    refine r_iload_n hK dX5_isWord_28 rfl ?_
    refine r_aload_n hK dX5_isWord_29 rfl ?_
    refine r_callStr hK hu1 ck_J0_length_8abf5 im_J0_length_8abf5 sl_J0_length_8abf5 ml_RX5_97 (by omega) (c_s_len (l := kL K) (g := g) (X := X) u1 hu1 C (wpO_bd h)) (As := []) (st := [.int (I (v2))]) rfl (Nat.le_of_ble_eq_true rfl) dX5_isWord_30 (kkI (fun C30 r30 h => ?_))
    refine r_icmp_ge hK dX5_isWord_33 (t := 62) (by decide) (wpO_lt h) (fun h => ?_) (fun h => ?_)
    · refine r_aload_n hK dX5_isWord_36 rfl ?_
      refine r_aload_n hK dX5_isWord_37 rfl ?_
      refine r_getI (k := 4) hK cls_5 fl_RX5_42 (by decide) (by omega) rfl rfl dX5_isWord_38 (mrg_c (by omega)) ?_
      refine r_iload_n hK dX5_isWord_41 rfl ?_
      refine r_iadd hK dX5_isWord_42 ?_
      refine r_callV hK ck_X5_at im_X5_at sl_X5_at ml_RX5_84 (by omega) (c_X5_at (l := kL K) (g := g) (X := X) ((C30 4 2) + v2) C30 (wpO_bd h)) cls_5 (k := 4) (by omega) rfl (As := [.int (I ((C30 4 2) + v2))]) (st := []) rfl (Nat.le_of_ble_eq_true rfl) dX5_isWord_43 (kkI (fun C43 r43 h => ?_))
      refine r_aload_n hK dX5_isWord_46 rfl ?_
      refine r_iload_n hK dX5_isWord_47 rfl ?_
      refine r_callStr hK hu1 ck_J0_charAt_5068e im_J0_charAt_5068e sl_J0_charAt_5068e ml_RX5_102 (by omega) (c_s_cha (l := kL K) (g := g) (X := X) u1 (v2) hu1 C43 (wpO_bd h)) (As := [.int (I (v2))]) (st := [.int (I (r43))]) rfl (Nat.le_of_ble_eq_true rfl) dX5_isWord_48 (kkI (fun C48 r48 h => ?_))
      refine r_icmp_eq hK dX5_isWord_51 (t := 56) (by decide) (wpO_eq h) (fun h => ?_) (fun h => ?_)
      · refine r_iinc hK dX5_isWord_56 (by rw [hN]; decide) rfl rfl (lv' := [some (.ref (gA g 4)), some (.ref (gK g u1)), some (.int (I (v2 + 1)))]) rfl ?_
        refine r_goto hK dX5_isWord_59 (t := 28) (by decide) ?_
        exact ih (v2 + 1) C48 h
      · refine r_iconst hK dX5_isWord_54 ?_
        exact r_ireturn hK hr hQ (nar_b (by decide)) dX5_isWord_55 ⟨C48, 0, rfl, rfl, wpO_some h⟩
    · exact hk (v2) C30 h
set_option maxRecDepth 100000 in
set_option maxHeartbeats 4000000 in
theorem c_X5_isWord {l : Launch} {g : GT} {X : Mem} {Q : Mem → Int → Prop} (a1 : Nat) (ha1 : a1 < 3) (C : Mem) (h : wpO (f_X5_isWord a1 C) Q) : MetC l yX5_isWord cX5_isWord 3 (some .boolean) 5 g [.ref (gA g 4), .ref (gK g a1)] (mrg C X) (QI (fun c => mrg c X) Q) := by
  refine met_at 1 (lv := [some (.ref (gA g 4)), some (.ref (gK g a1)), none]) (by decide) (Nat.le_of_ble_eq_true rfl) rfl rfl (fun K hK hN hr hQ => ?_)
  unfold f_X5_isWord at h
  refine r_aload_n hK dX5_isWord_0 rfl ?_
  refine r_getI (k := 4) hK cls_5 fl_RX5_48 (by decide) (by omega) rfl rfl dX5_isWord_1 (mrg_c (by omega)) ?_
  refine r_iconst hK dX5_isWord_4 ?_
  refine r_icmp_ne hK dX5_isWord_5 (t := 24) (by decide) (wpO_eq h) (fun h => ?_) (fun h => ?_)
  · refine r_aload_n hK dX5_isWord_8 rfl ?_
    refine r_getI (k := 4) hK cls_5 fl_RX5_29 (by decide) (by omega) rfl rfl dX5_isWord_9 (mrg_c (by omega)) ?_
    refine r_aload_n hK dX5_isWord_12 rfl ?_
    refine r_getI (k := 4) hK cls_5 fl_RX5_42 (by decide) (by omega) rfl rfl dX5_isWord_13 (mrg_c (by omega)) ?_
    refine r_isub hK dX5_isWord_16 ?_
    refine r_aload_n hK dX5_isWord_17 rfl ?_
    refine r_callStr hK ha1 ck_J0_length_8abf5 im_J0_length_8abf5 sl_J0_length_8abf5 ml_RX5_97 (by omega) (c_s_len (l := kL K) (g := g) (X := X) a1 ha1 C (wpO_bd h)) (As := []) (st := [.int (I ((C 4 3) - (C 4 2)))]) rfl (Nat.le_of_ble_eq_true rfl) dX5_isWord_18 (kkI (fun C18 r18 h => ?_))
    refine r_icmp_eq hK dX5_isWord_21 (t := 26) (by decide) (wpO_eq h) (fun h => ?_) (fun h => ?_)
    · refine r_iconst hK dX5_isWord_26 ?_
      refine r_istore_n hK dX5_isWord_27 (by rw [hN]; decide) rfl (lv' := [some (.ref (gA g 4)), some (.ref (gK g a1)), some (.int (I (0)))]) rfl ?_
      refine w_X5_isWord_28 hK hN hr hQ (by omega) a1 ha1 _ (fun v2_e28 C_e28 h => ?_) FU (0) C18 h
      refine r_iconst hK dX5_isWord_62 ?_
      exact r_ireturn hK hr hQ (nar_b (by decide)) dX5_isWord_63 ⟨C_e28, 1, rfl, rfl, wpO_some h⟩
    · refine r_iconst hK dX5_isWord_24 ?_
      exact r_ireturn hK hr hQ (nar_b (by decide)) dX5_isWord_25 ⟨C18, 0, rfl, rfl, wpO_some h⟩
  · refine r_iconst hK dX5_isWord_24 ?_
    exact r_ireturn hK hr hQ (nar_b (by decide)) dX5_isWord_25 ⟨C, 0, rfl, rfl, wpO_some h⟩
set_option maxRecDepth 100000 in
set_option maxHeartbeats 4000000 in
theorem w_X5_readKey_40 {K : KT} {g : GT} {X : Mem} {dd : Nat} (hK : Kok K g cX5_readKey RX5 dd) (hN : kN K = 2) (hr : (kMe K).sig.returnType = (some .boolean)) {Q : Mem → Int → Prop} (hQ : kQ K = MQ (kB K) (Qc g (QI (fun c => mrg c X) Q)) (kA K) (kS K) (kc K) (ks K) (gS g)) (hdd : 4 ≤ dd) (k : Int → Mem → Option (Mem × Int)) (hk : ∀ (v1 : Int) (C : Mem), wpO (k v1 C) Q → Wn K g (mrg C X) 66 [some (.ref (gA g 4)), some (.int (I (v1)))] []) : ∀ (n : Nat) (v1 : Int) (C : Mem), wpO (f_X5_readKey_40 k n v1 C) Q → Wn K g (mrg C X) 40 [some (.ref (gA g 4)), some (.int (I (v1)))] [] := by
  intro n
  induction n with
  | zero => intro v1 C h; exact (wpO_none h).elim
  | succ n ih =>
    intro v1 C h
    unfold f_X5_readKey_40 at h
    refine r_iload_n hK dX5_readKey_40 rfl ?_
    refine r_aload_n hK dX5_readKey_41 rfl ?_
    refine r_getI (k := 4) hK cls_5 fl_RX5_29 (by decide) (by omega) rfl rfl dX5_readKey_42 (mrg_c (by omega)) ?_
    refine r_icmp_ge hK dX5_readKey_45 (t := 66) (by decide) (wpO_lt h) (fun h => ?_) (fun h => ?_)
    · refine r_aload_n hK dX5_readKey_48 rfl ?_
      refine r_getR (k := 4) (k' := (10 + 2 * 4)) hK cls_5 fl_RX5_18 (by decide) (by omega) rfl rfl dX5_readKey_49 ?_
      refine r_aload_n hK dX5_readKey_52 rfl ?_
      refine r_iload_n hK dX5_readKey_53 rfl ?_
      refine r_callV hK ck_X5_at im_X5_at sl_X5_at ml_RX5_84 (by omega) (c_X5_at (l := kL K) (g := g) (X := X) (v1) C (wpO_bd h)) cls_5 (k := 4) (by omega) rfl (As := [.int (I (v1))]) (st := [.ref (gA g (10 + 2 * 4))]) rfl (Nat.le_of_ble_eq_true rfl) dX5_readKey_54 (kkI (fun C54 r54 h => ?_))
      refine r_callV hK ck_X3_add im_X3_add sl_X3_add ml_RX5_87 (by omega) (c_X3_add (l := kL K) (g := g) (X := X) 4 (r54) (by decide) C54 (wpO_bd h)) cls_3 (k := (10 + 2 * 4)) (by omega) (sh_key (by decide)) (As := [.int (I (r54))]) (st := []) rfl (Nat.le_of_ble_eq_true rfl) dX5_readKey_57 (kkV (fun C57 h => ?_))
      refine r_iinc hK dX5_readKey_60 (by rw [hN]; decide) rfl rfl (lv' := [some (.ref (gA g 4)), some (.int (I (v1 + 1)))]) rfl ?_
      refine r_goto hK dX5_readKey_63 (t := 40) (by decide) ?_
      exact ih (v1 + 1) C57 h
    · exact hk (v1) C h
set_option maxRecDepth 100000 in
set_option maxHeartbeats 4000000 in
theorem c_X5_readKey {l : Launch} {g : GT} {X : Mem} {Q : Mem → Int → Prop} (C : Mem) (h : wpO (f_X5_readKey C) Q) : MetC l yX5_readKey cX5_readKey 2 (some .boolean) 4 g [.ref (gA g 4)] (mrg C X) (QI (fun c => mrg c X) Q) := by
  refine met_at 1 (lv := [some (.ref (gA g 4)), none]) (by decide) (Nat.le_of_ble_eq_true rfl) rfl rfl (fun K hK hN hr hQ => ?_)
  unfold f_X5_readKey at h
  refine r_aload_n hK dX5_readKey_0 rfl ?_
  refine r_callV hK ck_X5_readToken im_X5_readToken sl_X5_readToken ml_RX5_45 (by omega) (c_X5_readToken (l := kL K) (g := g) (X := X) C (wpO_bd h)) cls_5 (k := 4) (by omega) rfl (As := []) (st := []) rfl (Nat.le_of_ble_eq_true rfl) dX5_readKey_1 (kkV (fun C1 h => ?_))
  refine r_aload_n hK dX5_readKey_4 rfl ?_
  refine r_getI (k := 4) hK cls_5 fl_RX5_48 (by decide) (by omega) rfl rfl dX5_readKey_5 (mrg_c (by omega)) ?_
  refine r_iconst hK dX5_readKey_8 ?_
  refine r_icmp_ne hK dX5_readKey_9 (t := 26) (by decide) (wpO_eq h) (fun h => ?_) (fun h => ?_)
  · refine r_aload_n hK dX5_readKey_12 rfl ?_
    refine r_getI (k := 4) hK cls_5 fl_RX5_29 (by decide) (by omega) rfl rfl dX5_readKey_13 (mrg_c (by omega)) ?_
    refine r_aload_n hK dX5_readKey_16 rfl ?_
    refine r_getI (k := 4) hK cls_5 fl_RX5_42 (by decide) (by omega) rfl rfl dX5_readKey_17 (mrg_c (by omega)) ?_
    refine r_isub hK dX5_readKey_20 ?_
    refine r_bipush hK dX5_readKey_21 (by decide) ?_
    refine r_icmp_le hK dX5_readKey_23 (t := 28) (by decide) (wpO_lt h) (fun h => ?_) (fun h => ?_)
    · refine r_iconst hK dX5_readKey_26 ?_
      exact r_ireturn hK hr hQ (nar_b (by decide)) dX5_readKey_27 ⟨C1, 0, rfl, rfl, wpO_some h⟩
    · refine r_aload_n hK dX5_readKey_28 rfl ?_
      refine r_getR (k := 4) (k' := (10 + 2 * 4)) hK cls_5 fl_RX5_18 (by decide) (by omega) rfl rfl dX5_readKey_29 ?_
      refine r_callV hK ck_X3_empty im_X3_empty sl_X3_empty ml_RX5_81 (by omega) (c_X3_empty (l := kL K) (g := g) (X := X) 4 (by decide) C1 (wpO_bd h)) cls_3 (k := (10 + 2 * 4)) (by omega) (sh_key (by decide)) (As := []) (st := []) rfl (Nat.le_of_ble_eq_true rfl) dX5_readKey_32 (kkV (fun C32 h => ?_))
      refine r_aload_n hK dX5_readKey_35 rfl ?_
      refine r_getI (k := 4) hK cls_5 fl_RX5_42 (by decide) (by omega) rfl rfl dX5_readKey_36 (mrg_c (by omega)) ?_
      refine r_istore_n hK dX5_readKey_39 (by rw [hN]; decide) rfl (lv' := [some (.ref (gA g 4)), some (.int (I (C32 4 2)))]) rfl ?_
      refine w_X5_readKey_40 hK hN hr hQ (by omega) _ (fun v1_e40 C_e40 h => ?_) FU (C32 4 2) C32 h
      refine r_iconst hK dX5_readKey_66 ?_
      exact r_ireturn hK hr hQ (nar_b (by decide)) dX5_readKey_67 ⟨C_e40, 1, rfl, rfl, wpO_some h⟩
  · refine r_iconst hK dX5_readKey_26 ?_
    exact r_ireturn hK hr hQ (nar_b (by decide)) dX5_readKey_27 ⟨C1, 0, rfl, rfl, wpO_some h⟩
set_option maxRecDepth 100000 in
set_option maxHeartbeats 4000000 in
theorem c_X5_readNumber {l : Launch} {g : GT} {X : Mem} {Q : Mem → Int → Prop} (a1 : Int) (a2 : Int) (a3 : Int) (C : Mem) (h : wpO (f_X5_readNumber a1 a2 a3 C) Q) : MetC l yX5_readNumber cX5_readNumber 4 (some .boolean) 4 g [.ref (gA g 4), .int (I (a1)), .int (I (a2)), .int (I (a3))] (mrg C X) (QI (fun c => mrg c X) Q) := by
  refine met_at 0 (lv := [some (.ref (gA g 4)), some (.int (I (a1))), some (.int (I (a2))), some (.int (I (a3)))]) (by decide) (Nat.le_of_ble_eq_true rfl) rfl rfl (fun K hK hN hr hQ => ?_)
  unfold f_X5_readNumber at h
  refine r_aload_n hK dX5_readNumber_0 rfl ?_
  refine r_callV hK ck_X5_readToken im_X5_readToken sl_X5_readToken ml_RX5_45 (by omega) (c_X5_readToken (l := kL K) (g := g) (X := X) C (wpO_bd h)) cls_5 (k := 4) (by omega) rfl (As := []) (st := []) rfl (Nat.le_of_ble_eq_true rfl) dX5_readNumber_1 (kkV (fun C1 h => ?_))
  refine r_aload_n hK dX5_readNumber_4 rfl ?_
  refine r_getI (k := 4) hK cls_5 fl_RX5_48 (by decide) (by omega) rfl rfl dX5_readNumber_5 (mrg_c (by omega)) ?_
  refine r_iconst hK dX5_readNumber_8 ?_
  refine r_icmp_ne hK dX5_readNumber_9 (t := 37) (by decide) (wpO_eq h) (fun h => ?_) (fun h => ?_)
  · refine r_aload_n hK dX5_readNumber_12 rfl ?_
    refine r_getI (k := 4) hK cls_5 fl_RX5_91 (by decide) (by omega) rfl rfl dX5_readNumber_13 (mrg_c (by omega)) ?_
    refine r_iload_n hK dX5_readNumber_16 rfl ?_
    refine r_iload_n hK dX5_readNumber_17 rfl ?_
    refine r_callSN hK ck_X7_isWithin sc_X7_isWithin ml_RX5_94 (by omega) (c_X7_isWithin (l := kL K) (g := g) (X := X) (C1 4 5) (a2) (a3) C1 (wpO_bd h)) (As := [.int (I (C1 4 5)), .int (I (a2)), .int (I (a3))]) (st := []) rfl (Nat.le_of_ble_eq_true rfl) dX5_readNumber_18 (kkI (fun C18 r18 h => ?_))
    refine r_if_eq hK dX5_readNumber_21 (t := 37) (by decide) (wpO_eq h) (fun h => ?_) (fun h => ?_)
    · refine r_iconst hK dX5_readNumber_37 ?_
      exact r_ireturn hK hr hQ (nar_b (by decide)) dX5_readNumber_38 ⟨C18, 0, rfl, rfl, wpO_some h⟩
    · refine r_iload_n hK dX5_readNumber_24 rfl ?_
      refine r_if_lt hK dX5_readNumber_25 (t := 37) (by decide) (wpO_lt h) (fun h => ?_) (fun h => ?_)
      · refine r_iconst hK dX5_readNumber_37 ?_
        exact r_ireturn hK hr hQ (nar_b (by decide)) dX5_readNumber_38 ⟨C18, 0, rfl, rfl, wpO_some h⟩
      · refine r_iload_n hK dX5_readNumber_28 rfl ?_
        refine r_aload_n hK dX5_readNumber_29 rfl ?_
        refine r_getR (k := 4) (k' := (26)) hK cls_5 fl_RX5_22 (by decide) (by omega) rfl rfl dX5_readNumber_30 ?_
        refine r_alen (k := (26)) hK (by omega) rfl (by decide) dX5_readNumber_33 ?_
        refine r_icmp_lt hK dX5_readNumber_34 (t := 39) (by decide) (wpO_lt h) (fun h => ?_) (fun h => ?_)
        · refine r_aload_n hK dX5_readNumber_39 rfl ?_
          refine r_getR (k := 4) (k' := (26)) hK cls_5 fl_RX5_22 (by decide) (by omega) rfl rfl dX5_readNumber_40 ?_
          refine r_iload_n hK dX5_readNumber_43 rfl ?_
          refine r_aload_n hK dX5_readNumber_44 rfl ?_
          refine r_getI (k := 4) hK cls_5 fl_RX5_91 (by decide) (by omega) rfl rfl dX5_readNumber_45 (mrg_c (by omega)) ?_
          obtain ⟨hb48, h⟩ := wpO_ix h
          refine r_iastore (k := (26)) hK (by omega) rfl (by decide) hb48 dX5_readNumber_48 (up_c (by omega)) ?_
          refine r_iconst hK dX5_readNumber_49 ?_
          exact r_ireturn hK hr hQ (nar_b (by decide)) dX5_readNumber_50 ⟨(up C18 (26) (a1).toNat (C18 4 5)), 1, rfl, rfl, wpO_some h⟩
        · refine r_iconst hK dX5_readNumber_37 ?_
          exact r_ireturn hK hr hQ (nar_b (by decide)) dX5_readNumber_38 ⟨C18, 0, rfl, rfl, wpO_some h⟩
  · refine r_iconst hK dX5_readNumber_37 ?_
    exact r_ireturn hK hr hQ (nar_b (by decide)) dX5_readNumber_38 ⟨C1, 0, rfl, rfl, wpO_some h⟩
set_option maxRecDepth 100000 in
set_option maxHeartbeats 4000000 in
theorem c_X5_readStop {l : Launch} {g : GT} {X : Mem} {Q : Mem → Int → Prop} (C : Mem) (h : wpO (f_X5_readStop C) Q) : MetC l yX5_readStop cX5_readStop 1 (some .boolean) 4 g [.ref (gA g 4)] (mrg C X) (QI (fun c => mrg c X) Q) := by
  refine met_at 0 (lv := [some (.ref (gA g 4))]) (by decide) (Nat.le_of_ble_eq_true rfl) rfl rfl (fun K hK hN hr hQ => ?_)
  unfold f_X5_readStop at h
  refine r_aload_n hK dX5_readStop_0 rfl ?_
  refine r_callV hK ck_X5_readToken im_X5_readToken sl_X5_readToken ml_RX5_45 (by omega) (c_X5_readToken (l := kL K) (g := g) (X := X) C (wpO_bd h)) cls_5 (k := 4) (by omega) rfl (As := []) (st := []) rfl (Nat.le_of_ble_eq_true rfl) dX5_readStop_1 (kkV (fun C1 h => ?_))
  refine r_aload_n hK dX5_readStop_4 rfl ?_
  refine r_getI (k := 4) hK cls_5 fl_RX5_48 (by decide) (by omega) rfl rfl dX5_readStop_5 (mrg_c (by omega)) ?_
  refine r_iconst hK dX5_readStop_8 ?_
  refine r_icmp_ne hK dX5_readStop_9 (t := 16) (by decide) (wpO_eq h) (fun h => ?_) (fun h => ?_)
  · refine r_iconst hK dX5_readStop_12 ?_
    refine r_goto hK dX5_readStop_13 (t := 17) (by decide) ?_
    exact r_ireturn hK hr hQ (nar_b (by decide)) dX5_readStop_17 ⟨C1, 1, rfl, rfl, wpO_some h⟩
  · refine r_iconst hK dX5_readStop_16 ?_
    exact r_ireturn hK hr hQ (nar_b (by decide)) dX5_readStop_17 ⟨C1, 0, rfl, rfl, wpO_some h⟩
set_option maxRecDepth 100000 in
set_option maxHeartbeats 4000000 in
theorem c_X5_number {l : Launch} {g : GT} {X : Mem} {Q : Mem → Int → Prop} (a1 : Int) (C : Mem) (h : wpO (f_X5_number a1 C) Q) : MetC l yX5_number cX5_number 2 (some .int) 1 g [.ref (gA g 4), .int (I (a1))] (mrg C X) (QI (fun c => mrg c X) Q) := by
  refine met_at 0 (lv := [some (.ref (gA g 4)), some (.int (I (a1)))]) (by decide) (Nat.le_of_ble_eq_true rfl) rfl rfl (fun K hK hN hr hQ => ?_)
  unfold f_X5_number at h
  refine r_iload_n hK dX5_number_0 rfl ?_
  refine r_if_lt hK dX5_number_1 (t := 22) (by decide) (wpO_lt h) (fun h => ?_) (fun h => ?_)
  · refine r_iconst hK dX5_number_22 ?_
    exact r_ireturn hK hr hQ rfl dX5_number_23 ⟨C, 0, rfl, rfl, wpO_some h⟩
  · refine r_iload_n hK dX5_number_4 rfl ?_
    refine r_aload_n hK dX5_number_5 rfl ?_
    refine r_getR (k := 4) (k' := (26)) hK cls_5 fl_RX5_22 (by decide) (by omega) rfl rfl dX5_number_6 ?_
    refine r_alen (k := (26)) hK (by omega) rfl (by decide) dX5_number_9 ?_
    refine r_icmp_ge hK dX5_number_10 (t := 22) (by decide) (wpO_lt h) (fun h => ?_) (fun h => ?_)
    · refine r_aload_n hK dX5_number_13 rfl ?_
      refine r_getR (k := 4) (k' := (26)) hK cls_5 fl_RX5_22 (by decide) (by omega) rfl rfl dX5_number_14 ?_
      refine r_iload_n hK dX5_number_17 rfl ?_
      obtain ⟨hb18, h⟩ := wpO_ix h
      refine r_iaload (k := (26)) hK (by omega) rfl (by decide) hb18 dX5_number_18 (mrg_c (by omega)) ?_
      refine r_goto hK dX5_number_19 (t := 23) (by decide) ?_
      exact r_ireturn hK hr hQ rfl dX5_number_23 ⟨C, (C (26) (a1).toNat), rfl, rfl, wpO_some h⟩
    · refine r_iconst hK dX5_number_22 ?_
      exact r_ireturn hK hr hQ rfl dX5_number_23 ⟨C, 0, rfl, rfl, wpO_some h⟩
set_option maxRecDepth 100000 in
set_option maxHeartbeats 4000000 in
theorem c_X5_readCommand {l : Launch} {g : GT} {X : Mem} {Q : Mem → Int → Prop} (C : Mem) (h : wpO (f_X5_readCommand C) Q) : MetC l yX5_readCommand cX5_readCommand 1 (some .boolean) 6 g [.ref (gA g 4)] (mrg C X) (QI (fun c => mrg c X) Q) := by
  refine met_at 0 (lv := [some (.ref (gA g 4))]) (by decide) (Nat.le_of_ble_eq_true rfl) rfl rfl (fun K hK hN hr hQ => ?_)
  unfold f_X5_readCommand at h
  refine r_aload_n hK dX5_readCommand_0 rfl ?_
  refine r_ldcS hK hK.e.2.2.1 dX5_readCommand_1 ?_
  refine r_callV hK ck_X5_isWord im_X5_isWord sl_X5_isWord ml_RX5_53 (by omega) (c_X5_isWord (l := kL K) (g := g) (X := X) 0 (by decide) C (wpO_bd h)) cls_5 (k := 4) (by omega) rfl (As := [.ref (gK g 0)]) (st := []) rfl (Nat.le_of_ble_eq_true rfl) dX5_readCommand_3 (kkI (fun C3 r3 h => ?_))
  refine r_if_eq hK dX5_readCommand_6 (t := 46) (by decide) (wpO_eq h) (fun h => ?_) (fun h => ?_)
  · refine r_aload_n hK dX5_readCommand_46 rfl ?_
    refine r_ldcS hK hK.e.2.2.2.1 dX5_readCommand_47 ?_
    refine r_callV hK ck_X5_isWord im_X5_isWord sl_X5_isWord ml_RX5_53 (by omega) (c_X5_isWord (l := kL K) (g := g) (X := X) 1 (by decide) C3 (wpO_bd h)) cls_5 (k := 4) (by omega) rfl (As := [.ref (gK g 1)]) (st := []) rfl (Nat.le_of_ble_eq_true rfl) dX5_readCommand_49 (kkI (fun C49 r49 h => ?_))
    refine r_if_eq hK dX5_readCommand_52 (t := 80) (by decide) (wpO_eq h) (fun h => ?_) (fun h => ?_)
    · refine r_aload_n hK dX5_readCommand_80 rfl ?_
      refine r_iconst hK dX5_readCommand_81 ?_
      refine r_put (k := 4) hK cls_5 fl_RX5_57 (by decide) (by omega) rfl rfl rfl rfl rfl dX5_readCommand_82 (up_c (by omega)) ?_
      refine r_aload_n hK dX5_readCommand_85 rfl ?_
      refine r_ldcS hK hK.e.2.2.2.2.1 dX5_readCommand_86 ?_
      refine r_callV hK ck_X5_isWord im_X5_isWord sl_X5_isWord ml_RX5_53 (by omega) (c_X5_isWord (l := kL K) (g := g) (X := X) 2 (by decide) (up C49 4 6 (2)) (wpO_bd h)) cls_5 (k := 4) (by omega) rfl (As := [.ref (gK g 2)]) (st := []) rfl (Nat.le_of_ble_eq_true rfl) dX5_readCommand_88 (kkI (fun C88 r88 h => ?_))
      refine r_if_eq hK dX5_readCommand_91 (t := 160) (by decide) (wpO_eq h) (fun h => ?_) (fun h => ?_)
      · refine r_iconst hK dX5_readCommand_160 ?_
        exact r_ireturn hK hr hQ (nar_b (by decide)) dX5_readCommand_161 ⟨C88, 0, rfl, rfl, wpO_some h⟩
      · refine r_aload_n hK dX5_readCommand_94 rfl ?_
        refine r_iconst hK dX5_readCommand_95 ?_
        refine r_iconst hK dX5_readCommand_96 ?_
        refine r_sipush hK dX5_readCommand_97 (by decide) ?_
        refine r_callV hK ck_X5_readNumber im_X5_readNumber sl_X5_readNumber ml_RX5_63 (by omega) (c_X5_readNumber (l := kL K) (g := g) (X := X) (0) (0) (17575) C88 (wpO_bd h)) cls_5 (k := 4) (by omega) rfl (As := [.int (I (0)), .int (I (0)), .int (I (17575))]) (st := []) rfl (Nat.le_of_ble_eq_true rfl) dX5_readCommand_100 (kkI (fun C100 r100 h => ?_))
        refine r_if_eq hK dX5_readCommand_103 (t := 160) (by decide) (wpO_eq h) (fun h => ?_) (fun h => ?_)
        · refine r_iconst hK dX5_readCommand_160 ?_
          exact r_ireturn hK hr hQ (nar_b (by decide)) dX5_readCommand_161 ⟨C100, 0, rfl, rfl, wpO_some h⟩
        · refine r_aload_n hK dX5_readCommand_106 rfl ?_
          refine r_iconst hK dX5_readCommand_107 ?_
          refine r_iconst hK dX5_readCommand_108 ?_
          refine r_bipush hK dX5_readCommand_109 (by decide) ?_
          refine r_callV hK ck_X5_readNumber im_X5_readNumber sl_X5_readNumber ml_RX5_63 (by omega) (c_X5_readNumber (l := kL K) (g := g) (X := X) (1) (1) (99) C100 (wpO_bd h)) cls_5 (k := 4) (by omega) rfl (As := [.int (I (1)), .int (I (1)), .int (I (99))]) (st := []) rfl (Nat.le_of_ble_eq_true rfl) dX5_readCommand_111 (kkI (fun C111 r111 h => ?_))
          refine r_if_eq hK dX5_readCommand_114 (t := 160) (by decide) (wpO_eq h) (fun h => ?_) (fun h => ?_)
          · refine r_iconst hK dX5_readCommand_160 ?_
            exact r_ireturn hK hr hQ (nar_b (by decide)) dX5_readCommand_161 ⟨C111, 0, rfl, rfl, wpO_some h⟩
          · refine r_aload_n hK dX5_readCommand_117 rfl ?_
            refine r_iconst hK dX5_readCommand_118 ?_
            refine r_iconst hK dX5_readCommand_119 ?_
            refine r_bipush hK dX5_readCommand_120 (by decide) ?_
            refine r_callV hK ck_X5_readNumber im_X5_readNumber sl_X5_readNumber ml_RX5_63 (by omega) (c_X5_readNumber (l := kL K) (g := g) (X := X) (2) (1) (60) C111 (wpO_bd h)) cls_5 (k := 4) (by omega) rfl (As := [.int (I (2)), .int (I (1)), .int (I (60))]) (st := []) rfl (Nat.le_of_ble_eq_true rfl) dX5_readCommand_122 (kkI (fun C122 r122 h => ?_))
            refine r_if_eq hK dX5_readCommand_125 (t := 160) (by decide) (wpO_eq h) (fun h => ?_) (fun h => ?_)
            · refine r_iconst hK dX5_readCommand_160 ?_
              exact r_ireturn hK hr hQ (nar_b (by decide)) dX5_readCommand_161 ⟨C122, 0, rfl, rfl, wpO_some h⟩
            · refine r_aload_n hK dX5_readCommand_128 rfl ?_
              refine r_iconst hK dX5_readCommand_129 ?_
              refine r_callV hK ck_X5_number im_X5_number sl_X5_number ml_RX5_74 (by omega) (c_X5_number (l := kL K) (g := g) (X := X) (0) C122 (wpO_bd h)) cls_5 (k := 4) (by omega) rfl (As := [.int (I (0))]) (st := []) rfl (Nat.le_of_ble_eq_true rfl) dX5_readCommand_130 (kkI (fun C130 r130 h => ?_))
              refine r_aload_n hK dX5_readCommand_133 rfl ?_
              refine r_iconst hK dX5_readCommand_134 ?_
              refine r_callV hK ck_X5_number im_X5_number sl_X5_number ml_RX5_74 (by omega) (c_X5_number (l := kL K) (g := g) (X := X) (1) C130 (wpO_bd h)) cls_5 (k := 4) (by omega) rfl (As := [.int (I (1))]) (st := [.int (I (r130))]) rfl (Nat.le_of_ble_eq_true rfl) dX5_readCommand_135 (kkI (fun C135 r135 h => ?_))
              refine r_aload_n hK dX5_readCommand_138 rfl ?_
              refine r_iconst hK dX5_readCommand_139 ?_
              refine r_callV hK ck_X5_number im_X5_number sl_X5_number ml_RX5_74 (by omega) (c_X5_number (l := kL K) (g := g) (X := X) (2) C135 (wpO_bd h)) cls_5 (k := 4) (by omega) rfl (As := [.int (I (2))]) (st := [.int (I (r135)), .int (I (r130))]) rfl (Nat.le_of_ble_eq_true rfl) dX5_readCommand_140 (kkI (fun C140 r140 h => ?_))
              refine r_callSN hK ck_X7_endsInTime sc_X7_endsInTime ml_RX5_78 (by omega) (c_X7_endsInTime (l := kL K) (g := g) (X := X) (r130) (r135) (r140) C140 (wpO_bd h)) (As := [.int (I (r130)), .int (I (r135)), .int (I (r140))]) (st := []) rfl (Nat.le_of_ble_eq_true rfl) dX5_readCommand_143 (kkI (fun C143 r143 h => ?_))
              refine r_if_eq hK dX5_readCommand_146 (t := 160) (by decide) (wpO_eq h) (fun h => ?_) (fun h => ?_)
              · refine r_iconst hK dX5_readCommand_160 ?_
                exact r_ireturn hK hr hQ (nar_b (by decide)) dX5_readCommand_161 ⟨C143, 0, rfl, rfl, wpO_some h⟩
              · refine r_aload_n hK dX5_readCommand_149 rfl ?_
                refine r_callV hK ck_X5_readStop im_X5_readStop sl_X5_readStop ml_RX5_67 (by omega) (c_X5_readStop (l := kL K) (g := g) (X := X) C143 (wpO_bd h)) cls_5 (k := 4) (by omega) rfl (As := []) (st := []) rfl (Nat.le_of_ble_eq_true rfl) dX5_readCommand_150 (kkI (fun C150 r150 h => ?_))
                refine r_if_eq hK dX5_readCommand_153 (t := 160) (by decide) (wpO_eq h) (fun h => ?_) (fun h => ?_)
                · refine r_iconst hK dX5_readCommand_160 ?_
                  exact r_ireturn hK hr hQ (nar_b (by decide)) dX5_readCommand_161 ⟨C150, 0, rfl, rfl, wpO_some h⟩
                · refine r_iconst hK dX5_readCommand_156 ?_
                  refine r_goto hK dX5_readCommand_157 (t := 161) (by decide) ?_
                  exact r_ireturn hK hr hQ (nar_b (by decide)) dX5_readCommand_161 ⟨C150, 1, rfl, rfl, wpO_some h⟩
    · refine r_aload_n hK dX5_readCommand_55 rfl ?_
      refine r_iconst hK dX5_readCommand_56 ?_
      refine r_put (k := 4) hK cls_5 fl_RX5_57 (by decide) (by omega) rfl rfl rfl rfl rfl dX5_readCommand_57 (up_c (by omega)) ?_
      refine r_aload_n hK dX5_readCommand_60 rfl ?_
      refine r_callV hK ck_X5_readKey im_X5_readKey sl_X5_readKey ml_RX5_60 (by omega) (c_X5_readKey (l := kL K) (g := g) (X := X) (up C49 4 6 (1)) (wpO_bd h)) cls_5 (k := 4) (by omega) rfl (As := []) (st := []) rfl (Nat.le_of_ble_eq_true rfl) dX5_readCommand_61 (kkI (fun C61 r61 h => ?_))
      refine r_if_eq hK dX5_readCommand_64 (t := 78) (by decide) (wpO_eq h) (fun h => ?_) (fun h => ?_)
      · refine r_iconst hK dX5_readCommand_78 ?_
        exact r_ireturn hK hr hQ (nar_b (by decide)) dX5_readCommand_79 ⟨C61, 0, rfl, rfl, wpO_some h⟩
      · refine r_aload_n hK dX5_readCommand_67 rfl ?_
        refine r_callV hK ck_X5_readStop im_X5_readStop sl_X5_readStop ml_RX5_67 (by omega) (c_X5_readStop (l := kL K) (g := g) (X := X) C61 (wpO_bd h)) cls_5 (k := 4) (by omega) rfl (As := []) (st := []) rfl (Nat.le_of_ble_eq_true rfl) dX5_readCommand_68 (kkI (fun C68 r68 h => ?_))
        refine r_if_eq hK dX5_readCommand_71 (t := 78) (by decide) (wpO_eq h) (fun h => ?_) (fun h => ?_)
        · refine r_iconst hK dX5_readCommand_78 ?_
          exact r_ireturn hK hr hQ (nar_b (by decide)) dX5_readCommand_79 ⟨C68, 0, rfl, rfl, wpO_some h⟩
        · refine r_iconst hK dX5_readCommand_74 ?_
          refine r_goto hK dX5_readCommand_75 (t := 79) (by decide) ?_
          exact r_ireturn hK hr hQ (nar_b (by decide)) dX5_readCommand_79 ⟨C68, 1, rfl, rfl, wpO_some h⟩
  · refine r_aload_n hK dX5_readCommand_9 rfl ?_
    refine r_iconst hK dX5_readCommand_10 ?_
    refine r_put (k := 4) hK cls_5 fl_RX5_57 (by decide) (by omega) rfl rfl rfl rfl rfl dX5_readCommand_11 (up_c (by omega)) ?_
    refine r_aload_n hK dX5_readCommand_14 rfl ?_
    refine r_callV hK ck_X5_readKey im_X5_readKey sl_X5_readKey ml_RX5_60 (by omega) (c_X5_readKey (l := kL K) (g := g) (X := X) (up C3 4 6 (0)) (wpO_bd h)) cls_5 (k := 4) (by omega) rfl (As := []) (st := []) rfl (Nat.le_of_ble_eq_true rfl) dX5_readCommand_15 (kkI (fun C15 r15 h => ?_))
    refine r_if_eq hK dX5_readCommand_18 (t := 44) (by decide) (wpO_eq h) (fun h => ?_) (fun h => ?_)
    · refine r_iconst hK dX5_readCommand_44 ?_
      exact r_ireturn hK hr hQ (nar_b (by decide)) dX5_readCommand_45 ⟨C15, 0, rfl, rfl, wpO_some h⟩
    · refine r_aload_n hK dX5_readCommand_21 rfl ?_
      refine r_iconst hK dX5_readCommand_22 ?_
      refine r_iconst hK dX5_readCommand_23 ?_
      refine r_sipush hK dX5_readCommand_24 (by decide) ?_
      refine r_callV hK ck_X5_readNumber im_X5_readNumber sl_X5_readNumber ml_RX5_63 (by omega) (c_X5_readNumber (l := kL K) (g := g) (X := X) (0) (0) (255) C15 (wpO_bd h)) cls_5 (k := 4) (by omega) rfl (As := [.int (I (0)), .int (I (0)), .int (I (255))]) (st := []) rfl (Nat.le_of_ble_eq_true rfl) dX5_readCommand_27 (kkI (fun C27 r27 h => ?_))
      refine r_if_eq hK dX5_readCommand_30 (t := 44) (by decide) (wpO_eq h) (fun h => ?_) (fun h => ?_)
      · refine r_iconst hK dX5_readCommand_44 ?_
        exact r_ireturn hK hr hQ (nar_b (by decide)) dX5_readCommand_45 ⟨C27, 0, rfl, rfl, wpO_some h⟩
      · refine r_aload_n hK dX5_readCommand_33 rfl ?_
        refine r_callV hK ck_X5_readStop im_X5_readStop sl_X5_readStop ml_RX5_67 (by omega) (c_X5_readStop (l := kL K) (g := g) (X := X) C27 (wpO_bd h)) cls_5 (k := 4) (by omega) rfl (As := []) (st := []) rfl (Nat.le_of_ble_eq_true rfl) dX5_readCommand_34 (kkI (fun C34 r34 h => ?_))
        refine r_if_eq hK dX5_readCommand_37 (t := 44) (by decide) (wpO_eq h) (fun h => ?_) (fun h => ?_)
        · refine r_iconst hK dX5_readCommand_44 ?_
          exact r_ireturn hK hr hQ (nar_b (by decide)) dX5_readCommand_45 ⟨C34, 0, rfl, rfl, wpO_some h⟩
        · refine r_iconst hK dX5_readCommand_40 ?_
          refine r_goto hK dX5_readCommand_41 (t := 45) (by decide) ?_
          exact r_ireturn hK hr hQ (nar_b (by decide)) dX5_readCommand_45 ⟨C34, 1, rfl, rfl, wpO_some h⟩
set_option maxRecDepth 100000 in
set_option maxHeartbeats 4000000 in
theorem w_X5_firstFault_6 {K : KT} {g : GT} {X : Mem} {dd : Nat} (hK : Kok K g cX5_firstFault RX5 dd) (hN : kN K = 2) (hr : (kMe K).sig.returnType = (some .int)) {Q : Mem → Int → Prop} (hQ : kQ K = MQ (kB K) (Qc g (QI (fun c => mrg c X) Q)) (kA K) (kS K) (kc K) (ks K) (gS g)) (hdd : 7 ≤ dd) (k : Int → Mem → Option (Mem × Int)) (hk : ∀ (v1 : Int) (C : Mem), wpO (k v1 C) Q → Wn K g (mrg C X) 37 [some (.ref (gA g 4)), some (.int (I (v1)))] []) : ∀ (n : Nat) (v1 : Int) (C : Mem), wpO (f_X5_firstFault_6 k n v1 C) Q → Wn K g (mrg C X) 6 [some (.ref (gA g 4)), some (.int (I (v1)))] [] := by
  intro n
  induction n with
  | zero => intro v1 C h; exact (wpO_none h).elim
  | succ n ih =>
    intro v1 C h
    unfold f_X5_firstFault_6 at h
    refine r_iload_n hK dX5_firstFault_6 rfl ?_
    refine r_bipush hK dX5_firstFault_7 (by decide) ?_
    refine r_icmp_gt hK dX5_firstFault_9 (t := 37) (by decide) (wpO_lt h) (fun h => ?_) (fun h => ?_)
    · exact hk (v1) C h
    · refine r_aload_n hK dX5_firstFault_12 rfl ?_
      refine r_callV hK ck_X5_hasMore im_X5_hasMore sl_X5_hasMore ml_RX5_35 (by omega) (c_X5_hasMore (l := kL K) (g := g) (X := X) C (wpO_bd h)) cls_5 (k := 4) (by omega) rfl (As := []) (st := []) rfl (Nat.le_of_ble_eq_true rfl) dX5_firstFault_13 (kkI (fun C13 r13 h => ?_))
      refine r_if_eq hK dX5_firstFault_16 (t := 37) (by decide) (wpO_eq h) (fun h => ?_) (fun h => ?_)
      · exact hk (v1) C13 h
      · refine r_aload_n hK dX5_firstFault_19 rfl ?_
        refine r_callV hK ck_X5_readCommand im_X5_readCommand sl_X5_readCommand ml_RX5_39 (by omega) (c_X5_readCommand (l := kL K) (g := g) (X := X) C13 (wpO_bd h)) cls_5 (k := 4) (by omega) rfl (As := []) (st := []) rfl (Nat.le_of_ble_eq_true rfl) dX5_firstFault_20 (kkI (fun C20 r20 h => ?_))
        refine r_if_ne hK dX5_firstFault_23 (t := 31) (by decide) (wpO_eq h) (fun h => ?_) (fun h => ?_)
        · refine r_aload_n hK dX5_firstFault_26 rfl ?_
          refine r_getI (k := 4) hK cls_5 fl_RX5_42 (by decide) (by omega) rfl rfl dX5_firstFault_27 (mrg_c (by omega)) ?_
          exact r_ireturn hK hr hQ rfl dX5_firstFault_30 ⟨C20, (C20 4 2), rfl, rfl, wpO_some h⟩
        · refine r_iinc hK dX5_firstFault_31 (by rw [hN]; decide) rfl rfl (lv' := [some (.ref (gA g 4)), some (.int (I (v1 + 1)))]) rfl ?_
          refine r_goto hK dX5_firstFault_34 (t := 6) (by decide) ?_
          exact ih (v1 + 1) C20 h
set_option maxRecDepth 100000 in
set_option maxHeartbeats 4000000 in
theorem c_X5_firstFault {l : Launch} {g : GT} {X : Mem} {Q : Mem → Int → Prop} (C : Mem) (h : wpO (f_X5_firstFault C) Q) : MetC l yX5_firstFault cX5_firstFault 2 (some .int) 7 g [.ref (gA g 4)] (mrg C X) (QI (fun c => mrg c X) Q) := by
  refine met_at 1 (lv := [some (.ref (gA g 4)), none]) (by decide) (Nat.le_of_ble_eq_true rfl) rfl rfl (fun K hK hN hr hQ => ?_)
  unfold f_X5_firstFault at h
  refine r_aload_n hK dX5_firstFault_0 rfl ?_
  refine r_callV hK ck_X5_rewind im_X5_rewind sl_X5_rewind ml_RX5_32 (by omega) (c_X5_rewind (l := kL K) (g := g) (X := X) C (wpO_bd h)) cls_5 (k := 4) (by omega) rfl (As := []) (st := []) rfl (Nat.le_of_ble_eq_true rfl) dX5_firstFault_1 (kkV (fun C1 h => ?_))
  refine r_iconst hK dX5_firstFault_4 ?_
  refine r_istore_n hK dX5_firstFault_5 (by rw [hN]; decide) rfl (lv' := [some (.ref (gA g 4)), some (.int (I (0)))]) rfl ?_
  refine w_X5_firstFault_6 hK hN hr hQ (by omega) _ (fun v1_e6 C_e6 h => ?_) FU (0) C1 h
  refine r_iconst hK dX5_firstFault_37 ?_
  exact r_ireturn hK hr hQ rfl dX5_firstFault_38 ⟨C_e6, (-1), rfl, rfl, wpO_some h⟩

set_option maxRecDepth 100000 in
set_option maxHeartbeats 4000000 in
theorem c_X7_type {l : Launch} {g : GT} {X : Mem} {Q : Mem → Int → Prop} (a1 : Int) (C : Mem) (h : wpO (f_X7_type a1 C) Q) : MetC l yX7_type cX7_type 2 (some .int) 3 g [.ref (gA g 0), .int (I (a1))] (mrg C X) (QI (fun c => mrg c X) Q) := by
  refine met_at 0 (lv := [some (.ref (gA g 0)), some (.int (I (a1)))]) (by decide) (Nat.le_of_ble_eq_true rfl) rfl rfl (fun K hK hN hr hQ => ?_)
  unfold f_X7_type at h
  refine r_iload_n hK dX7_type_0 rfl ?_
  refine r_callS hK ck_X7_isByte sc_X7_isByte ml_RX7_53 (by omega) (c_X7_isByte (l := kL K) (g := g) (X := X) (a1) C (wpO_bd h)) (As := [.int (I (a1))]) (st := []) rfl (Nat.le_of_ble_eq_true rfl) dX7_type_1 (kkI (fun C1 r1 h => ?_))
  refine r_if_ne hK dX7_type_4 (t := 9) (by decide) (wpO_eq h) (fun h => ?_) (fun h => ?_)
  · refine r_iconst hK dX7_type_7 ?_
    exact r_ireturn hK hr hQ rfl dX7_type_8 ⟨C1, (-1), rfl, rfl, wpO_some h⟩
  · refine r_aload_n hK dX7_type_9 rfl ?_
    refine r_getR (k := 0) (k' := 4) hK cls_7 fl_RX7_35 (by decide) (by omega) rfl rfl dX7_type_10 ?_
    refine r_iload_n hK dX7_type_13 rfl ?_
    refine r_callV hK ck_X5_add im_X5_add sl_X5_add ml_RX7_57 (by omega) (c_X5_add (l := kL K) (g := g) (X := X) (a1) C1 (wpO_bd h)) cls_5 (k := 4) (by omega) rfl (As := [.int (I (a1))]) (st := []) rfl (Nat.le_of_ble_eq_true rfl) dX7_type_14 (kkI (fun C14 r14 h => ?_))
    refine r_if_eq hK dX7_type_17 (t := 30) (by decide) (wpO_eq h) (fun h => ?_) (fun h => ?_)
    · refine r_bipush hK dX7_type_30 (by decide) ?_
      exact r_ireturn hK hr hQ rfl dX7_type_32 ⟨C14, (-3), rfl, rfl, wpO_some h⟩
    · refine r_aload_n hK dX7_type_20 rfl ?_
      refine r_getR (k := 0) (k' := 4) hK cls_7 fl_RX7_35 (by decide) (by omega) rfl rfl dX7_type_21 ?_
      refine r_getIN (k := 4) hK cls_5 fl_RX7_60 (by decide) (by omega) rfl rfl dX7_type_24 (mrg_c (by omega)) ?_
      refine r_goto hK dX7_type_27 (t := 32) (by decide) ?_
      exact r_ireturn hK hr hQ rfl dX7_type_32 ⟨C14, (C14 4 1), rfl, rfl, wpO_some h⟩
set_option maxRecDepth 100000 in
set_option maxHeartbeats 4000000 in
theorem c_X7_clear {l : Launch} {g : GT} {X : Mem} {Q : Mem → Int → Prop} (C : Mem) (h : wpO (f_X7_clear C) Q) : MetC l yX7_clear cX7_clear 2 (some .int) 1 g [.ref (gA g 0)] (mrg C X) (QI (fun c => mrg c X) Q) := by
  refine met_at 1 (lv := [some (.ref (gA g 0)), none]) (by decide) (Nat.le_of_ble_eq_true rfl) rfl rfl (fun K hK hN hr hQ => ?_)
  unfold f_X7_clear at h
  refine r_aload_n hK dX7_clear_0 rfl ?_
  refine r_getR (k := 0) (k' := 4) hK cls_7 fl_RX7_35 (by decide) (by omega) rfl rfl dX7_clear_1 ?_
  refine r_getIN (k := 4) hK cls_5 fl_RX7_60 (by decide) (by omega) rfl rfl dX7_clear_4 (mrg_c (by omega)) ?_
  refine r_istore_n hK dX7_clear_7 (by rw [hN]; decide) rfl (lv' := [some (.ref (gA g 0)), some (.int (I (C 4 1)))]) rfl ?_
  refine r_aload_n hK dX7_clear_8 rfl ?_
  refine r_getR (k := 0) (k' := 4) hK cls_7 fl_RX7_35 (by decide) (by omega) rfl rfl dX7_clear_9 ?_
  refine r_iconst hK dX7_clear_12 ?_
  refine r_putN (k := 4) hK cls_5 fl_RX7_60 (by decide) (by omega) rfl rfl rfl rfl rfl dX7_clear_13 (up_c (by omega)) ?_
  refine r_iload_n hK dX7_clear_16 rfl ?_
  exact r_ireturn hK hr hQ rfl dX7_clear_17 ⟨(up C 4 1 (0)), (C 4 1), rfl, rfl, wpO_some h⟩
set_option maxRecDepth 100000 in
set_option maxHeartbeats 4000000 in
theorem w_X7_run_28 {K : KT} {g : GT} {X : Mem} {dd : Nat} (hK : Kok K g cX7_run RX7 dd) (hN : kN K = 5) (hr : (kMe K).sig.returnType = (some .int)) {Q : Mem → Int → Prop} (hQ : kQ K = MQ (kB K) (Qc g (QI (fun c => mrg c X) Q)) (kA K) (kS K) (kc K) (ks K) (gS g)) (hdd : 8 ≤ dd) (k : Int → Int → Mem → Option (Mem × Int)) (hk : ∀ (v2 : Int) (v3 : Int) (C : Mem), wpO (k v2 v3 C) Q → Wn K g (mrg C X) 194 [some (.ref (gA g 0)), none, some (.int (I (v2))), some (.int (I (v3))), none] []) : ∀ (n : Nat) (v2 : Int) (v3 : Int) (C : Mem), wpO (f_X7_run_28 k n v2 v3 C) Q → Wn K g (mrg C X) 28 [some (.ref (gA g 0)), none, some (.int (I (v2))), some (.int (I (v3))), none] [] := by
  intro n
  induction n with
  | zero => intro v2 v3 C h; exact (wpO_none h).elim
  | succ n ih =>
    intro v2 v3 C h
    unfold f_X7_run_28 at h
    refine r_iload_n hK dX7_run_28 rfl ?_
    refine r_bipush hK dX7_run_29 (by decide) ?_
    refine r_icmp_ge hK dX7_run_31 (t := 194) (by decide) (wpO_lt h) (fun h => ?_) (fun h => ?_)
    · refine r_aload_n hK dX7_run_34 rfl ?_
      refine r_getR (k := 0) (k' := 4) hK cls_7 fl_RX7_35 (by decide) (by omega) rfl rfl dX7_run_35 ?_
      refine r_callV hK ck_X5_hasMore im_X5_hasMore sl_X5_hasMore ml_RX7_71 (by omega) (c_X5_hasMore (l := kL K) (g := g) (X := X) C (wpO_bd h)) cls_5 (k := 4) (by omega) rfl (As := []) (st := []) rfl (Nat.le_of_ble_eq_true rfl) dX7_run_38 (kkI (fun C38 r38 h => ?_))
      refine r_if_eq hK dX7_run_41 (t := 194) (by decide) (wpO_eq h) (fun h => ?_) (fun h => ?_)
      · exact hk (v2) (v3) C38 h
      · refine r_aload_n hK dX7_run_44 rfl ?_
        refine r_getR (k := 0) (k' := 4) hK cls_7 fl_RX7_35 (by decide) (by omega) rfl rfl dX7_run_45 ?_
        refine r_callV hK ck_X5_readCommand im_X5_readCommand sl_X5_readCommand ml_RX7_75 (by omega) (c_X5_readCommand (l := kL K) (g := g) (X := X) C38 (wpO_bd h)) cls_5 (k := 4) (by omega) rfl (As := []) (st := []) rfl (Nat.le_of_ble_eq_true rfl) dX7_run_48 (kkI (fun C48 r48 h => ?_))
        refine r_if_eq hK dX7_run_51 (t := 194) (by decide) (wpO_eq h) (fun h => ?_) (fun h => ?_)
        · exact hk (v2) (v3) C48 h
        · refine r_iconst hK dX7_run_54 ?_
          refine r_istore hK dX7_run_55 (by rw [hN]; decide) rfl (lv' := [some (.ref (gA g 0)), none, some (.int (I (v2))), some (.int (I (v3))), some (.int (I (0)))]) rfl ?_
          refine r_aload_n hK dX7_run_57 rfl ?_
          refine r_getR (k := 0) (k' := 4) hK cls_7 fl_RX7_35 (by decide) (by omega) rfl rfl dX7_run_58 ?_
          refine r_getIN (k := 4) hK cls_5 fl_RX7_78 (by decide) (by omega) rfl rfl dX7_run_61 (mrg_c (by omega)) ?_
          refine r_jn (J := fun j175 => ∀ (x4_175 : Int) (C_175 : Mem), wpO (j175 x4_175 C_175) Q → Wn K g (mrg C_175 X) 175 [some (.ref (gA g 0)), none, some (.int (I (v2))), some (.int (I (v3))), some (.int (I (x4_175)))] []) h ?_ ?_
          · intro x4_175 C_175 h
            refine r_iload_n hK dX7_run_175 rfl ?_
            refine r_iload hK dX7_run_176 rfl ?_
            refine r_if_eq hK dX7_run_178 (t := 185) (by decide) (wpO_eq h) (fun h => ?_) (fun h => ?_)
            · refine r_iconst hK dX7_run_185 ?_
              refine r_iadd hK dX7_run_186 ?_
              refine r_istore_n hK dX7_run_187 (by rw [hN]; decide) rfl (lv' := [some (.ref (gA g 0)), none, some (.int (I (v2 + 1))), some (.int (I (v3))), some (.int (I (x4_175)))]) rfl ?_
              refine r_iinc hK dX7_run_188 (by rw [hN]; decide) rfl rfl (lv' := [some (.ref (gA g 0)), none, some (.int (I (v2 + 1))), some (.int (I (v3 + 1))), some (.int (I (x4_175)))]) rfl ?_
              refine r_goto hK dX7_run_191 (t := 28) (by decide) ?_
              refine r_cut [true, false, true, true, false] (lv' := [some (.ref (gA g 0)), none, some (.int (I (v2 + 1))), some (.int (I (v3 + 1))), none]) rfl ?_
              exact ih (v2 + 1) (v3 + 1) C_175 h
            · refine r_iconst hK dX7_run_181 ?_
              refine r_goto hK dX7_run_182 (t := 186) (by decide) ?_
              refine r_iadd hK dX7_run_186 ?_
              refine r_istore_n hK dX7_run_187 (by rw [hN]; decide) rfl (lv' := [some (.ref (gA g 0)), none, some (.int (I (v2 + 0))), some (.int (I (v3))), some (.int (I (x4_175)))]) rfl ?_
              refine r_iinc hK dX7_run_188 (by rw [hN]; decide) rfl rfl (lv' := [some (.ref (gA g 0)), none, some (.int (I (v2 + 0))), some (.int (I (v3 + 1))), some (.int (I (x4_175)))]) rfl ?_
              refine r_goto hK dX7_run_191 (t := 28) (by decide) ?_
              refine r_cut [true, false, true, true, false] (lv' := [some (.ref (gA g 0)), none, some (.int (I (v2 + 0))), some (.int (I (v3 + 1))), none]) rfl ?_
              exact ih (v2 + 0) (v3 + 1) C_175 h
          · intro hj175 h
            refine r_if_ne hK dX7_run_64 (t := 104) (by decide) (wpO_eq h) (fun h => ?_) (fun h => ?_)
            · refine r_aload_n hK dX7_run_67 rfl ?_
              refine r_getR (k := 0) (k' := 2) hK cls_7 fl_RX7_21 (by decide) (by omega) rfl rfl dX7_run_68 ?_
              refine r_aload_n hK dX7_run_71 rfl ?_
              refine r_getR (k := 0) (k' := 4) hK cls_7 fl_RX7_35 (by decide) (by omega) rfl rfl dX7_run_72 ?_
              refine r_getRN (k := 4) (k' := (10 + 2 * 4)) hK cls_5 fl_RX7_81 (by decide) (by omega) rfl rfl dX7_run_75 ?_
              refine r_aload_n hK dX7_run_78 rfl ?_
              refine r_getR (k := 0) (k' := 4) hK cls_7 fl_RX7_35 (by decide) (by omega) rfl rfl dX7_run_79 ?_
              refine r_iconst hK dX7_run_82 ?_
              refine r_callV hK ck_X5_number im_X5_number sl_X5_number ml_RX7_84 (by omega) (c_X5_number (l := kL K) (g := g) (X := X) (0) C48 (wpO_bd h)) cls_5 (k := 4) (by omega) rfl (As := [.int (I (0))]) (st := [.ref (gA g (10 + 2 * 4)), .ref (gA g 2)]) rfl (Nat.le_of_ble_eq_true rfl) dX7_run_83 (kkI (fun C83 r83 h => ?_))
              refine r_callV hK ck_X0_putKey im_X0_putKey sl_X0_putKey ml_RX7_88 (by omega) (c_X0_putKey (l := kL K) (g := g) (X := X) 4 (r83) (by decide) C83 (wpO_bd h)) cls_0 (k := 2) (by omega) rfl (As := [.ref (gA g (10 + 2 * 4)), .int (I (r83))]) (st := []) rfl (Nat.le_of_ble_eq_true rfl) dX7_run_86 (kkI (fun C86 r86 h => ?_))
              refine r_bipush hK dX7_run_89 (by decide) ?_
              refine r_jn (J := fun j99 => ∀ (s0_99 : Int), wpO (j99 s0_99) Q → Wn K g (mrg C86 X) 99 [some (.ref (gA g 0)), none, some (.int (I (v2))), some (.int (I (v3))), none] [.int (I (s0_99))]) h ?_ ?_
              · intro s0_99 h
                refine r_istore hK dX7_run_99 (by rw [hN]; decide) rfl (lv' := [some (.ref (gA g 0)), none, some (.int (I (v2))), some (.int (I (v3))), some (.int (I (s0_99)))]) rfl ?_
                refine r_goto hK dX7_run_101 (t := 175) (by decide) ?_
                exact hj175 (s0_99) C86 h
              · intro hj99 h
                refine r_icmp_ne hK dX7_run_91 (t := 98) (by decide) (wpO_eq h) (fun h => ?_) (fun h => ?_)
                · refine r_iconst hK dX7_run_94 ?_
                  refine r_goto hK dX7_run_95 (t := 99) (by decide) ?_
                  refine r_cut [true, false, true, true, false] (lv' := [some (.ref (gA g 0)), none, some (.int (I (v2))), some (.int (I (v3))), none]) rfl ?_
                  exact hj99 (1) h
                · refine r_iconst hK dX7_run_98 ?_
                  refine r_cut [true, false, true, true, false] (lv' := [some (.ref (gA g 0)), none, some (.int (I (v2))), some (.int (I (v3))), none]) rfl ?_
                  exact hj99 (0) h
            · refine r_aload_n hK dX7_run_104 rfl ?_
              refine r_getR (k := 0) (k' := 4) hK cls_7 fl_RX7_35 (by decide) (by omega) rfl rfl dX7_run_105 ?_
              refine r_getIN (k := 4) hK cls_5 fl_RX7_78 (by decide) (by omega) rfl rfl dX7_run_108 (mrg_c (by omega)) ?_
              refine r_iconst hK dX7_run_111 ?_
              refine r_icmp_ne hK dX7_run_112 (t := 144) (by decide) (wpO_eq h) (fun h => ?_) (fun h => ?_)
              · refine r_aload_n hK dX7_run_115 rfl ?_
                refine r_getR (k := 0) (k' := 2) hK cls_7 fl_RX7_21 (by decide) (by omega) rfl rfl dX7_run_116 ?_
                refine r_aload_n hK dX7_run_119 rfl ?_
                refine r_getR (k := 0) (k' := 4) hK cls_7 fl_RX7_35 (by decide) (by omega) rfl rfl dX7_run_120 ?_
                refine r_getRN (k := 4) (k' := (10 + 2 * 4)) hK cls_5 fl_RX7_81 (by decide) (by omega) rfl rfl dX7_run_123 ?_
                refine r_callV hK ck_X0_takeKey im_X0_takeKey sl_X0_takeKey ml_RX7_92 (by omega) (c_X0_takeKey (l := kL K) (g := g) (X := X) 4 (by decide) C48 (wpO_bd h)) cls_0 (k := 2) (by omega) rfl (As := [.ref (gA g (10 + 2 * 4))]) (st := []) rfl (Nat.le_of_ble_eq_true rfl) dX7_run_126 (kkI (fun C126 r126 h => ?_))
                refine r_bipush hK dX7_run_129 (by decide) ?_
                refine r_jn (J := fun j139 => ∀ (s0_139 : Int), wpO (j139 s0_139) Q → Wn K g (mrg C126 X) 139 [some (.ref (gA g 0)), none, some (.int (I (v2))), some (.int (I (v3))), none] [.int (I (s0_139))]) h ?_ ?_
                · intro s0_139 h
                  refine r_istore hK dX7_run_139 (by rw [hN]; decide) rfl (lv' := [some (.ref (gA g 0)), none, some (.int (I (v2))), some (.int (I (v3))), some (.int (I (s0_139)))]) rfl ?_
                  refine r_goto hK dX7_run_141 (t := 175) (by decide) ?_
                  exact hj175 (s0_139) C126 h
                · intro hj139 h
                  refine r_icmp_ne hK dX7_run_131 (t := 138) (by decide) (wpO_eq h) (fun h => ?_) (fun h => ?_)
                  · refine r_iconst hK dX7_run_134 ?_
                    refine r_goto hK dX7_run_135 (t := 139) (by decide) ?_
                    refine r_cut [true, false, true, true, false] (lv' := [some (.ref (gA g 0)), none, some (.int (I (v2))), some (.int (I (v3))), none]) rfl ?_
                    exact hj139 (1) h
                  · refine r_iconst hK dX7_run_138 ?_
                    refine r_cut [true, false, true, true, false] (lv' := [some (.ref (gA g 0)), none, some (.int (I (v2))), some (.int (I (v3))), none]) rfl ?_
                    exact hj139 (0) h
              · refine r_aload_n hK dX7_run_144 rfl ?_
                refine r_getR (k := 0) (k' := 2) hK cls_7 fl_RX7_21 (by decide) (by omega) rfl rfl dX7_run_145 ?_
                refine r_aload_n hK dX7_run_148 rfl ?_
                refine r_getR (k := 0) (k' := 4) hK cls_7 fl_RX7_35 (by decide) (by omega) rfl rfl dX7_run_149 ?_
                refine r_iconst hK dX7_run_152 ?_
                refine r_callV hK ck_X5_number im_X5_number sl_X5_number ml_RX7_84 (by omega) (c_X5_number (l := kL K) (g := g) (X := X) (0) C48 (wpO_bd h)) cls_5 (k := 4) (by omega) rfl (As := [.int (I (0))]) (st := [.ref (gA g 2)]) rfl (Nat.le_of_ble_eq_true rfl) dX7_run_153 (kkI (fun C153 r153 h => ?_))
                refine r_aload_n hK dX7_run_156 rfl ?_
                refine r_getR (k := 0) (k' := 4) hK cls_7 fl_RX7_35 (by decide) (by omega) rfl rfl dX7_run_157 ?_
                refine r_iconst hK dX7_run_160 ?_
                refine r_callV hK ck_X5_number im_X5_number sl_X5_number ml_RX7_84 (by omega) (c_X5_number (l := kL K) (g := g) (X := X) (1) C153 (wpO_bd h)) cls_5 (k := 4) (by omega) rfl (As := [.int (I (1))]) (st := [.int (I (r153)), .ref (gA g 2)]) rfl (Nat.le_of_ble_eq_true rfl) dX7_run_161 (kkI (fun C161 r161 h => ?_))
                refine r_aload_n hK dX7_run_164 rfl ?_
                refine r_getR (k := 0) (k' := 4) hK cls_7 fl_RX7_35 (by decide) (by omega) rfl rfl dX7_run_165 ?_
                refine r_iconst hK dX7_run_168 ?_
                refine r_callV hK ck_X5_number im_X5_number sl_X5_number ml_RX7_84 (by omega) (c_X5_number (l := kL K) (g := g) (X := X) (2) C161 (wpO_bd h)) cls_5 (k := 4) (by omega) rfl (As := [.int (I (2))]) (st := [.int (I (r161)), .int (I (r153)), .ref (gA g 2)]) rfl (Nat.le_of_ble_eq_true rfl) dX7_run_169 (kkI (fun C169 r169 h => ?_))
                refine r_callV hK ck_X0_loadRow im_X0_loadRow sl_X0_loadRow ml_RX7_96 (by omega) (c_X0_loadRow (l := kL K) (g := g) (X := X) (r153) (r161) (r169) C169 (wpO_bd h)) cls_0 (k := 2) (by omega) rfl (As := [.int (I (r153)), .int (I (r161)), .int (I (r169))]) (st := []) rfl (Nat.le_of_ble_eq_true rfl) dX7_run_172 (kkV (fun C172 h => ?_))
                exact hj175 (0) C172 h
    · exact hk (v2) (v3) C h
set_option maxRecDepth 100000 in
set_option maxHeartbeats 4000000 in
theorem c_X7_run {l : Launch} {g : GT} {X : Mem} {Q : Mem → Int → Prop} (C : Mem) (h : wpO (f_X7_run C) Q) : MetC l yX7_run cX7_run 5 (some .int) 8 g [.ref (gA g 0)] (mrg C X) (QI (fun c => mrg c X) Q) := by
  refine met_at 4 (lv := [some (.ref (gA g 0)), none, none, none, none]) (by decide) (Nat.le_of_ble_eq_true rfl) rfl rfl (fun K hK hN hr hQ => ?_)
  unfold f_X7_run at h
  refine r_aload_n hK dX7_run_0 rfl ?_
  refine r_getR (k := 0) (k' := 4) hK cls_7 fl_RX7_35 (by decide) (by omega) rfl rfl dX7_run_1 ?_
  refine r_callV hK ck_X5_firstFault im_X5_firstFault sl_X5_firstFault ml_RX7_64 (by omega) (c_X5_firstFault (l := kL K) (g := g) (X := X) C (wpO_bd h)) cls_5 (k := 4) (by omega) rfl (As := []) (st := []) rfl (Nat.le_of_ble_eq_true rfl) dX7_run_4 (kkI (fun C4 r4 h => ?_))
  refine r_istore_n hK dX7_run_7 (by rw [hN]; decide) rfl (lv' := [some (.ref (gA g 0)), some (.int (I (r4))), none, none, none]) rfl ?_
  refine r_iload_n hK dX7_run_8 rfl ?_
  refine r_if_lt hK dX7_run_9 (t := 17) (by decide) (wpO_lt h) (fun h => ?_) (fun h => ?_)
  · refine r_iconst hK dX7_run_17 ?_
    refine r_istore_n hK dX7_run_18 (by rw [hN]; decide) rfl (lv' := [some (.ref (gA g 0)), some (.int (I (r4))), some (.int (I (0))), none, none]) rfl ?_
    refine r_aload_n hK dX7_run_19 rfl ?_
    refine r_getR (k := 0) (k' := 4) hK cls_7 fl_RX7_35 (by decide) (by omega) rfl rfl dX7_run_20 ?_
    refine r_callV hK ck_X5_rewind im_X5_rewind sl_X5_rewind ml_RX7_68 (by omega) (c_X5_rewind (l := kL K) (g := g) (X := X) C4 (wpO_bd h)) cls_5 (k := 4) (by omega) rfl (As := []) (st := []) rfl (Nat.le_of_ble_eq_true rfl) dX7_run_23 (kkV (fun C23 h => ?_))
    refine r_iconst hK dX7_run_26 ?_
    refine r_istore_n hK dX7_run_27 (by rw [hN]; decide) rfl (lv' := [some (.ref (gA g 0)), some (.int (I (r4))), some (.int (I (0))), some (.int (I (0))), none]) rfl ?_
    refine r_cut [true, false, true, true, false] (lv' := [some (.ref (gA g 0)), none, some (.int (I (0))), some (.int (I (0))), none]) rfl ?_
    refine w_X7_run_28 hK hN hr hQ (by omega) _ (fun v2_e28 v3_e28 C_e28 h => ?_) FU (0) (0) C23 h
    refine r_aload_n hK dX7_run_194 rfl ?_
    refine r_getR (k := 0) (k' := 4) hK cls_7 fl_RX7_35 (by decide) (by omega) rfl rfl dX7_run_195 ?_
    refine r_iconst hK dX7_run_198 ?_
    refine r_putN (k := 4) hK cls_5 fl_RX7_60 (by decide) (by omega) rfl rfl rfl rfl rfl dX7_run_199 (up_c (by omega)) ?_
    refine r_iload_n hK dX7_run_202 rfl ?_
    exact r_ireturn hK hr hQ rfl dX7_run_203 ⟨(up C_e28 4 1 (0)), v2_e28, rfl, rfl, wpO_some h⟩
  · refine r_bipush hK dX7_run_12 (by decide) ?_
    refine r_iload_n hK dX7_run_14 rfl ?_
    refine r_isub hK dX7_run_15 ?_
    exact r_ireturn hK hr hQ rfl dX7_run_16 ⟨C4, ((-10) - r4), rfl, rfl, wpO_some h⟩
set_option maxRecDepth 100000 in
set_option maxHeartbeats 4000000 in
theorem c_X7_put {l : Launch} {g : GT} {X : Mem} {Q : Mem → Int → Prop} (a1 : Int) (a2 : Int) (a3 : Int) (C : Mem) (h : wpO (f_X7_put a1 a2 a3 C) Q) : MetC l yX7_put cX7_put 4 (some .int) 7 g [.ref (gA g 0), .int (I (a1)), .int (I (a2)), .int (I (a3))] (mrg C X) (QI (fun c => mrg c X) Q) := by
  refine met_at 0 (lv := [some (.ref (gA g 0)), some (.int (I (a1))), some (.int (I (a2))), some (.int (I (a3)))]) (by decide) (Nat.le_of_ble_eq_true rfl) rfl rfl (fun K hK hN hr hQ => ?_)
  unfold f_X7_put at h
  refine r_iload_n hK dX7_put_0 rfl ?_
  refine r_iload_n hK dX7_put_1 rfl ?_
  refine r_callS hK ck_X7_isSpelled sc_X7_isSpelled ml_RX7_100 (by omega) (c_X7_isSpelled (l := kL K) (g := g) (X := X) (a1) (a2) C (wpO_bd h)) (As := [.int (I (a1)), .int (I (a2))]) (st := []) rfl (Nat.le_of_ble_eq_true rfl) dX7_put_2 (kkI (fun C2 r2 h => ?_))
  refine r_if_eq hK dX7_put_5 (t := 15) (by decide) (wpO_eq h) (fun h => ?_) (fun h => ?_)
  · refine r_iconst hK dX7_put_15 ?_
    exact r_ireturn hK hr hQ rfl dX7_put_16 ⟨C2, (-1), rfl, rfl, wpO_some h⟩
  · refine r_iload_n hK dX7_put_8 rfl ?_
    refine r_callS hK ck_X7_isByte sc_X7_isByte ml_RX7_53 (by omega) (c_X7_isByte (l := kL K) (g := g) (X := X) (a3) C2 (wpO_bd h)) (As := [.int (I (a3))]) (st := []) rfl (Nat.le_of_ble_eq_true rfl) dX7_put_9 (kkI (fun C9 r9 h => ?_))
    refine r_if_ne hK dX7_put_12 (t := 17) (by decide) (wpO_eq h) (fun h => ?_) (fun h => ?_)
    · refine r_iconst hK dX7_put_15 ?_
      exact r_ireturn hK hr hQ rfl dX7_put_16 ⟨C9, (-1), rfl, rfl, wpO_some h⟩
    · refine r_aload_n hK dX7_put_17 rfl ?_
      refine r_getR (k := 0) (k' := (10 + 2 * 0)) hK cls_7 fl_RX7_48 (by decide) (by omega) rfl rfl dX7_put_18 ?_
      refine r_iload_n hK dX7_put_21 rfl ?_
      refine r_iload_n hK dX7_put_22 rfl ?_
      refine r_callV hK ck_X3_spell im_X3_spell sl_X3_spell ml_RX7_104 (by omega) (c_X3_spell (l := kL K) (g := g) (X := X) 0 (a1) (a2) (by decide) C9 (wpO_bd h)) cls_3 (k := (10 + 2 * 0)) (by omega) (sh_key (by decide)) (As := [.int (I (a1)), .int (I (a2))]) (st := []) rfl (Nat.le_of_ble_eq_true rfl) dX7_put_23 (kkV (fun C23 h => ?_))
      refine r_aload_n hK dX7_put_26 rfl ?_
      refine r_getR (k := 0) (k' := 2) hK cls_7 fl_RX7_21 (by decide) (by omega) rfl rfl dX7_put_27 ?_
      refine r_aload_n hK dX7_put_30 rfl ?_
      refine r_getR (k := 0) (k' := (10 + 2 * 0)) hK cls_7 fl_RX7_48 (by decide) (by omega) rfl rfl dX7_put_31 ?_
      refine r_iload_n hK dX7_put_34 rfl ?_
      refine r_callV hK ck_X0_putKey im_X0_putKey sl_X0_putKey ml_RX7_88 (by omega) (c_X0_putKey (l := kL K) (g := g) (X := X) 0 (a3) (by decide) C23 (wpO_bd h)) cls_0 (k := 2) (by omega) rfl (As := [.ref (gA g (10 + 2 * 0)), .int (I (a3))]) (st := []) rfl (Nat.le_of_ble_eq_true rfl) dX7_put_35 (kkI (fun C35 r35 h => ?_))
      exact r_ireturn hK hr hQ rfl dX7_put_38 ⟨C35, r35, rfl, rfl, wpO_some h⟩
set_option maxRecDepth 100000 in
set_option maxHeartbeats 4000000 in
theorem c_X7_take {l : Launch} {g : GT} {X : Mem} {Q : Mem → Int → Prop} (a1 : Int) (a2 : Int) (C : Mem) (h : wpO (f_X7_take a1 a2 C) Q) : MetC l yX7_take cX7_take 3 (some .int) 7 g [.ref (gA g 0), .int (I (a1)), .int (I (a2))] (mrg C X) (QI (fun c => mrg c X) Q) := by
  refine met_at 0 (lv := [some (.ref (gA g 0)), some (.int (I (a1))), some (.int (I (a2)))]) (by decide) (Nat.le_of_ble_eq_true rfl) rfl rfl (fun K hK hN hr hQ => ?_)
  unfold f_X7_take at h
  refine r_iload_n hK dX7_take_0 rfl ?_
  refine r_iload_n hK dX7_take_1 rfl ?_
  refine r_callS hK ck_X7_isSpelled sc_X7_isSpelled ml_RX7_100 (by omega) (c_X7_isSpelled (l := kL K) (g := g) (X := X) (a1) (a2) C (wpO_bd h)) (As := [.int (I (a1)), .int (I (a2))]) (st := []) rfl (Nat.le_of_ble_eq_true rfl) dX7_take_2 (kkI (fun C2 r2 h => ?_))
  refine r_if_ne hK dX7_take_5 (t := 10) (by decide) (wpO_eq h) (fun h => ?_) (fun h => ?_)
  · refine r_iconst hK dX7_take_8 ?_
    exact r_ireturn hK hr hQ rfl dX7_take_9 ⟨C2, (-1), rfl, rfl, wpO_some h⟩
  · refine r_aload_n hK dX7_take_10 rfl ?_
    refine r_getR (k := 0) (k' := (10 + 2 * 0)) hK cls_7 fl_RX7_48 (by decide) (by omega) rfl rfl dX7_take_11 ?_
    refine r_iload_n hK dX7_take_14 rfl ?_
    refine r_iload_n hK dX7_take_15 rfl ?_
    refine r_callV hK ck_X3_spell im_X3_spell sl_X3_spell ml_RX7_104 (by omega) (c_X3_spell (l := kL K) (g := g) (X := X) 0 (a1) (a2) (by decide) C2 (wpO_bd h)) cls_3 (k := (10 + 2 * 0)) (by omega) (sh_key (by decide)) (As := [.int (I (a1)), .int (I (a2))]) (st := []) rfl (Nat.le_of_ble_eq_true rfl) dX7_take_16 (kkV (fun C16 h => ?_))
    refine r_aload_n hK dX7_take_19 rfl ?_
    refine r_getR (k := 0) (k' := 2) hK cls_7 fl_RX7_21 (by decide) (by omega) rfl rfl dX7_take_20 ?_
    refine r_aload_n hK dX7_take_23 rfl ?_
    refine r_getR (k := 0) (k' := (10 + 2 * 0)) hK cls_7 fl_RX7_48 (by decide) (by omega) rfl rfl dX7_take_24 ?_
    refine r_callV hK ck_X0_takeKey im_X0_takeKey sl_X0_takeKey ml_RX7_92 (by omega) (c_X0_takeKey (l := kL K) (g := g) (X := X) 0 (by decide) C16 (wpO_bd h)) cls_0 (k := 2) (by omega) rfl (As := [.ref (gA g (10 + 2 * 0))]) (st := []) rfl (Nat.le_of_ble_eq_true rfl) dX7_take_27 (kkI (fun C27 r27 h => ?_))
    exact r_ireturn hK hr hQ rfl dX7_take_30 ⟨C27, r27, rfl, rfl, wpO_some h⟩
set_option maxRecDepth 100000 in
set_option maxHeartbeats 4000000 in
theorem c_X7_load {l : Launch} {g : GT} {X : Mem} {Q : Mem → Int → Prop} (a1 : Int) (a2 : Int) (a3 : Int) (C : Mem) (h : wpO (f_X7_load a1 a2 a3 C) Q) : MetC l yX7_load cX7_load 4 (some .int) 6 g [.ref (gA g 0), .int (I (a1)), .int (I (a2)), .int (I (a3))] (mrg C X) (QI (fun c => mrg c X) Q) := by
  refine met_at 0 (lv := [some (.ref (gA g 0)), some (.int (I (a1))), some (.int (I (a2))), some (.int (I (a3)))]) (by decide) (Nat.le_of_ble_eq_true rfl) rfl rfl (fun K hK hN hr hQ => ?_)
  unfold f_X7_load at h
  refine r_iload_n hK dX7_load_0 rfl ?_
  refine r_iconst hK dX7_load_1 ?_
  refine r_sipush hK dX7_load_2 (by decide) ?_
  refine r_callS hK ck_X7_isWithin sc_X7_isWithin ml_RX7_108 (by omega) (c_X7_isWithin (l := kL K) (g := g) (X := X) (a1) (0) (17575) C (wpO_bd h)) (As := [.int (I (a1)), .int (I (0)), .int (I (17575))]) (st := []) rfl (Nat.le_of_ble_eq_true rfl) dX7_load_5 (kkI (fun C5 r5 h => ?_))
  refine r_if_eq hK dX7_load_8 (t := 31) (by decide) (wpO_eq h) (fun h => ?_) (fun h => ?_)
  · refine r_iconst hK dX7_load_31 ?_
    exact r_ireturn hK hr hQ rfl dX7_load_32 ⟨C5, (-1), rfl, rfl, wpO_some h⟩
  · refine r_iload_n hK dX7_load_11 rfl ?_
    refine r_iconst hK dX7_load_12 ?_
    refine r_bipush hK dX7_load_13 (by decide) ?_
    refine r_callS hK ck_X7_isWithin sc_X7_isWithin ml_RX7_108 (by omega) (c_X7_isWithin (l := kL K) (g := g) (X := X) (a2) (1) (99) C5 (wpO_bd h)) (As := [.int (I (a2)), .int (I (1)), .int (I (99))]) (st := []) rfl (Nat.le_of_ble_eq_true rfl) dX7_load_15 (kkI (fun C15 r15 h => ?_))
    refine r_if_eq hK dX7_load_18 (t := 31) (by decide) (wpO_eq h) (fun h => ?_) (fun h => ?_)
    · refine r_iconst hK dX7_load_31 ?_
      exact r_ireturn hK hr hQ rfl dX7_load_32 ⟨C15, (-1), rfl, rfl, wpO_some h⟩
    · refine r_iload_n hK dX7_load_21 rfl ?_
      refine r_iconst hK dX7_load_22 ?_
      refine r_bipush hK dX7_load_23 (by decide) ?_
      refine r_callS hK ck_X7_isWithin sc_X7_isWithin ml_RX7_108 (by omega) (c_X7_isWithin (l := kL K) (g := g) (X := X) (a3) (1) (60) C15 (wpO_bd h)) (As := [.int (I (a3)), .int (I (1)), .int (I (60))]) (st := []) rfl (Nat.le_of_ble_eq_true rfl) dX7_load_25 (kkI (fun C25 r25 h => ?_))
      refine r_if_ne hK dX7_load_28 (t := 33) (by decide) (wpO_eq h) (fun h => ?_) (fun h => ?_)
      · refine r_iconst hK dX7_load_31 ?_
        exact r_ireturn hK hr hQ rfl dX7_load_32 ⟨C25, (-1), rfl, rfl, wpO_some h⟩
      · refine r_iload_n hK dX7_load_33 rfl ?_
        refine r_iload_n hK dX7_load_34 rfl ?_
        refine r_iload_n hK dX7_load_35 rfl ?_
        refine r_callS hK ck_X7_endsInTime sc_X7_endsInTime ml_RX7_112 (by omega) (c_X7_endsInTime (l := kL K) (g := g) (X := X) (a1) (a2) (a3) C25 (wpO_bd h)) (As := [.int (I (a1)), .int (I (a2)), .int (I (a3))]) (st := []) rfl (Nat.le_of_ble_eq_true rfl) dX7_load_36 (kkI (fun C36 r36 h => ?_))
        refine r_if_ne hK dX7_load_39 (t := 44) (by decide) (wpO_eq h) (fun h => ?_) (fun h => ?_)
        · refine r_iconst hK dX7_load_42 ?_
          exact r_ireturn hK hr hQ rfl dX7_load_43 ⟨C36, (-1), rfl, rfl, wpO_some h⟩
        · refine r_aload_n hK dX7_load_44 rfl ?_
          refine r_getR (k := 0) (k' := 2) hK cls_7 fl_RX7_21 (by decide) (by omega) rfl rfl dX7_load_45 ?_
          refine r_iload_n hK dX7_load_48 rfl ?_
          refine r_iload_n hK dX7_load_49 rfl ?_
          refine r_iload_n hK dX7_load_50 rfl ?_
          refine r_callV hK ck_X0_loadRow im_X0_loadRow sl_X0_loadRow ml_RX7_96 (by omega) (c_X0_loadRow (l := kL K) (g := g) (X := X) (a1) (a2) (a3) C36 (wpO_bd h)) cls_0 (k := 2) (by omega) rfl (As := [.int (I (a1)), .int (I (a2)), .int (I (a3))]) (st := []) rfl (Nat.le_of_ble_eq_true rfl) dX7_load_51 (kkV (fun C51 h => ?_))
          refine r_aload_n hK dX7_load_54 rfl ?_
          refine r_getR (k := 0) (k' := 1) hK cls_7 fl_RX7_10 (by decide) (by omega) rfl rfl dX7_load_55 ?_
          refine r_getIN (k := 1) hK cls_6 fl_RX7_115 (by decide) (by omega) rfl rfl dX7_load_58 (mrg_c (by omega)) ?_
          exact r_ireturn hK hr hQ rfl dX7_load_61 ⟨C51, (C51 1 5), rfl, rfl, wpO_some h⟩
set_option maxRecDepth 100000 in
set_option maxHeartbeats 4000000 in
theorem c_X7_find {l : Launch} {g : GT} {X : Mem} {Q : Mem → Int → Prop} (a1 : Int) (a2 : Int) (C : Mem) (h : wpO (f_X7_find a1 a2 C) Q) : MetC l yX7_find cX7_find 5 (some .int) 5 g [.ref (gA g 0), .int (I (a1)), .int (I (a2))] (mrg C X) (QI (fun c => mrg c X) Q) := by
  refine met_at 2 (lv := [some (.ref (gA g 0)), some (.int (I (a1))), some (.int (I (a2))), none, none]) (by decide) (Nat.le_of_ble_eq_true rfl) rfl rfl (fun K hK hN hr hQ => ?_)
  unfold f_X7_find at h
  refine r_iload_n hK dX7_find_0 rfl ?_
  refine r_iload_n hK dX7_find_1 rfl ?_
  refine r_callS hK ck_X7_isSpelled sc_X7_isSpelled ml_RX7_100 (by omega) (c_X7_isSpelled (l := kL K) (g := g) (X := X) (a1) (a2) C (wpO_bd h)) (As := [.int (I (a1)), .int (I (a2))]) (st := []) rfl (Nat.le_of_ble_eq_true rfl) dX7_find_2 (kkI (fun C2 r2 h => ?_))
  refine r_if_ne hK dX7_find_5 (t := 10) (by decide) (wpO_eq h) (fun h => ?_) (fun h => ?_)
  · refine r_iconst hK dX7_find_8 ?_
    exact r_ireturn hK hr hQ rfl dX7_find_9 ⟨C2, (-1), rfl, rfl, wpO_some h⟩
  · refine r_aload_n hK dX7_find_10 rfl ?_
    refine r_getR (k := 0) (k' := (10 + 2 * 0)) hK cls_7 fl_RX7_48 (by decide) (by omega) rfl rfl dX7_find_11 ?_
    refine r_iload_n hK dX7_find_14 rfl ?_
    refine r_iload_n hK dX7_find_15 rfl ?_
    refine r_callV hK ck_X3_spell im_X3_spell sl_X3_spell ml_RX7_104 (by omega) (c_X3_spell (l := kL K) (g := g) (X := X) 0 (a1) (a2) (by decide) C2 (wpO_bd h)) cls_3 (k := (10 + 2 * 0)) (by omega) (sh_key (by decide)) (As := [.int (I (a1)), .int (I (a2))]) (st := []) rfl (Nat.le_of_ble_eq_true rfl) dX7_find_16 (kkV (fun C16 h => ?_))
    refine r_aload_n hK dX7_find_19 rfl ?_
    refine r_getR (k := 0) (k' := 1) hK cls_7 fl_RX7_10 (by decide) (by omega) rfl rfl dX7_find_20 ?_
    refine r_aload_n hK dX7_find_23 rfl ?_
    refine r_getR (k := 0) (k' := (10 + 2 * 0)) hK cls_7 fl_RX7_48 (by decide) (by omega) rfl rfl dX7_find_24 ?_
    refine r_callV hK ck_X6_goDown im_X6_goDown sl_X6_goDown ml_RX7_118 (by omega) (c_X6_goDown (l := kL K) (g := g) (X := X) 0 (by decide) C16 (wpO_bd h)) cls_6 (k := 1) (by omega) rfl (As := [.ref (gA g (10 + 2 * 0))]) (st := []) rfl (Nat.le_of_ble_eq_true rfl) dX7_find_27 (kkV (fun C27 h => ?_))
    refine r_aload_n hK dX7_find_30 rfl ?_
    refine r_getR (k := 0) (k' := 1) hK cls_7 fl_RX7_10 (by decide) (by omega) rfl rfl dX7_find_31 ?_
    refine r_aload_n hK dX7_find_34 rfl ?_
    refine r_getR (k := 0) (k' := 1) hK cls_7 fl_RX7_10 (by decide) (by omega) rfl rfl dX7_find_35 ?_
    refine r_getIN (k := 1) hK cls_6 fl_RX7_115 (by decide) (by omega) rfl rfl dX7_find_38 (mrg_c (by omega)) ?_
    refine r_iconst hK dX7_find_41 ?_
    refine r_isub hK dX7_find_42 ?_
    refine r_callV hK ck_X6_pageOn im_X6_pageOn sl_X6_pageOn ml_RX7_122 (by omega) (c_X6_pageOn (l := kL K) (g := g) (X := X) ((C27 1 5) - 1) C27 (wpO_bd h)) cls_6 (k := 1) (by omega) rfl (As := [.int (I ((C27 1 5) - 1))]) (st := []) rfl (Nat.le_of_ble_eq_true rfl) dX7_find_43 (kkP (fun C43 r43 hr43 h => ?_))
    refine r_astore_n hK dX7_find_46 (by rw [hN]; decide) rfl (lv' := [some (.ref (gA g 0)), some (.int (I (a1))), some (.int (I (a2))), some (.ref (gA g (27 + r43))), none]) rfl ?_
    refine r_aload_n hK dX7_find_47 rfl ?_
    refine r_aload_n hK dX7_find_48 rfl ?_
    refine r_getR (k := 0) (k' := (10 + 2 * 0)) hK cls_7 fl_RX7_48 (by decide) (by omega) rfl rfl dX7_find_49 ?_
    refine r_iconst hK dX7_find_52 ?_
    refine r_callV hK ck_X4_entriesBelow im_X4_entriesBelow sl_X4_entriesBelow ml_RX7_126 (by omega) (c_X4_entriesBelow (l := kL K) (g := g) (X := X) r43 0 (0) hr43 (by decide) C43 (wpO_bd h)) cls_4 (k := (27 + r43)) (by omega) (sh_page hr43) (As := [.ref (gA g (10 + 2 * 0)), .int (I (0))]) (st := []) rfl (Nat.le_of_ble_eq_true rfl) dX7_find_53 (kkI (fun C53 r53 h => ?_))
    refine r_istore hK dX7_find_56 (by rw [hN]; decide) rfl (lv' := [some (.ref (gA g 0)), some (.int (I (a1))), some (.int (I (a2))), some (.ref (gA g (27 + r43))), some (.int (I (r53)))]) rfl ?_
    refine r_aload_n hK dX7_find_58 rfl ?_
    refine r_iload hK dX7_find_59 rfl ?_
    refine r_aload_n hK dX7_find_61 rfl ?_
    refine r_getR (k := 0) (k' := (10 + 2 * 0)) hK cls_7 fl_RX7_48 (by decide) (by omega) rfl rfl dX7_find_62 ?_
    refine r_callV hK ck_X4_isEntry im_X4_isEntry sl_X4_isEntry ml_RX7_132 (by omega) (c_X4_isEntry (l := kL K) (g := g) (X := X) r43 (r53) 0 hr43 (by decide) C53 (wpO_bd h)) cls_4 (k := (27 + r43)) (by omega) (sh_page hr43) (As := [.int (I (r53)), .ref (gA g (10 + 2 * 0))]) (st := []) rfl (Nat.le_of_ble_eq_true rfl) dX7_find_65 (kkI (fun C65 r65 h => ?_))
    refine r_if_eq hK dX7_find_68 (t := 80) (by decide) (wpO_eq h) (fun h => ?_) (fun h => ?_)
    · refine r_bipush hK dX7_find_80 (by decide) ?_
      exact r_ireturn hK hr hQ rfl dX7_find_82 ⟨C65, (-9), rfl, rfl, wpO_some h⟩
    · refine r_aload_n hK dX7_find_71 rfl ?_
      refine r_iload hK dX7_find_72 rfl ?_
      refine r_callV hK ck_X4_tail im_X4_tail sl_X4_tail ml_RX7_136 (by omega) (c_X4_tail (l := kL K) (g := g) (X := X) r43 (r53) hr43 C65 (wpO_bd h)) cls_4 (k := (27 + r43)) (by omega) (sh_page hr43) (As := [.int (I (r53))]) (st := []) rfl (Nat.le_of_ble_eq_true rfl) dX7_find_74 (kkI (fun C74 r74 h => ?_))
      refine r_goto hK dX7_find_77 (t := 82) (by decide) ?_
      exact r_ireturn hK hr hQ rfl dX7_find_82 ⟨C74, r74, rfl, rfl, wpO_some h⟩
set_option maxRecDepth 100000 in
set_option maxHeartbeats 4000000 in
theorem w_X7_rank_34 {K : KT} {g : GT} {X : Mem} {dd : Nat} (hK : Kok K g cX7_rank RX7 dd) (hN : kN K = 7) (hr : (kMe K).sig.returnType = (some .int)) {Q : Mem → Int → Prop} (hQ : kQ K = MQ (kB K) (Qc g (QI (fun c => mrg c X) Q)) (kA K) (kS K) (kc K) (ks K) (gS g)) (hdd : 4 ≤ dd) (u3 : Int) (k : Int → Int → Mem → Option (Mem × Int)) (hk : ∀ (v4 : Int) (v5 : Int) (C : Mem), wpO (k v4 v5 C) Q → Wn K g (mrg C X) 98 [some (.ref (gA g 0)), none, none, some (.int (I (u3))), some (.int (I (v4))), some (.int (I (v5))), none] []) : ∀ (n : Nat) (v4 : Int) (v5 : Int) (C : Mem), wpO (f_X7_rank_34 u3 k n v4 v5 C) Q → Wn K g (mrg C X) 34 [some (.ref (gA g 0)), none, none, some (.int (I (u3))), some (.int (I (v4))), some (.int (I (v5))), none] [] := by
  intro n
  induction n with
  | zero => intro v4 v5 C h; exact (wpO_none h).elim
  | succ n ih =>
    intro v4 v5 C h
    unfold f_X7_rank_34 at h
    refine r_iload hK dX7_rank_34 rfl ?_
    refine r_bipush hK dX7_rank_36 (by decide) ?_
    refine r_icmp_ge hK dX7_rank_38 (t := 98) (by decide) (wpO_lt h) (fun h => ?_) (fun h => ?_)
    · refine r_aload_n hK dX7_rank_41 rfl ?_
      refine r_getR (k := 0) (k' := 1) hK cls_7 fl_RX7_10 (by decide) (by omega) rfl rfl dX7_rank_42 ?_
      refine r_iload hK dX7_rank_45 rfl ?_
      refine r_callV hK ck_X6_pageOf im_X6_pageOf sl_X6_pageOf ml_RX7_139 (by omega) (c_X6_pageOf (l := kL K) (g := g) (X := X) (v5) C (wpO_bd h)) cls_6 (k := 1) (by omega) rfl (As := [.int (I (v5))]) (st := []) rfl (Nat.le_of_ble_eq_true rfl) dX7_rank_47 (kkP (fun C47 r47 hr47 h => ?_))
      refine r_astore hK dX7_rank_50 (by rw [hN]; decide) rfl (lv' := [some (.ref (gA g 0)), none, none, some (.int (I (u3))), some (.int (I (v4))), some (.int (I (v5))), some (.ref (gA g (27 + r47)))]) rfl ?_
      refine r_aload hK dX7_rank_52 rfl ?_
      refine r_callV hK ck_X4_sort im_X4_sort sl_X4_sort ml_RX7_142 (by omega) (c_X4_sort (l := kL K) (g := g) (X := X) r47 hr47 C47 (wpO_bd h)) cls_4 (k := (27 + r47)) (by omega) (sh_page hr47) (As := []) (st := []) rfl (Nat.le_of_ble_eq_true rfl) dX7_rank_54 (kkI (fun C54 r54 h => ?_))
      refine r_iconst hK dX7_rank_57 ?_
      refine r_icmp_ne hK dX7_rank_58 (t := 92) (by decide) (wpO_eq h) (fun h => ?_) (fun h => ?_)
      · refine r_iload hK dX7_rank_61 rfl ?_
        refine r_iload_n hK dX7_rank_63 rfl ?_
        refine r_if_ne hK dX7_rank_64 (t := 80) (by decide) (wpO_eq h) (fun h => ?_) (fun h => ?_)
        · refine r_aload hK dX7_rank_67 rfl ?_
          refine r_aload_n hK dX7_rank_69 rfl ?_
          refine r_getR (k := 0) (k' := (10 + 2 * 0)) hK cls_7 fl_RX7_48 (by decide) (by omega) rfl rfl dX7_rank_70 ?_
          refine r_iconst hK dX7_rank_73 ?_
          refine r_callV hK ck_X4_entriesBelow im_X4_entriesBelow sl_X4_entriesBelow ml_RX7_126 (by omega) (c_X4_entriesBelow (l := kL K) (g := g) (X := X) r47 0 (0) hr47 (by decide) C54 (wpO_bd h)) cls_4 (k := (27 + r47)) (by omega) (sh_page hr47) (As := [.ref (gA g (10 + 2 * 0)), .int (I (0))]) (st := [.int (I (v4))]) rfl (Nat.le_of_ble_eq_true rfl) dX7_rank_74 (kkI (fun C74 r74 h => ?_))
          refine r_goto hK dX7_rank_77 (t := 89) (by decide) ?_
          refine r_iadd hK dX7_rank_89 ?_
          refine r_istore hK dX7_rank_90 (by rw [hN]; decide) rfl (lv' := [some (.ref (gA g 0)), none, none, some (.int (I (u3))), some (.int (I (v4 + r74))), some (.int (I (v5))), some (.ref (gA g (27 + r47)))]) rfl ?_
          refine r_iinc hK dX7_rank_92 (by rw [hN]; decide) rfl rfl (lv' := [some (.ref (gA g 0)), none, none, some (.int (I (u3))), some (.int (I (v4 + r74))), some (.int (I (v5 + 1))), some (.ref (gA g (27 + r47)))]) rfl ?_
          refine r_goto hK dX7_rank_95 (t := 34) (by decide) ?_
          refine r_cut [true, false, false, true, true, true, false] (lv' := [some (.ref (gA g 0)), none, none, some (.int (I (u3))), some (.int (I (v4 + r74))), some (.int (I (v5 + 1))), none]) rfl ?_
          exact ih (v4 + r74) (v5 + 1) C74 h
        · refine r_aload hK dX7_rank_80 rfl ?_
          refine r_aload_n hK dX7_rank_82 rfl ?_
          refine r_getR (k := 0) (k' := (10 + 2 * 0)) hK cls_7 fl_RX7_48 (by decide) (by omega) rfl rfl dX7_rank_83 ?_
          refine r_callV hK ck_X4_entriesThatBegin im_X4_entriesThatBegin sl_X4_entriesThatBegin ml_RX7_145 (by omega) (c_X4_entriesThatBegin (l := kL K) (g := g) (X := X) r47 0 hr47 (by decide) C54 (wpO_bd h)) cls_4 (k := (27 + r47)) (by omega) (sh_page hr47) (As := [.ref (gA g (10 + 2 * 0))]) (st := [.int (I (v4))]) rfl (Nat.le_of_ble_eq_true rfl) dX7_rank_86 (kkI (fun C86 r86 h => ?_))
          refine r_iadd hK dX7_rank_89 ?_
          refine r_istore hK dX7_rank_90 (by rw [hN]; decide) rfl (lv' := [some (.ref (gA g 0)), none, none, some (.int (I (u3))), some (.int (I (v4 + r86))), some (.int (I (v5))), some (.ref (gA g (27 + r47)))]) rfl ?_
          refine r_iinc hK dX7_rank_92 (by rw [hN]; decide) rfl rfl (lv' := [some (.ref (gA g 0)), none, none, some (.int (I (u3))), some (.int (I (v4 + r86))), some (.int (I (v5 + 1))), some (.ref (gA g (27 + r47)))]) rfl ?_
          refine r_goto hK dX7_rank_95 (t := 34) (by decide) ?_
          refine r_cut [true, false, false, true, true, true, false] (lv' := [some (.ref (gA g 0)), none, none, some (.int (I (u3))), some (.int (I (v4 + r86))), some (.int (I (v5 + 1))), none]) rfl ?_
          exact ih (v4 + r86) (v5 + 1) C86 h
      · refine r_iinc hK dX7_rank_92 (by rw [hN]; decide) rfl rfl (lv' := [some (.ref (gA g 0)), none, none, some (.int (I (u3))), some (.int (I (v4))), some (.int (I (v5 + 1))), some (.ref (gA g (27 + r47)))]) rfl ?_
        refine r_goto hK dX7_rank_95 (t := 34) (by decide) ?_
        refine r_cut [true, false, false, true, true, true, false] (lv' := [some (.ref (gA g 0)), none, none, some (.int (I (u3))), some (.int (I (v4))), some (.int (I (v5 + 1))), none]) rfl ?_
        exact ih (v4) (v5 + 1) C54 h
    · exact hk (v4) (v5) C h
set_option maxRecDepth 100000 in
set_option maxHeartbeats 4000000 in
theorem c_X7_rank {l : Launch} {g : GT} {X : Mem} {Q : Mem → Int → Prop} (a1 : Int) (a2 : Int) (a3 : Int) (C : Mem) (h : wpO (f_X7_rank a1 a2 a3 C) Q) : MetC l yX7_rank cX7_rank 7 (some .int) 4 g [.ref (gA g 0), .int (I (a1)), .int (I (a2)), .int (I (a3))] (mrg C X) (QI (fun c => mrg c X) Q) := by
  refine met_at 3 (lv := [some (.ref (gA g 0)), some (.int (I (a1))), some (.int (I (a2))), some (.int (I (a3))), none, none, none]) (by decide) (Nat.le_of_ble_eq_true rfl) rfl rfl (fun K hK hN hr hQ => ?_)
  unfold f_X7_rank at h
  refine r_iload_n hK dX7_rank_0 rfl ?_
  refine r_iload_n hK dX7_rank_1 rfl ?_
  refine r_callS hK ck_X7_isSpelled sc_X7_isSpelled ml_RX7_100 (by omega) (c_X7_isSpelled (l := kL K) (g := g) (X := X) (a1) (a2) C (wpO_bd h)) (As := [.int (I (a1)), .int (I (a2))]) (st := []) rfl (Nat.le_of_ble_eq_true rfl) dX7_rank_2 (kkI (fun C2 r2 h => ?_))
  refine r_if_eq hK dX7_rank_5 (t := 17) (by decide) (wpO_eq h) (fun h => ?_) (fun h => ?_)
  · refine r_iconst hK dX7_rank_17 ?_
    exact r_ireturn hK hr hQ rfl dX7_rank_18 ⟨C2, (-1), rfl, rfl, wpO_some h⟩
  · refine r_iload_n hK dX7_rank_8 rfl ?_
    refine r_iconst hK dX7_rank_9 ?_
    refine r_iconst hK dX7_rank_10 ?_
    refine r_callS hK ck_X7_isWithin sc_X7_isWithin ml_RX7_108 (by omega) (c_X7_isWithin (l := kL K) (g := g) (X := X) (a3) (0) (1) C2 (wpO_bd h)) (As := [.int (I (a3)), .int (I (0)), .int (I (1))]) (st := []) rfl (Nat.le_of_ble_eq_true rfl) dX7_rank_11 (kkI (fun C11 r11 h => ?_))
    refine r_if_ne hK dX7_rank_14 (t := 19) (by decide) (wpO_eq h) (fun h => ?_) (fun h => ?_)
    · refine r_iconst hK dX7_rank_17 ?_
      exact r_ireturn hK hr hQ rfl dX7_rank_18 ⟨C11, (-1), rfl, rfl, wpO_some h⟩
    · refine r_aload_n hK dX7_rank_19 rfl ?_
      refine r_getR (k := 0) (k' := (10 + 2 * 0)) hK cls_7 fl_RX7_48 (by decide) (by omega) rfl rfl dX7_rank_20 ?_
      refine r_iload_n hK dX7_rank_23 rfl ?_
      refine r_iload_n hK dX7_rank_24 rfl ?_
      refine r_callV hK ck_X3_spell im_X3_spell sl_X3_spell ml_RX7_104 (by omega) (c_X3_spell (l := kL K) (g := g) (X := X) 0 (a1) (a2) (by decide) C11 (wpO_bd h)) cls_3 (k := (10 + 2 * 0)) (by omega) (sh_key (by decide)) (As := [.int (I (a1)), .int (I (a2))]) (st := []) rfl (Nat.le_of_ble_eq_true rfl) dX7_rank_25 (kkV (fun C25 h => ?_))
      refine r_iconst hK dX7_rank_28 ?_
      refine r_istore hK dX7_rank_29 (by rw [hN]; decide) rfl (lv' := [some (.ref (gA g 0)), some (.int (I (a1))), some (.int (I (a2))), some (.int (I (a3))), some (.int (I (0))), none, none]) rfl ?_
      refine r_iconst hK dX7_rank_31 ?_
      refine r_istore hK dX7_rank_32 (by rw [hN]; decide) rfl (lv' := [some (.ref (gA g 0)), some (.int (I (a1))), some (.int (I (a2))), some (.int (I (a3))), some (.int (I (0))), some (.int (I (0))), none]) rfl ?_
      refine r_cut [true, false, false, true, true, true, false] (lv' := [some (.ref (gA g 0)), none, none, some (.int (I (a3))), some (.int (I (0))), some (.int (I (0))), none]) rfl ?_
      refine w_X7_rank_34 hK hN hr hQ (by omega) (a3) _ (fun v4_e34 v5_e34 C_e34 h => ?_) FU (0) (0) C25 h
      refine r_iload hK dX7_rank_98 rfl ?_
      exact r_ireturn hK hr hQ rfl dX7_rank_100 ⟨C_e34, v4_e34, rfl, rfl, wpO_some h⟩
set_option maxRecDepth 100000 in
set_option maxHeartbeats 4000000 in
theorem c_X7_path {l : Launch} {g : GT} {X : Mem} {Q : Mem → Int → Prop} (a1 : Int) (a2 : Int) (a3 : Int) (C : Mem) (h : wpO (f_X7_path a1 a2 a3 C) Q) : MetC l yX7_path cX7_path 4 (some .int) 5 g [.ref (gA g 0), .int (I (a1)), .int (I (a2)), .int (I (a3))] (mrg C X) (QI (fun c => mrg c X) Q) := by
  refine met_at 0 (lv := [some (.ref (gA g 0)), some (.int (I (a1))), some (.int (I (a2))), some (.int (I (a3)))]) (by decide) (Nat.le_of_ble_eq_true rfl) rfl rfl (fun K hK hN hr hQ => ?_)
  unfold f_X7_path at h
  refine r_iload_n hK dX7_path_0 rfl ?_
  refine r_iload_n hK dX7_path_1 rfl ?_
  refine r_callS hK ck_X7_isSpelled sc_X7_isSpelled ml_RX7_100 (by omega) (c_X7_isSpelled (l := kL K) (g := g) (X := X) (a1) (a2) C (wpO_bd h)) (As := [.int (I (a1)), .int (I (a2))]) (st := []) rfl (Nat.le_of_ble_eq_true rfl) dX7_path_2 (kkI (fun C2 r2 h => ?_))
  refine r_if_eq hK dX7_path_5 (t := 12) (by decide) (wpO_eq h) (fun h => ?_) (fun h => ?_)
  · refine r_iconst hK dX7_path_12 ?_
    exact r_ireturn hK hr hQ rfl dX7_path_13 ⟨C2, (-1), rfl, rfl, wpO_some h⟩
  · refine r_iload_n hK dX7_path_8 rfl ?_
    refine r_if_ge hK dX7_path_9 (t := 14) (by decide) (wpO_lt h) (fun h => ?_) (fun h => ?_)
    · refine r_iconst hK dX7_path_12 ?_
      exact r_ireturn hK hr hQ rfl dX7_path_13 ⟨C2, (-1), rfl, rfl, wpO_some h⟩
    · refine r_iload_n hK dX7_path_14 rfl ?_
      refine r_aload_n hK dX7_path_15 rfl ?_
      refine r_getR (k := 0) (k' := 1) hK cls_7 fl_RX7_10 (by decide) (by omega) rfl rfl dX7_path_16 ?_
      refine r_getIN (k := 1) hK cls_6 fl_RX7_115 (by decide) (by omega) rfl rfl dX7_path_19 (mrg_c (by omega)) ?_
      refine r_icmp_lt hK dX7_path_22 (t := 28) (by decide) (wpO_lt h) (fun h => ?_) (fun h => ?_)
      · refine r_aload_n hK dX7_path_28 rfl ?_
        refine r_getR (k := 0) (k' := (10 + 2 * 0)) hK cls_7 fl_RX7_48 (by decide) (by omega) rfl rfl dX7_path_29 ?_
        refine r_iload_n hK dX7_path_32 rfl ?_
        refine r_iload_n hK dX7_path_33 rfl ?_
        refine r_callV hK ck_X3_spell im_X3_spell sl_X3_spell ml_RX7_104 (by omega) (c_X3_spell (l := kL K) (g := g) (X := X) 0 (a1) (a2) (by decide) C2 (wpO_bd h)) cls_3 (k := (10 + 2 * 0)) (by omega) (sh_key (by decide)) (As := [.int (I (a1)), .int (I (a2))]) (st := []) rfl (Nat.le_of_ble_eq_true rfl) dX7_path_34 (kkV (fun C34 h => ?_))
        refine r_aload_n hK dX7_path_37 rfl ?_
        refine r_getR (k := 0) (k' := 1) hK cls_7 fl_RX7_10 (by decide) (by omega) rfl rfl dX7_path_38 ?_
        refine r_aload_n hK dX7_path_41 rfl ?_
        refine r_getR (k := 0) (k' := (10 + 2 * 0)) hK cls_7 fl_RX7_48 (by decide) (by omega) rfl rfl dX7_path_42 ?_
        refine r_callV hK ck_X6_goDown im_X6_goDown sl_X6_goDown ml_RX7_118 (by omega) (c_X6_goDown (l := kL K) (g := g) (X := X) 0 (by decide) C34 (wpO_bd h)) cls_6 (k := 1) (by omega) rfl (As := [.ref (gA g (10 + 2 * 0))]) (st := []) rfl (Nat.le_of_ble_eq_true rfl) dX7_path_45 (kkV (fun C45 h => ?_))
        refine r_aload_n hK dX7_path_48 rfl ?_
        refine r_getR (k := 0) (k' := 1) hK cls_7 fl_RX7_10 (by decide) (by omega) rfl rfl dX7_path_49 ?_
        refine r_iload_n hK dX7_path_52 rfl ?_
        refine r_callV hK ck_X6_numberOn im_X6_numberOn sl_X6_numberOn ml_RX7_148 (by omega) (c_X6_numberOn (l := kL K) (g := g) (X := X) (a3) C45 (wpO_bd h)) cls_6 (k := 1) (by omega) rfl (As := [.int (I (a3))]) (st := []) rfl (Nat.le_of_ble_eq_true rfl) dX7_path_53 (kkI (fun C53 r53 h => ?_))
        exact r_ireturn hK hr hQ rfl dX7_path_56 ⟨C53, r53, rfl, rfl, wpO_some h⟩
      · refine r_bipush hK dX7_path_25 (by decide) ?_
        exact r_ireturn hK hr hQ rfl dX7_path_27 ⟨C2, (-9), rfl, rfl, wpO_some h⟩
set_option maxRecDepth 100000 in
set_option maxHeartbeats 4000000 in
theorem c_X7_letter {l : Launch} {g : GT} {X : Mem} {Q : Mem → Int → Prop} (a1 : Int) (a2 : Int) (C : Mem) (h : wpO (f_X7_letter a1 a2 C) Q) : MetC l yX7_letter cX7_letter 6 (some .int) 4 g [.ref (gA g 0), .int (I (a1)), .int (I (a2))] (mrg C X) (QI (fun c => mrg c X) Q) := by
  refine met_at 3 (lv := [some (.ref (gA g 0)), some (.int (I (a1))), some (.int (I (a2))), none, none, none]) (by decide) (Nat.le_of_ble_eq_true rfl) rfl rfl (fun K hK hN hr hQ => ?_)
  unfold f_X7_letter at h
  refine r_aload_n hK dX7_letter_0 rfl ?_
  refine r_getR (k := 0) (k' := 1) hK cls_7 fl_RX7_10 (by decide) (by omega) rfl rfl dX7_letter_1 ?_
  refine r_iload_n hK dX7_letter_4 rfl ?_
  refine r_callV hK ck_X6_placeOfKey im_X6_placeOfKey sl_X6_placeOfKey ml_RX7_151 (by omega) (c_X6_placeOfKey (l := kL K) (g := g) (X := X) (a1) C (wpO_bd h)) cls_6 (k := 1) (by omega) rfl (As := [.int (I (a1))]) (st := []) rfl (Nat.le_of_ble_eq_true rfl) dX7_letter_5 (kkI (fun C5 r5 h => ?_))
  refine r_istore_n hK dX7_letter_8 (by rw [hN]; decide) rfl (lv' := [some (.ref (gA g 0)), some (.int (I (a1))), some (.int (I (a2))), some (.int (I (r5))), none, none]) rfl ?_
  refine r_iload_n hK dX7_letter_9 rfl ?_
  refine r_if_lt hK dX7_letter_10 (t := 23) (by decide) (wpO_lt h) (fun h => ?_) (fun h => ?_)
  · refine r_iconst hK dX7_letter_23 ?_
    exact r_ireturn hK hr hQ rfl dX7_letter_24 ⟨C5, (-1), rfl, rfl, wpO_some h⟩
  · refine r_iload_n hK dX7_letter_13 rfl ?_
    refine r_iconst hK dX7_letter_14 ?_
    refine r_bipush hK dX7_letter_15 (by decide) ?_
    refine r_callS hK ck_X7_isWithin sc_X7_isWithin ml_RX7_108 (by omega) (c_X7_isWithin (l := kL K) (g := g) (X := X) (a2) (0) (7) C5 (wpO_bd h)) (As := [.int (I (a2)), .int (I (0)), .int (I (7))]) (st := []) rfl (Nat.le_of_ble_eq_true rfl) dX7_letter_17 (kkI (fun C17 r17 h => ?_))
    refine r_if_ne hK dX7_letter_20 (t := 25) (by decide) (wpO_eq h) (fun h => ?_) (fun h => ?_)
    · refine r_iconst hK dX7_letter_23 ?_
      exact r_ireturn hK hr hQ rfl dX7_letter_24 ⟨C17, (-1), rfl, rfl, wpO_some h⟩
    · refine r_aload_n hK dX7_letter_25 rfl ?_
      refine r_getR (k := 0) (k' := 1) hK cls_7 fl_RX7_10 (by decide) (by omega) rfl rfl dX7_letter_26 ?_
      refine r_iload_n hK dX7_letter_29 rfl ?_
      refine r_bipush hK dX7_letter_30 (by decide) ?_
      obtain ⟨hd32, h⟩ := wpO_dv h
      refine r_idiv hK hd32 (by decide) dX7_letter_32 ?_
      refine r_callV hK ck_X6_pageOf im_X6_pageOf sl_X6_pageOf ml_RX7_139 (by omega) (c_X6_pageOf (l := kL K) (g := g) (X := X) (r5 / 64) C17 (wpO_bd h)) cls_6 (k := 1) (by omega) rfl (As := [.int (I (r5 / 64))]) (st := []) rfl (Nat.le_of_ble_eq_true rfl) dX7_letter_33 (kkP (fun C33 r33 hr33 h => ?_))
      refine r_astore hK dX7_letter_36 (by rw [hN]; decide) rfl (lv' := [some (.ref (gA g 0)), some (.int (I (a1))), some (.int (I (a2))), some (.int (I (r5))), some (.ref (gA g (27 + r33))), none]) rfl ?_
      refine r_iload_n hK dX7_letter_38 rfl ?_
      refine r_bipush hK dX7_letter_39 (by decide) ?_
      obtain ⟨hd41, h⟩ := wpO_dv h
      refine r_irem hK hd41 (by decide) dX7_letter_41 ?_
      refine r_istore hK dX7_letter_42 (by rw [hN]; decide) rfl (lv' := [some (.ref (gA g 0)), some (.int (I (a1))), some (.int (I (a2))), some (.int (I (r5))), some (.ref (gA g (27 + r33))), some (.int (I (r5 % 64)))]) rfl ?_
      refine r_iload_n hK dX7_letter_44 rfl ?_
      refine r_aload hK dX7_letter_45 rfl ?_
      refine r_iload hK dX7_letter_47 rfl ?_
      refine r_callV hK ck_X4_letters im_X4_letters sl_X4_letters ml_RX7_154 (by omega) (c_X4_letters (l := kL K) (g := g) (X := X) r33 (r5 % 64) hr33 C33 (wpO_bd h)) cls_4 (k := (27 + r33)) (by omega) (sh_page hr33) (As := [.int (I (r5 % 64))]) (st := [.int (I (a2))]) rfl (Nat.le_of_ble_eq_true rfl) dX7_letter_49 (kkI (fun C49 r49 h => ?_))
      refine r_icmp_ge hK dX7_letter_52 (t := 66) (by decide) (wpO_lt h) (fun h => ?_) (fun h => ?_)
      · refine r_aload hK dX7_letter_55 rfl ?_
        refine r_iload hK dX7_letter_57 rfl ?_
        refine r_iload_n hK dX7_letter_59 rfl ?_
        refine r_callV hK ck_X4_letterOf im_X4_letterOf sl_X4_letterOf ml_RX7_157 (by omega) (c_X4_letterOf (l := kL K) (g := g) (X := X) r33 (r5 % 64) (a2) hr33 C49 (wpO_bd h)) cls_4 (k := (27 + r33)) (by omega) (sh_page hr33) (As := [.int (I (r5 % 64)), .int (I (a2))]) (st := []) rfl (Nat.le_of_ble_eq_true rfl) dX7_letter_60 (kkI (fun C60 r60 h => ?_))
        refine r_goto hK dX7_letter_63 (t := 68) (by decide) ?_
        exact r_ireturn hK hr hQ rfl dX7_letter_68 ⟨C60, r60, rfl, rfl, wpO_some h⟩
      · refine r_bipush hK dX7_letter_66 (by decide) ?_
        exact r_ireturn hK hr hQ rfl dX7_letter_68 ⟨C49, (-9), rfl, rfl, wpO_some h⟩
set_option maxRecDepth 100000 in
set_option maxHeartbeats 4000000 in
theorem c_X7_value {l : Launch} {g : GT} {X : Mem} {Q : Mem → Int → Prop} (a1 : Int) (C : Mem) (h : wpO (f_X7_value a1 C) Q) : MetC l yX7_value cX7_value 3 (some .int) 4 g [.ref (gA g 0), .int (I (a1))] (mrg C X) (QI (fun c => mrg c X) Q) := by
  refine met_at 1 (lv := [some (.ref (gA g 0)), some (.int (I (a1))), none]) (by decide) (Nat.le_of_ble_eq_true rfl) rfl rfl (fun K hK hN hr hQ => ?_)
  unfold f_X7_value at h
  refine r_aload_n hK dX7_value_0 rfl ?_
  refine r_getR (k := 0) (k' := 1) hK cls_7 fl_RX7_10 (by decide) (by omega) rfl rfl dX7_value_1 ?_
  refine r_iload_n hK dX7_value_4 rfl ?_
  refine r_callV hK ck_X6_placeOfKey im_X6_placeOfKey sl_X6_placeOfKey ml_RX7_151 (by omega) (c_X6_placeOfKey (l := kL K) (g := g) (X := X) (a1) C (wpO_bd h)) cls_6 (k := 1) (by omega) rfl (As := [.int (I (a1))]) (st := []) rfl (Nat.le_of_ble_eq_true rfl) dX7_value_5 (kkI (fun C5 r5 h => ?_))
  refine r_istore_n hK dX7_value_8 (by rw [hN]; decide) rfl (lv' := [some (.ref (gA g 0)), some (.int (I (a1))), some (.int (I (r5)))]) rfl ?_
  refine r_iload_n hK dX7_value_9 rfl ?_
  refine r_if_ge hK dX7_value_10 (t := 17) (by decide) (wpO_lt h) (fun h => ?_) (fun h => ?_)
  · refine r_iconst hK dX7_value_13 ?_
    refine r_goto hK dX7_value_14 (t := 35) (by decide) ?_
    exact r_ireturn hK hr hQ rfl dX7_value_35 ⟨C5, (-1), rfl, rfl, wpO_some h⟩
  · refine r_aload_n hK dX7_value_17 rfl ?_
    refine r_getR (k := 0) (k' := 1) hK cls_7 fl_RX7_10 (by decide) (by omega) rfl rfl dX7_value_18 ?_
    refine r_iload_n hK dX7_value_21 rfl ?_
    refine r_bipush hK dX7_value_22 (by decide) ?_
    obtain ⟨hd24, h⟩ := wpO_dv h
    refine r_idiv hK hd24 (by decide) dX7_value_24 ?_
    refine r_callV hK ck_X6_pageOf im_X6_pageOf sl_X6_pageOf ml_RX7_139 (by omega) (c_X6_pageOf (l := kL K) (g := g) (X := X) (r5 / 64) C5 (wpO_bd h)) cls_6 (k := 1) (by omega) rfl (As := [.int (I (r5 / 64))]) (st := []) rfl (Nat.le_of_ble_eq_true rfl) dX7_value_25 (kkP (fun C25 r25 hr25 h => ?_))
    refine r_iload_n hK dX7_value_28 rfl ?_
    refine r_bipush hK dX7_value_29 (by decide) ?_
    obtain ⟨hd31, h⟩ := wpO_dv h
    refine r_irem hK hd31 (by decide) dX7_value_31 ?_
    refine r_callV hK ck_X4_tail im_X4_tail sl_X4_tail ml_RX7_136 (by omega) (c_X4_tail (l := kL K) (g := g) (X := X) r25 (r5 % 64) hr25 C25 (wpO_bd h)) cls_4 (k := (27 + r25)) (by omega) (sh_page hr25) (As := [.int (I (r5 % 64))]) (st := []) rfl (Nat.le_of_ble_eq_true rfl) dX7_value_32 (kkI (fun C32 r32 h => ?_))
    exact r_ireturn hK hr hQ rfl dX7_value_35 ⟨C32, r32, rfl, rfl, wpO_some h⟩
set_option maxRecDepth 100000 in
set_option maxHeartbeats 4000000 in
theorem c_X7_page {l : Launch} {g : GT} {X : Mem} {Q : Mem → Int → Prop} (a1 : Int) (a2 : Int) (C : Mem) (h : wpO (f_X7_page a1 a2 C) Q) : MetC l yX7_page cX7_page 4 (some .int) 3 g [.ref (gA g 0), .int (I (a1)), .int (I (a2))] (mrg C X) (QI (fun c => mrg c X) Q) := by
  refine met_at 1 (lv := [some (.ref (gA g 0)), some (.int (I (a1))), some (.int (I (a2))), none]) (by decide) (Nat.le_of_ble_eq_true rfl) rfl rfl (fun K hK hN hr hQ => ?_)
  unfold f_X7_page at h
  refine r_iload_n hK dX7_page_0 rfl ?_
  refine r_callS hK ck_X7_isPage sc_X7_isPage ml_RX7_161 (by omega) (c_X7_isPage (l := kL K) (g := g) (X := X) (a1) C (wpO_bd h)) (As := [.int (I (a1))]) (st := []) rfl (Nat.le_of_ble_eq_true rfl) dX7_page_1 (kkI (fun C1 r1 h => ?_))
  refine r_if_ne hK dX7_page_4 (t := 9) (by decide) (wpO_eq h) (fun h => ?_) (fun h => ?_)
  · refine r_iconst hK dX7_page_7 ?_
    exact r_ireturn hK hr hQ rfl dX7_page_8 ⟨C1, (-1), rfl, rfl, wpO_some h⟩
  · refine r_aload_n hK dX7_page_9 rfl ?_
    refine r_getR (k := 0) (k' := 1) hK cls_7 fl_RX7_10 (by decide) (by omega) rfl rfl dX7_page_10 ?_
    refine r_iload_n hK dX7_page_13 rfl ?_
    refine r_callV hK ck_X6_pageOf im_X6_pageOf sl_X6_pageOf ml_RX7_139 (by omega) (c_X6_pageOf (l := kL K) (g := g) (X := X) (a1) C1 (wpO_bd h)) cls_6 (k := 1) (by omega) rfl (As := [.int (I (a1))]) (st := []) rfl (Nat.le_of_ble_eq_true rfl) dX7_page_14 (kkP (fun C14 r14 hr14 h => ?_))
    refine r_astore_n hK dX7_page_17 (by rw [hN]; decide) rfl (lv' := [some (.ref (gA g 0)), some (.int (I (a1))), some (.int (I (a2))), some (.ref (gA g (27 + r14)))]) rfl ?_
    refine r_iload_n hK dX7_page_18 rfl ?_
    obtain ⟨hr19, hA, hB⟩ := wpO_eq h
    have hr19 := hr19.1
    by_cases hc19_0 : (a2) = 0
    · have h := hA hc19_0
      refine r_tabIn hK dX7_page_19 hr19 hc19_0 (by decide) (by decide) rfl (t := 48) (by decide) ?_
      refine r_aload_n hK dX7_page_48 rfl ?_
      refine r_callV hK ck_X4_sort im_X4_sort sl_X4_sort ml_RX7_142 (by omega) (c_X4_sort (l := kL K) (g := g) (X := X) r14 hr14 C14 (wpO_bd h)) cls_4 (k := (27 + r14)) (by omega) (sh_page hr14) (As := []) (st := []) rfl (Nat.le_of_ble_eq_true rfl) dX7_page_49 (kkI (fun C49 r49 h => ?_))
      exact r_ireturn hK hr hQ rfl dX7_page_52 ⟨C49, r49, rfl, rfl, wpO_some h⟩
    · have h := hB hc19_0
      obtain ⟨hr19, hA, hB⟩ := wpO_eq h
      have hr19 := hr19.1
      by_cases hc19_1 : (a2) = 1
      · have h := hA hc19_1
        refine r_tabIn hK dX7_page_19 hr19 hc19_1 (by decide) (by decide) rfl (t := 53) (by decide) ?_
        refine r_aload_n hK dX7_page_53 rfl ?_
        refine r_callV hK ck_X4_entries im_X4_entries sl_X4_entries ml_RX7_164 (by omega) (c_X4_entries (l := kL K) (g := g) (X := X) r14 hr14 C14 (wpO_bd h)) cls_4 (k := (27 + r14)) (by omega) (sh_page hr14) (As := []) (st := []) rfl (Nat.le_of_ble_eq_true rfl) dX7_page_54 (kkI (fun C54 r54 h => ?_))
        exact r_ireturn hK hr hQ rfl dX7_page_57 ⟨C54, r54, rfl, rfl, wpO_some h⟩
      · have h := hB hc19_1
        obtain ⟨hr19, hA, hB⟩ := wpO_eq h
        have hr19 := hr19.1
        by_cases hc19_2 : (a2) = 2
        · have h := hA hc19_2
          refine r_tabIn hK dX7_page_19 hr19 hc19_2 (by decide) (by decide) rfl (t := 58) (by decide) ?_
          refine r_aload_n hK dX7_page_58 rfl ?_
          refine r_callV hK ck_X4_link im_X4_link sl_X4_link ml_RX7_167 (by omega) (c_X4_link (l := kL K) (g := g) (X := X) r14 hr14 C14 (wpO_bd h)) cls_4 (k := (27 + r14)) (by omega) (sh_page hr14) (As := []) (st := []) rfl (Nat.le_of_ble_eq_true rfl) dX7_page_59 (kkI (fun C59 r59 h => ?_))
          exact r_ireturn hK hr hQ rfl dX7_page_62 ⟨C59, r59, rfl, rfl, wpO_some h⟩
        · have h := hB hc19_2
          obtain ⟨hr19, hA, hB⟩ := wpO_eq h
          have hr19 := hr19.1
          by_cases hc19_3 : (a2) = 3
          · have h := hA hc19_3
            refine r_tabIn hK dX7_page_19 hr19 hc19_3 (by decide) (by decide) rfl (t := 63) (by decide) ?_
            refine r_aload_n hK dX7_page_63 rfl ?_
            refine r_callV hK ck_X4_used im_X4_used sl_X4_used ml_RX7_170 (by omega) (c_X4_used (l := kL K) (g := g) (X := X) r14 hr14 C14 (wpO_bd h)) cls_4 (k := (27 + r14)) (by omega) (sh_page hr14) (As := []) (st := []) rfl (Nat.le_of_ble_eq_true rfl) dX7_page_64 (kkI (fun C64 r64 h => ?_))
            exact r_ireturn hK hr hQ rfl dX7_page_67 ⟨C64, r64, rfl, rfl, wpO_some h⟩
          · have h := hB hc19_3
            refine r_tabOut hK dX7_page_19 hr19 (by omega) (t := 68) (by decide) ?_
            refine r_iconst hK dX7_page_68 ?_
            exact r_ireturn hK hr hQ rfl dX7_page_69 ⟨C14, (-1), rfl, rfl, wpO_some h⟩
set_option maxRecDepth 100000 in
set_option maxHeartbeats 4000000 in
theorem c_X7_byteAt {l : Launch} {g : GT} {X : Mem} {Q : Mem → Int → Prop} (a1 : Int) (a2 : Int) (C : Mem) (h : wpO (f_X7_byteAt a1 a2 C) Q) : MetC l yX7_byteAt cX7_byteAt 3 (some .int) 3 g [.ref (gA g 0), .int (I (a1)), .int (I (a2))] (mrg C X) (QI (fun c => mrg c X) Q) := by
  refine met_at 0 (lv := [some (.ref (gA g 0)), some (.int (I (a1))), some (.int (I (a2)))]) (by decide) (Nat.le_of_ble_eq_true rfl) rfl rfl (fun K hK hN hr hQ => ?_)
  unfold f_X7_byteAt at h
  refine r_iload_n hK dX7_byteAt_0 rfl ?_
  refine r_callS hK ck_X7_isPage sc_X7_isPage ml_RX7_161 (by omega) (c_X7_isPage (l := kL K) (g := g) (X := X) (a1) C (wpO_bd h)) (As := [.int (I (a1))]) (st := []) rfl (Nat.le_of_ble_eq_true rfl) dX7_byteAt_1 (kkI (fun C1 r1 h => ?_))
  refine r_if_eq hK dX7_byteAt_4 (t := 32) (by decide) (wpO_eq h) (fun h => ?_) (fun h => ?_)
  · refine r_iconst hK dX7_byteAt_32 ?_
    exact r_ireturn hK hr hQ rfl dX7_byteAt_33 ⟨C1, (-1), rfl, rfl, wpO_some h⟩
  · refine r_iload_n hK dX7_byteAt_7 rfl ?_
    refine r_iconst hK dX7_byteAt_8 ?_
    refine r_bipush hK dX7_byteAt_9 (by decide) ?_
    refine r_callS hK ck_X7_isWithin sc_X7_isWithin ml_RX7_108 (by omega) (c_X7_isWithin (l := kL K) (g := g) (X := X) (a2) (0) (63) C1 (wpO_bd h)) (As := [.int (I (a2)), .int (I (0)), .int (I (63))]) (st := []) rfl (Nat.le_of_ble_eq_true rfl) dX7_byteAt_11 (kkI (fun C11 r11 h => ?_))
    refine r_if_eq hK dX7_byteAt_14 (t := 32) (by decide) (wpO_eq h) (fun h => ?_) (fun h => ?_)
    · refine r_iconst hK dX7_byteAt_32 ?_
      exact r_ireturn hK hr hQ rfl dX7_byteAt_33 ⟨C11, (-1), rfl, rfl, wpO_some h⟩
    · refine r_aload_n hK dX7_byteAt_17 rfl ?_
      refine r_getR (k := 0) (k' := 1) hK cls_7 fl_RX7_10 (by decide) (by omega) rfl rfl dX7_byteAt_18 ?_
      refine r_iload_n hK dX7_byteAt_21 rfl ?_
      refine r_callV hK ck_X6_pageOf im_X6_pageOf sl_X6_pageOf ml_RX7_139 (by omega) (c_X6_pageOf (l := kL K) (g := g) (X := X) (a1) C11 (wpO_bd h)) cls_6 (k := 1) (by omega) rfl (As := [.int (I (a1))]) (st := []) rfl (Nat.le_of_ble_eq_true rfl) dX7_byteAt_22 (kkP (fun C22 r22 hr22 h => ?_))
      refine r_iload_n hK dX7_byteAt_25 rfl ?_
      refine r_callV hK ck_X4_at im_X4_at sl_X4_at ml_RX7_173 (by omega) (c_X4_at (l := kL K) (g := g) (X := X) r22 (a2) hr22 C22 (wpO_bd h)) cls_4 (k := (27 + r22)) (by omega) (sh_page hr22) (As := [.int (I (a2))]) (st := []) rfl (Nat.le_of_ble_eq_true rfl) dX7_byteAt_26 (kkI (fun C26 r26 h => ?_))
      refine r_goto hK dX7_byteAt_29 (t := 33) (by decide) ?_
      exact r_ireturn hK hr hQ rfl dX7_byteAt_33 ⟨C26, r26, rfl, rfl, wpO_some h⟩
set_option maxRecDepth 100000 in
set_option maxHeartbeats 4000000 in
theorem c_X7_check {l : Launch} {g : GT} {X : Mem} {Q : Mem → Int → Prop} (a1 : Int) (a2 : Int) (a3 : Int) (C : Mem) (h : wpO (f_X7_check a1 a2 a3 C) Q) : MetC l yX7_check cX7_check 7 (some .int) 86 g [.ref (gA g 0), .int (I (a1)), .int (I (a2)), .int (I (a3))] (mrg C X) (QI (fun c => mrg c X) Q) := by
  refine met_at 3 (lv := [some (.ref (gA g 0)), some (.int (I (a1))), some (.int (I (a2))), some (.int (I (a3))), none, none, none]) (by decide) (Nat.le_of_ble_eq_true rfl) rfl rfl (fun K hK hN hr hQ => ?_)
  unfold f_X7_check at h
  refine r_iload_n hK dX7_check_0 rfl ?_
  refine r_callS hK ck_X7_isPage sc_X7_isPage ml_RX7_161 (by omega) (c_X7_isPage (l := kL K) (g := g) (X := X) (a1) C (wpO_bd h)) (As := [.int (I (a1))]) (st := []) rfl (Nat.le_of_ble_eq_true rfl) dX7_check_1 (kkI (fun C1 r1 h => ?_))
  refine r_if_eq hK dX7_check_4 (t := 24) (by decide) (wpO_eq h) (fun h => ?_) (fun h => ?_)
  · refine r_iconst hK dX7_check_24 ?_
    exact r_ireturn hK hr hQ rfl dX7_check_25 ⟨C1, (-1), rfl, rfl, wpO_some h⟩
  · refine r_iload_n hK dX7_check_7 rfl ?_
    refine r_iconst hK dX7_check_8 ?_
    refine r_bipush hK dX7_check_9 (by decide) ?_
    refine r_callS hK ck_X7_isWithin sc_X7_isWithin ml_RX7_108 (by omega) (c_X7_isWithin (l := kL K) (g := g) (X := X) (a2) (0) (63) C1 (wpO_bd h)) (As := [.int (I (a2)), .int (I (0)), .int (I (63))]) (st := []) rfl (Nat.le_of_ble_eq_true rfl) dX7_check_11 (kkI (fun C11 r11 h => ?_))
    refine r_if_eq hK dX7_check_14 (t := 24) (by decide) (wpO_eq h) (fun h => ?_) (fun h => ?_)
    · refine r_iconst hK dX7_check_24 ?_
      exact r_ireturn hK hr hQ rfl dX7_check_25 ⟨C11, (-1), rfl, rfl, wpO_some h⟩
    · refine r_iload_n hK dX7_check_17 rfl ?_
      refine r_callS hK ck_X7_isByte sc_X7_isByte ml_RX7_53 (by omega) (c_X7_isByte (l := kL K) (g := g) (X := X) (a3) C11 (wpO_bd h)) (As := [.int (I (a3))]) (st := []) rfl (Nat.le_of_ble_eq_true rfl) dX7_check_18 (kkI (fun C18 r18 h => ?_))
      refine r_if_ne hK dX7_check_21 (t := 26) (by decide) (wpO_eq h) (fun h => ?_) (fun h => ?_)
      · refine r_iconst hK dX7_check_24 ?_
        exact r_ireturn hK hr hQ rfl dX7_check_25 ⟨C18, (-1), rfl, rfl, wpO_some h⟩
      · refine r_aload_n hK dX7_check_26 rfl ?_
        refine r_getR (k := 0) (k' := 1) hK cls_7 fl_RX7_10 (by decide) (by omega) rfl rfl dX7_check_27 ?_
        refine r_iload_n hK dX7_check_30 rfl ?_
        refine r_callV hK ck_X6_pageOf im_X6_pageOf sl_X6_pageOf ml_RX7_139 (by omega) (c_X6_pageOf (l := kL K) (g := g) (X := X) (a1) C18 (wpO_bd h)) cls_6 (k := 1) (by omega) rfl (As := [.int (I (a1))]) (st := []) rfl (Nat.le_of_ble_eq_true rfl) dX7_check_31 (kkP (fun C31 r31 hr31 h => ?_))
        refine r_astore hK dX7_check_34 (by rw [hN]; decide) rfl (lv' := [some (.ref (gA g 0)), some (.int (I (a1))), some (.int (I (a2))), some (.int (I (a3))), some (.ref (gA g (27 + r31))), none, none]) rfl ?_
        refine r_aload hK dX7_check_36 rfl ?_
        refine r_iload_n hK dX7_check_38 rfl ?_
        refine r_callV hK ck_X4_at im_X4_at sl_X4_at ml_RX7_173 (by omega) (c_X4_at (l := kL K) (g := g) (X := X) r31 (a2) hr31 C31 (wpO_bd h)) cls_4 (k := (27 + r31)) (by omega) (sh_page hr31) (As := [.int (I (a2))]) (st := []) rfl (Nat.le_of_ble_eq_true rfl) dX7_check_39 (kkI (fun C39 r39 h => ?_))
        refine r_istore hK dX7_check_42 (by rw [hN]; decide) rfl (lv' := [some (.ref (gA g 0)), some (.int (I (a1))), some (.int (I (a2))), some (.int (I (a3))), some (.ref (gA g (27 + r31))), some (.int (I (r39))), none]) rfl ?_
        refine r_aload hK dX7_check_44 rfl ?_
        refine r_iload_n hK dX7_check_46 rfl ?_
        refine r_iload_n hK dX7_check_47 rfl ?_
        refine r_callV hK ck_X4_set im_X4_set sl_X4_set ml_RX7_176 (by omega) (c_X4_set (l := kL K) (g := g) (X := X) r31 (a2) (a3) hr31 C39 (wpO_bd h)) cls_4 (k := (27 + r31)) (by omega) (sh_page hr31) (As := [.int (I (a2)), .int (I (a3))]) (st := []) rfl (Nat.le_of_ble_eq_true rfl) dX7_check_48 (kkV (fun C48 h => ?_))
        refine r_aload_n hK dX7_check_51 rfl ?_
        refine r_getR (k := 0) (k' := 3) hK cls_7 fl_RX7_28 (by decide) (by omega) rfl rfl dX7_check_52 ?_
        refine r_callV hK ck_X1_firstWrong im_X1_firstWrong sl_X1_firstWrong ml_RX7_179 (by omega) (c_X1_firstWrong (l := kL K) (g := g) (X := X) C48 (wpO_bd h)) cls_1 (k := 3) (by omega) rfl (As := []) (st := []) rfl (Nat.le_of_ble_eq_true rfl) dX7_check_55 (kkI (fun C55 r55 h => ?_))
        refine r_istore hK dX7_check_58 (by rw [hN]; decide) rfl (lv' := [some (.ref (gA g 0)), some (.int (I (a1))), some (.int (I (a2))), some (.int (I (a3))), some (.ref (gA g (27 + r31))), some (.int (I (r39))), some (.int (I (r55)))]) rfl ?_
        refine r_aload hK dX7_check_60 rfl ?_
        refine r_iload_n hK dX7_check_62 rfl ?_
        refine r_iload hK dX7_check_63 rfl ?_
        refine r_callV hK ck_X4_set im_X4_set sl_X4_set ml_RX7_176 (by omega) (c_X4_set (l := kL K) (g := g) (X := X) r31 (a2) (r39) hr31 C55 (wpO_bd h)) cls_4 (k := (27 + r31)) (by omega) (sh_page hr31) (As := [.int (I (a2)), .int (I (r39))]) (st := []) rfl (Nat.le_of_ble_eq_true rfl) dX7_check_65 (kkV (fun C65 h => ?_))
        refine r_iload hK dX7_check_68 rfl ?_
        exact r_ireturn hK hr hQ rfl dX7_check_70 ⟨C65, r55, rfl, rfl, wpO_some h⟩
set_option maxRecDepth 100000 in
set_option maxHeartbeats 4000000 in
theorem c_X7_count {l : Launch} {g : GT} {X : Mem} {Q : Mem → Int → Prop} (a1 : Int) (C : Mem) (h : wpO (f_X7_count a1 C) Q) : MetC l yX7_count cX7_count 2 (some .int) 4 g [.ref (gA g 0), .int (I (a1))] (mrg C X) (QI (fun c => mrg c X) Q) := by
  refine met_at 0 (lv := [some (.ref (gA g 0)), some (.int (I (a1)))]) (by decide) (Nat.le_of_ble_eq_true rfl) rfl rfl (fun K hK hN hr hQ => ?_)
  unfold f_X7_count at h
  refine r_iload_n hK dX7_count_0 rfl ?_
  obtain ⟨hr1, hA, hB⟩ := wpO_eq h
  have hr1 := hr1.1
  by_cases hc1_0 : (a1) = 0
  · have h := hA hc1_0
    refine r_tabIn hK dX7_count_1 hr1 hc1_0 (by decide) (by decide) rfl (t := 48) (by decide) ?_
    refine r_aload_n hK dX7_count_48 rfl ?_
    refine r_getR (k := 0) (k' := 1) hK cls_7 fl_RX7_10 (by decide) (by omega) rfl rfl dX7_count_49 ?_
    refine r_callV hK ck_X6_keys im_X6_keys sl_X6_keys ml_RX7_182 (by omega) (c_X6_keys (l := kL K) (g := g) (X := X) C (wpO_bd h)) cls_6 (k := 1) (by omega) rfl (As := []) (st := []) rfl (Nat.le_of_ble_eq_true rfl) dX7_count_52 (kkI (fun C52 r52 h => ?_))
    exact r_ireturn hK hr hQ rfl dX7_count_55 ⟨C52, r52, rfl, rfl, wpO_some h⟩
  · have h := hB hc1_0
    obtain ⟨hr1, hA, hB⟩ := wpO_eq h
    have hr1 := hr1.1
    by_cases hc1_1 : (a1) = 1
    · have h := hA hc1_1
      refine r_tabIn hK dX7_count_1 hr1 hc1_1 (by decide) (by decide) rfl (t := 56) (by decide) ?_
      refine r_aload_n hK dX7_count_56 rfl ?_
      refine r_getR (k := 0) (k' := 1) hK cls_7 fl_RX7_10 (by decide) (by omega) rfl rfl dX7_count_57 ?_
      refine r_getIN (k := 1) hK cls_6 fl_RX7_115 (by decide) (by omega) rfl rfl dX7_count_60 (mrg_c (by omega)) ?_
      exact r_ireturn hK hr hQ rfl dX7_count_63 ⟨C, (C 1 5), rfl, rfl, wpO_some h⟩
    · have h := hB hc1_1
      obtain ⟨hr1, hA, hB⟩ := wpO_eq h
      have hr1 := hr1.1
      by_cases hc1_2 : (a1) = 2
      · have h := hA hc1_2
        refine r_tabIn hK dX7_count_1 hr1 hc1_2 (by decide) (by decide) rfl (t := 64) (by decide) ?_
        refine r_aload_n hK dX7_count_64 rfl ?_
        refine r_getR (k := 0) (k' := 1) hK cls_7 fl_RX7_10 (by decide) (by omega) rfl rfl dX7_count_65 ?_
        refine r_getIN (k := 1) hK cls_6 fl_RX7_185 (by decide) (by omega) rfl rfl dX7_count_68 (mrg_c (by omega)) ?_
        exact r_ireturn hK hr hQ rfl dX7_count_71 ⟨C, (C 1 4), rfl, rfl, wpO_some h⟩
      · have h := hB hc1_2
        obtain ⟨hr1, hA, hB⟩ := wpO_eq h
        have hr1 := hr1.1
        by_cases hc1_3 : (a1) = 3
        · have h := hA hc1_3
          refine r_tabIn hK dX7_count_1 hr1 hc1_3 (by decide) (by decide) rfl (t := 72) (by decide) ?_
          refine r_aload_n hK dX7_count_72 rfl ?_
          refine r_getR (k := 0) (k' := 1) hK cls_7 fl_RX7_10 (by decide) (by omega) rfl rfl dX7_count_73 ?_
          refine r_iconst hK dX7_count_76 ?_
          refine r_callV hK ck_X6_pagesOfSort im_X6_pagesOfSort sl_X6_pagesOfSort ml_RX7_188 (by omega) (c_X6_pagesOfSort (l := kL K) (g := g) (X := X) (0) C (wpO_bd h)) cls_6 (k := 1) (by omega) rfl (As := [.int (I (0))]) (st := []) rfl (Nat.le_of_ble_eq_true rfl) dX7_count_77 (kkI (fun C77 r77 h => ?_))
          exact r_ireturn hK hr hQ rfl dX7_count_80 ⟨C77, r77, rfl, rfl, wpO_some h⟩
        · have h := hB hc1_3
          obtain ⟨hr1, hA, hB⟩ := wpO_eq h
          have hr1 := hr1.1
          by_cases hc1_4 : (a1) = 4
          · have h := hA hc1_4
            refine r_tabIn hK dX7_count_1 hr1 hc1_4 (by decide) (by decide) rfl (t := 81) (by decide) ?_
            refine r_aload_n hK dX7_count_81 rfl ?_
            refine r_getR (k := 0) (k' := 1) hK cls_7 fl_RX7_10 (by decide) (by omega) rfl rfl dX7_count_82 ?_
            refine r_callV hK ck_X6_usedOfAll im_X6_usedOfAll sl_X6_usedOfAll ml_RX7_191 (by omega) (c_X6_usedOfAll (l := kL K) (g := g) (X := X) C (wpO_bd h)) cls_6 (k := 1) (by omega) rfl (As := []) (st := []) rfl (Nat.le_of_ble_eq_true rfl) dX7_count_85 (kkI (fun C85 r85 h => ?_))
            exact r_ireturn hK hr hQ rfl dX7_count_88 ⟨C85, r85, rfl, rfl, wpO_some h⟩
          · have h := hB hc1_4
            obtain ⟨hr1, hA, hB⟩ := wpO_eq h
            have hr1 := hr1.1
            by_cases hc1_5 : (a1) = 5
            · have h := hA hc1_5
              refine r_tabIn hK dX7_count_1 hr1 hc1_5 (by decide) (by decide) rfl (t := 89) (by decide) ?_
              refine r_aload_n hK dX7_count_89 rfl ?_
              refine r_getR (k := 0) (k' := 1) hK cls_7 fl_RX7_10 (by decide) (by omega) rfl rfl dX7_count_90 ?_
              refine r_iconst hK dX7_count_93 ?_
              refine r_callV hK ck_X6_pagesOfSort im_X6_pagesOfSort sl_X6_pagesOfSort ml_RX7_188 (by omega) (c_X6_pagesOfSort (l := kL K) (g := g) (X := X) (1) C (wpO_bd h)) cls_6 (k := 1) (by omega) rfl (As := [.int (I (1))]) (st := []) rfl (Nat.le_of_ble_eq_true rfl) dX7_count_94 (kkI (fun C94 r94 h => ?_))
              exact r_ireturn hK hr hQ rfl dX7_count_97 ⟨C94, r94, rfl, rfl, wpO_some h⟩
            · have h := hB hc1_5
              obtain ⟨hr1, hA, hB⟩ := wpO_eq h
              have hr1 := hr1.1
              by_cases hc1_6 : (a1) = 6
              · have h := hA hc1_6
                refine r_tabIn hK dX7_count_1 hr1 hc1_6 (by decide) (by decide) rfl (t := 98) (by decide) ?_
                refine r_aload_n hK dX7_count_98 rfl ?_
                refine r_getR (k := 0) (k' := 1) hK cls_7 fl_RX7_10 (by decide) (by omega) rfl rfl dX7_count_99 ?_
                refine r_callV hK ck_X6_firstLeaf im_X6_firstLeaf sl_X6_firstLeaf ml_RX7_194 (by omega) (c_X6_firstLeaf (l := kL K) (g := g) (X := X) C (wpO_bd h)) cls_6 (k := 1) (by omega) rfl (As := []) (st := []) rfl (Nat.le_of_ble_eq_true rfl) dX7_count_102 (kkI (fun C102 r102 h => ?_))
                exact r_ireturn hK hr hQ rfl dX7_count_105 ⟨C102, r102, rfl, rfl, wpO_some h⟩
              · have h := hB hc1_6
                obtain ⟨hr1, hA, hB⟩ := wpO_eq h
                have hr1 := hr1.1
                by_cases hc1_7 : (a1) = 7
                · have h := hA hc1_7
                  refine r_tabIn hK dX7_count_1 hr1 hc1_7 (by decide) (by decide) rfl (t := 106) (by decide) ?_
                  refine r_aload_n hK dX7_count_106 rfl ?_
                  refine r_getR (k := 0) (k' := 1) hK cls_7 fl_RX7_10 (by decide) (by omega) rfl rfl dX7_count_107 ?_
                  refine r_callV hK ck_X6_separatorLetters im_X6_separatorLetters sl_X6_separatorLetters ml_RX7_197 (by omega) (c_X6_separatorLetters (l := kL K) (g := g) (X := X) C (wpO_bd h)) cls_6 (k := 1) (by omega) rfl (As := []) (st := []) rfl (Nat.le_of_ble_eq_true rfl) dX7_count_110 (kkI (fun C110 r110 h => ?_))
                  exact r_ireturn hK hr hQ rfl dX7_count_113 ⟨C110, r110, rfl, rfl, wpO_some h⟩
                · have h := hB hc1_7
                  refine r_tabOut hK dX7_count_1 hr1 (by omega) (t := 114) (by decide) ?_
                  refine r_iconst hK dX7_count_114 ?_
                  exact r_ireturn hK hr hQ rfl dX7_count_115 ⟨C, (-1), rfl, rfl, wpO_some h⟩
set_option maxRecDepth 100000 in
set_option maxHeartbeats 4000000 in
theorem w_X7_digest_25 {K : KT} {g : GT} {X : Mem} {dd : Nat} (hK : Kok K g cX7_digest RX7 dd) (hN : kN K = 6) (hr : (kMe K).sig.returnType = (some .long)) {Q : Mem → Int → Prop} (hQ : kQ K = MQ (kB K) (Qc g (QL (fun c => mrg c X) Q)) (kA K) (kS K) (kc K) (ks K) (gS g)) (hdd : 2 ≤ dd) (u3 : Int) (u4 : Nat) (hu4 : u4 < 34) (k : Int → Int → Mem → Option (Mem × Int)) (hk : ∀ (v1 : Int) (v5 : Int) (C : Mem), wpO (k v1 v5 C) Q → Wn K g (mrg C X) 53 [some (.ref (gA g 0)), some (.long (LL (v1))), none, some (.int (I (u3))), some (.ref (gA g (27 + u4))), some (.int (I (v5)))] []) : ∀ (n : Nat) (v1 : Int) (v5 : Int) (C : Mem), wpO (f_X7_digest_25 u3 u4 k n v1 v5 C) Q → Wn K g (mrg C X) 25 [some (.ref (gA g 0)), some (.long (LL (v1))), none, some (.int (I (u3))), some (.ref (gA g (27 + u4))), some (.int (I (v5)))] [] := by
  intro n
  induction n with
  | zero => intro v1 v5 C h; exact (wpO_none h).elim
  | succ n ih =>
    intro v1 v5 C h
    unfold f_X7_digest_25 at h
    refine r_iload hK dX7_digest_25 rfl ?_
    refine r_bipush hK dX7_digest_27 (by decide) ?_
    refine r_icmp_ge hK dX7_digest_29 (t := 53) (by decide) (wpO_lt h) (fun h => ?_) (fun h => ?_)
    · refine r_ldc2 hK kc_RX7_202 dX7_digest_32 ?_
      refine r_lload_n hK dX7_digest_35 rfl ?_
      refine r_lmul hK dX7_digest_36 ?_
      refine r_aload hK dX7_digest_37 rfl ?_
      refine r_iload hK dX7_digest_39 rfl ?_
      refine r_callV hK ck_X4_at im_X4_at sl_X4_at ml_RX7_173 (by omega) (c_X4_at (l := kL K) (g := g) (X := X) u4 (v5) hu4 C (wpO_bd h)) cls_4 (k := (27 + u4)) (by omega) (sh_page hu4) (As := [.int (I (v5))]) (st := [.long (LL (31 * v1))]) rfl (Nat.le_of_ble_eq_true rfl) dX7_digest_41 (kkI (fun C41 r41 h => ?_))
      obtain ⟨hg44, h⟩ := wpO_rg h
      refine r_i2l hK hg44.1 dX7_digest_44 ?_
      refine r_ladd hK dX7_digest_45 ?_
      refine r_lstore_n hK dX7_digest_46 (by rw [hN]; decide) rfl (lv' := [some (.ref (gA g 0)), some (.long (LL ((31 * v1) + r41))), none, some (.int (I (u3))), some (.ref (gA g (27 + u4))), some (.int (I (v5)))]) rfl ?_
      refine r_iinc hK dX7_digest_47 (by rw [hN]; decide) rfl rfl (lv' := [some (.ref (gA g 0)), some (.long (LL ((31 * v1) + r41))), none, some (.int (I (u3))), some (.ref (gA g (27 + u4))), some (.int (I (v5 + 1)))]) rfl ?_
      refine r_goto hK dX7_digest_50 (t := 25) (by decide) ?_
      exact ih ((31 * v1) + r41) (v5 + 1) C41 h
    · exact hk (v1) (v5) C h
set_option maxRecDepth 100000 in
set_option maxHeartbeats 4000000 in
theorem w_X7_digest_6 {K : KT} {g : GT} {X : Mem} {dd : Nat} (hK : Kok K g cX7_digest RX7 dd) (hN : kN K = 6) (hr : (kMe K).sig.returnType = (some .long)) {Q : Mem → Int → Prop} (hQ : kQ K = MQ (kB K) (Qc g (QL (fun c => mrg c X) Q)) (kA K) (kS K) (kc K) (ks K) (gS g)) (hdd : 2 ≤ dd) (k : Int → Int → Mem → Option (Mem × Int)) (hk : ∀ (v1 : Int) (v3 : Int) (C : Mem), wpO (k v1 v3 C) Q → Wn K g (mrg C X) 59 [some (.ref (gA g 0)), some (.long (LL (v1))), none, some (.int (I (v3))), none, none] []) : ∀ (n : Nat) (v1 : Int) (v3 : Int) (C : Mem), wpO (f_X7_digest_6 k n v1 v3 C) Q → Wn K g (mrg C X) 6 [some (.ref (gA g 0)), some (.long (LL (v1))), none, some (.int (I (v3))), none, none] [] := by
  intro n
  induction n with
  | zero => intro v1 v3 C h; exact (wpO_none h).elim
  | succ n ih =>
    intro v1 v3 C h
    unfold f_X7_digest_6 at h
    refine r_iload_n hK dX7_digest_6 rfl ?_
    refine r_bipush hK dX7_digest_7 (by decide) ?_
    refine r_icmp_ge hK dX7_digest_9 (t := 59) (by decide) (wpO_lt h) (fun h => ?_) (fun h => ?_)
    · refine r_aload_n hK dX7_digest_12 rfl ?_
      refine r_getR (k := 0) (k' := 1) hK cls_7 fl_RX7_10 (by decide) (by omega) rfl rfl dX7_digest_13 ?_
      refine r_iload_n hK dX7_digest_16 rfl ?_
      refine r_callV hK ck_X6_pageOf im_X6_pageOf sl_X6_pageOf ml_RX7_139 (by omega) (c_X6_pageOf (l := kL K) (g := g) (X := X) (v3) C (wpO_bd h)) cls_6 (k := 1) (by omega) rfl (As := [.int (I (v3))]) (st := []) rfl (Nat.le_of_ble_eq_true rfl) dX7_digest_17 (kkP (fun C17 r17 hr17 h => ?_))
      refine r_astore hK dX7_digest_20 (by rw [hN]; decide) rfl (lv' := [some (.ref (gA g 0)), some (.long (LL (v1))), none, some (.int (I (v3))), some (.ref (gA g (27 + r17))), none]) rfl ?_
      refine r_iconst hK dX7_digest_22 ?_
      refine r_istore hK dX7_digest_23 (by rw [hN]; decide) rfl (lv' := [some (.ref (gA g 0)), some (.long (LL (v1))), none, some (.int (I (v3))), some (.ref (gA g (27 + r17))), some (.int (I (0)))]) rfl ?_
      refine w_X7_digest_25 hK hN hr hQ (by omega) (v3) r17 hr17 _ (fun v1_e25 v5_e25 C_e25 h => ?_) FU (v1) (0) C17 h
      refine r_iinc hK dX7_digest_53 (by rw [hN]; decide) rfl rfl (lv' := [some (.ref (gA g 0)), some (.long (LL (v1_e25))), none, some (.int (I (v3 + 1))), some (.ref (gA g (27 + r17))), some (.int (I (v5_e25)))]) rfl ?_
      refine r_goto hK dX7_digest_56 (t := 6) (by decide) ?_
      refine r_cut [true, true, false, true, false, false] (lv' := [some (.ref (gA g 0)), some (.long (LL (v1_e25))), none, some (.int (I (v3 + 1))), none, none]) rfl ?_
      exact ih (v1_e25) (v3 + 1) C_e25 h
    · exact hk (v1) (v3) C h
set_option maxRecDepth 100000 in
set_option maxHeartbeats 4000000 in
theorem c_X7_digest {l : Launch} {g : GT} {X : Mem} {Q : Mem → Int → Prop} (C : Mem) (h : wpO (f_X7_digest C) Q) : MetC l yX7_digest cX7_digest 6 (some .long) 2 g [.ref (gA g 0)] (mrg C X) (QL (fun c => mrg c X) Q) := by
  refine met_at 5 (lv := [some (.ref (gA g 0)), none, none, none, none, none]) (by decide) (Nat.le_of_ble_eq_true rfl) rfl rfl (fun K hK hN hr hQ => ?_)
  unfold f_X7_digest at h
  refine r_ldc2 hK kc_RX7_200 dX7_digest_0 ?_
  refine r_lstore_n hK dX7_digest_3 (by rw [hN]; decide) rfl (lv' := [some (.ref (gA g 0)), some (.long (LL (17))), none, none, none, none]) rfl ?_
  refine r_iconst hK dX7_digest_4 ?_
  refine r_istore_n hK dX7_digest_5 (by rw [hN]; decide) rfl (lv' := [some (.ref (gA g 0)), some (.long (LL (17))), none, some (.int (I (0))), none, none]) rfl ?_
  refine w_X7_digest_6 hK hN hr hQ (by omega) _ (fun v1_e6 v3_e6 C_e6 h => ?_) FU (17) (0) C h
  refine r_lload_n hK dX7_digest_59 rfl ?_
  exact r_lreturn hK hr hQ dX7_digest_60 ⟨C_e6, v1_e6, rfl, rfl, wpO_some h⟩
set_option maxRecDepth 100000 in
set_option maxHeartbeats 4000000 in
theorem c_X7_keep {l : Launch} {g : GT} {X : Mem} {Q : Mem → Int → Prop} (a1 : Int) (C : Mem) (h : wpO (f_X7_keep a1 C) Q) : MetC l yX7_keep cX7_keep 2 (some .int) 3 g [.ref (gA g 0), .int (I (a1))] (mrg C X) (QI (fun c => mrg c X) Q) := by
  refine met_at 0 (lv := [some (.ref (gA g 0)), some (.int (I (a1)))]) (by decide) (Nat.le_of_ble_eq_true rfl) rfl rfl (fun K hK hN hr hQ => ?_)
  unfold f_X7_keep at h
  refine r_iload_n hK dX7_keep_0 rfl ?_
  refine r_if_lt hK dX7_keep_1 (t := 13) (by decide) (wpO_lt h) (fun h => ?_) (fun h => ?_)
  · refine r_iconst hK dX7_keep_13 ?_
    exact r_ireturn hK hr hQ rfl dX7_keep_14 ⟨C, (-1), rfl, rfl, wpO_some h⟩
  · refine r_iload_n hK dX7_keep_4 rfl ?_
    refine r_aload_n hK dX7_keep_5 rfl ?_
    refine r_getR (k := 0) (k' := (5)) hK cls_7 fl_RX7_41 (by decide) (by omega) rfl rfl dX7_keep_6 ?_
    refine r_alen (k := (5)) hK (by omega) rfl (by decide) dX7_keep_9 ?_
    refine r_icmp_lt hK dX7_keep_10 (t := 15) (by decide) (wpO_lt h) (fun h => ?_) (fun h => ?_)
    · refine r_aload_n hK dX7_keep_15 rfl ?_
      refine r_getR (k := 0) (k' := (5)) hK cls_7 fl_RX7_41 (by decide) (by omega) rfl rfl dX7_keep_16 ?_
      refine r_iload_n hK dX7_keep_19 rfl ?_
      obtain ⟨hb20, h⟩ := wpO_ix h
      have hN20 : (a1).toNat < 2 := by omega
      refine r_aaload (k := (5)) hK (by omega) rfl (Or.inl rfl) (by decide) hb20 dX7_keep_20 ?_
      refine r_aload_n hK dX7_keep_21 rfl ?_
      refine r_getR (k := 0) (k' := 1) hK cls_7 fl_RX7_10 (by decide) (by omega) rfl rfl dX7_keep_22 ?_
      refine r_callV hK ck_X2_copyFrom im_X2_copyFrom sl_X2_copyFrom ml_RX7_204 (by omega) (c_X2_copyFrom (l := kL K) (g := g) (X := X) ((a1).toNat) hN20 C (wpO_bd h)) cls_2 (k := (6 + (a1).toNat)) (by omega) (sh_img hN20) (As := [.ref (gA g 1)]) (st := []) rfl (Nat.le_of_ble_eq_true rfl) dX7_keep_25 (kkV (fun C25 h => ?_))
      refine r_aload_n hK dX7_keep_28 rfl ?_
      refine r_getR (k := 0) (k' := 1) hK cls_7 fl_RX7_10 (by decide) (by omega) rfl rfl dX7_keep_29 ?_
      refine r_callV hK ck_X6_keys im_X6_keys sl_X6_keys ml_RX7_182 (by omega) (c_X6_keys (l := kL K) (g := g) (X := X) C25 (wpO_bd h)) cls_6 (k := 1) (by omega) rfl (As := []) (st := []) rfl (Nat.le_of_ble_eq_true rfl) dX7_keep_32 (kkI (fun C32 r32 h => ?_))
      exact r_ireturn hK hr hQ rfl dX7_keep_35 ⟨C32, r32, rfl, rfl, wpO_some h⟩
    · refine r_iconst hK dX7_keep_13 ?_
      exact r_ireturn hK hr hQ rfl dX7_keep_14 ⟨C, (-1), rfl, rfl, wpO_some h⟩
set_option maxRecDepth 100000 in
set_option maxHeartbeats 4000000 in
theorem c_X7_back {l : Launch} {g : GT} {X : Mem} {Q : Mem → Int → Prop} (a1 : Int) (C : Mem) (h : wpO (f_X7_back a1 C) Q) : MetC l yX7_back cX7_back 2 (some .int) 3 g [.ref (gA g 0), .int (I (a1))] (mrg C X) (QI (fun c => mrg c X) Q) := by
  refine met_at 0 (lv := [some (.ref (gA g 0)), some (.int (I (a1)))]) (by decide) (Nat.le_of_ble_eq_true rfl) rfl rfl (fun K hK hN hr hQ => ?_)
  unfold f_X7_back at h
  refine r_iload_n hK dX7_back_0 rfl ?_
  refine r_if_lt hK dX7_back_1 (t := 13) (by decide) (wpO_lt h) (fun h => ?_) (fun h => ?_)
  · refine r_iconst hK dX7_back_13 ?_
    exact r_ireturn hK hr hQ rfl dX7_back_14 ⟨C, (-1), rfl, rfl, wpO_some h⟩
  · refine r_iload_n hK dX7_back_4 rfl ?_
    refine r_aload_n hK dX7_back_5 rfl ?_
    refine r_getR (k := 0) (k' := (5)) hK cls_7 fl_RX7_41 (by decide) (by omega) rfl rfl dX7_back_6 ?_
    refine r_alen (k := (5)) hK (by omega) rfl (by decide) dX7_back_9 ?_
    refine r_icmp_lt hK dX7_back_10 (t := 15) (by decide) (wpO_lt h) (fun h => ?_) (fun h => ?_)
    · refine r_aload_n hK dX7_back_15 rfl ?_
      refine r_getR (k := 0) (k' := (5)) hK cls_7 fl_RX7_41 (by decide) (by omega) rfl rfl dX7_back_16 ?_
      refine r_iload_n hK dX7_back_19 rfl ?_
      obtain ⟨hb20, h⟩ := wpO_ix h
      have hN20 : (a1).toNat < 2 := by omega
      refine r_aaload (k := (5)) hK (by omega) rfl (Or.inl rfl) (by decide) hb20 dX7_back_20 ?_
      refine r_getIN (k := (6 + (a1).toNat)) hK cls_2 fl_RX7_207 (by decide) (by omega) (sh_img hN20) rfl dX7_back_21 (mrg_c (by omega)) ?_
      refine r_if_ne hK dX7_back_24 (t := 30) (by decide) (wpO_eq h) (fun h => ?_) (fun h => ?_)
      · refine r_bipush hK dX7_back_27 (by decide) ?_
        exact r_ireturn hK hr hQ rfl dX7_back_29 ⟨C, (-2), rfl, rfl, wpO_some h⟩
      · refine r_aload_n hK dX7_back_30 rfl ?_
        refine r_getR (k := 0) (k' := (5)) hK cls_7 fl_RX7_41 (by decide) (by omega) rfl rfl dX7_back_31 ?_
        refine r_iload_n hK dX7_back_34 rfl ?_
        obtain ⟨hb35, h⟩ := wpO_ix h
        have hN35 : (a1).toNat < 2 := by omega
        refine r_aaload (k := (5)) hK (by omega) rfl (Or.inl rfl) (by decide) hb35 dX7_back_35 ?_
        refine r_aload_n hK dX7_back_36 rfl ?_
        refine r_getR (k := 0) (k' := 1) hK cls_7 fl_RX7_10 (by decide) (by omega) rfl rfl dX7_back_37 ?_
        refine r_callV hK ck_X2_copyTo im_X2_copyTo sl_X2_copyTo ml_RX7_211 (by omega) (c_X2_copyTo (l := kL K) (g := g) (X := X) ((a1).toNat) hN35 C (wpO_bd h)) cls_2 (k := (6 + (a1).toNat)) (by omega) (sh_img hN35) (As := [.ref (gA g 1)]) (st := []) rfl (Nat.le_of_ble_eq_true rfl) dX7_back_40 (kkV (fun C40 h => ?_))
        refine r_aload_n hK dX7_back_43 rfl ?_
        refine r_getR (k := 0) (k' := 1) hK cls_7 fl_RX7_10 (by decide) (by omega) rfl rfl dX7_back_44 ?_
        refine r_callV hK ck_X6_keys im_X6_keys sl_X6_keys ml_RX7_182 (by omega) (c_X6_keys (l := kL K) (g := g) (X := X) C40 (wpO_bd h)) cls_6 (k := 1) (by omega) rfl (As := []) (st := []) rfl (Nat.le_of_ble_eq_true rfl) dX7_back_47 (kkI (fun C47 r47 h => ?_))
        exact r_ireturn hK hr hQ rfl dX7_back_50 ⟨C47, r47, rfl, rfl, wpO_some h⟩
    · refine r_iconst hK dX7_back_13 ?_
      exact r_ireturn hK hr hQ rfl dX7_back_14 ⟨C, (-1), rfl, rfl, wpO_some h⟩
set_option maxRecDepth 100000 in
set_option maxHeartbeats 4000000 in
theorem c_X7_times {l : Launch} {g : GT} {X : Mem} {Q : Mem → Int → Prop} (a1 : Int) (C : Mem) (h : wpO (f_X7_times a1 C) Q) : MetC l yX7_times cX7_times 2 (some .int) 1 g [.ref (gA g 0), .int (I (a1))] (mrg C X) (QI (fun c => mrg c X) Q) := by
  refine met_at 0 (lv := [some (.ref (gA g 0)), some (.int (I (a1)))]) (by decide) (Nat.le_of_ble_eq_true rfl) rfl rfl (fun K hK hN hr hQ => ?_)
  unfold f_X7_times at h
  refine r_iload_n hK dX7_times_0 rfl ?_
  obtain ⟨hr1, hA, hB⟩ := wpO_eq h
  have hr1 := hr1.1
  by_cases hc1_0 : (a1) = 0
  · have h := hA hc1_0
    refine r_tabIn hK dX7_times_1 hr1 hc1_0 (by decide) (by decide) rfl (t := 32) (by decide) ?_
    refine r_aload_n hK dX7_times_32 rfl ?_
    refine r_getR (k := 0) (k' := 4) hK cls_7 fl_RX7_35 (by decide) (by omega) rfl rfl dX7_times_33 ?_
    refine r_getIN (k := 4) hK cls_5 fl_RX7_60 (by decide) (by omega) rfl rfl dX7_times_36 (mrg_c (by omega)) ?_
    exact r_ireturn hK hr hQ rfl dX7_times_39 ⟨C, (C 4 1), rfl, rfl, wpO_some h⟩
  · have h := hB hc1_0
    obtain ⟨hr1, hA, hB⟩ := wpO_eq h
    have hr1 := hr1.1
    by_cases hc1_1 : (a1) = 1
    · have h := hA hc1_1
      refine r_tabIn hK dX7_times_1 hr1 hc1_1 (by decide) (by decide) rfl (t := 40) (by decide) ?_
      refine r_aload_n hK dX7_times_40 rfl ?_
      refine r_getR (k := 0) (k' := 2) hK cls_7 fl_RX7_21 (by decide) (by omega) rfl rfl dX7_times_41 ?_
      refine r_getIN (k := 2) hK cls_0 fl_RX7_214 (by decide) (by omega) rfl rfl dX7_times_44 (mrg_c (by omega)) ?_
      exact r_ireturn hK hr hQ rfl dX7_times_47 ⟨C, (C 2 4), rfl, rfl, wpO_some h⟩
    · have h := hB hc1_1
      obtain ⟨hr1, hA, hB⟩ := wpO_eq h
      have hr1 := hr1.1
      by_cases hc1_2 : (a1) = 2
      · have h := hA hc1_2
        refine r_tabIn hK dX7_times_1 hr1 hc1_2 (by decide) (by decide) rfl (t := 48) (by decide) ?_
        refine r_aload_n hK dX7_times_48 rfl ?_
        refine r_getR (k := 0) (k' := 2) hK cls_7 fl_RX7_21 (by decide) (by omega) rfl rfl dX7_times_49 ?_
        refine r_getIN (k := 2) hK cls_0 fl_RX7_217 (by decide) (by omega) rfl rfl dX7_times_52 (mrg_c (by omega)) ?_
        exact r_ireturn hK hr hQ rfl dX7_times_55 ⟨C, (C 2 5), rfl, rfl, wpO_some h⟩
      · have h := hB hc1_2
        obtain ⟨hr1, hA, hB⟩ := wpO_eq h
        have hr1 := hr1.1
        by_cases hc1_3 : (a1) = 3
        · have h := hA hc1_3
          refine r_tabIn hK dX7_times_1 hr1 hc1_3 (by decide) (by decide) rfl (t := 56) (by decide) ?_
          refine r_aload_n hK dX7_times_56 rfl ?_
          refine r_getR (k := 0) (k' := 2) hK cls_7 fl_RX7_21 (by decide) (by omega) rfl rfl dX7_times_57 ?_
          refine r_getIN (k := 2) hK cls_0 fl_RX7_220 (by decide) (by omega) rfl rfl dX7_times_60 (mrg_c (by omega)) ?_
          exact r_ireturn hK hr hQ rfl dX7_times_63 ⟨C, (C 2 6), rfl, rfl, wpO_some h⟩
        · have h := hB hc1_3
          refine r_tabOut hK dX7_times_1 hr1 (by omega) (t := 64) (by decide) ?_
          refine r_iconst hK dX7_times_64 ?_
          exact r_ireturn hK hr hQ rfl dX7_times_65 ⟨C, (-1), rfl, rfl, wpO_some h⟩

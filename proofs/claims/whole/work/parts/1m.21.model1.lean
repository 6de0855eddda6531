set_option maxRecDepth 100000 in
set_option maxHeartbeats 4000000 in
theorem w_X8_putKey_104 {K : KT} {g : GT} {Y : Mem} {dd : Nat} (hK : Kok K g cX8_putKey RX8 dd) (hN : kN K = 7) (hr : (kMe K).sig.returnType = (some .int)) {Q : Mem → Int → Prop} (hQ : kQ K = MQ (kB K) (Qc g (QI (fun c => mrg Y c) Q)) (kA K) (kS K) (kc K) (ks K) (gS g)) (hdd : 5 ≤ dd) (k : Int → Int → Mem → Option (Mem × Int)) (hk : ∀ (v2 : Int) (v3 : Int) (C : Mem), wpO (k v2 v3 C) Q → Wn K g (mrg Y C) 220 [some (.ref (gA g 95)), none, some (.int (I (v2))), some (.int (I (v3))), none, none, none] []) : ∀ (n : Nat) (v2 : Int) (v3 : Int) (C : Mem), wpO (f_X8_putKey_104 k n v2 v3 C) Q → Wn K g (mrg Y C) 104 [some (.ref (gA g 95)), none, some (.int (I (v2))), some (.int (I (v3))), none, none, none] [] := by
  intro n
  induction n with
  | zero => intro v2 v3 C h; exact (wpO_none h).elim
  | succ n ih =>
    intro v2 v3 C h
    unfold f_X8_putKey_104 at h
    refine r_aload_n hK dX8_putKey_104 rfl ?_
    refine r_iconst hK dX8_putKey_105 ?_
    refine r_aload_n hK dX8_putKey_106 rfl ?_
    refine r_getI (k := 95) hK cls_8 fl_RX8_76 (by decide) (by omega) rfl rfl dX8_putKey_107 (mrg_x (by omega)) ?_
    refine r_callV hK ck_X8_bytesOf im_X8_bytesOf sl_X8_bytesOf ml_RX8_87 (by omega) (c_X8_bytesOf (l := kL K) (g := g) (Y := Y) (0) (C 95 6) C (wpO_bd h)) cls_8 (k := 95) (by omega) rfl (As := [.int (I (0)), .int (I (C 95 6))]) (st := []) rfl (Nat.le_of_ble_eq_true rfl) dX8_putKey_110 (kkI (fun C110 r110 h => ?_))
    refine r_bipush hK dX8_putKey_113 (by decide) ?_
    refine r_icmp_le hK dX8_putKey_115 (t := 220) (by decide) (wpO_lt h) (fun h => ?_) (fun h => ?_)
    · refine r_aload_n hK dX8_putKey_118 rfl ?_
      refine r_iload_n hK dX8_putKey_119 rfl ?_
      refine r_iconst hK dX8_putKey_120 ?_
      refine r_callV hK ck_X8_at im_X8_at sl_X8_at ml_RX8_69 (by omega) (c_X8_at (l := kL K) (g := g) (Y := Y) (v3) (0) C110 (wpO_bd h)) cls_8 (k := 95) (by omega) rfl (As := [.int (I (v3)), .int (I (0))]) (st := []) rfl (Nat.le_of_ble_eq_true rfl) dX8_putKey_121 (kkI (fun C121 r121 h => ?_))
      refine r_istore hK dX8_putKey_124 (by rw [hN]; decide) rfl (lv' := [some (.ref (gA g 95)), none, some (.int (I (v2))), some (.int (I (v3))), none, some (.int (I (r121))), none]) rfl ?_
      refine r_aload_n hK dX8_putKey_126 rfl ?_
      refine r_callV hK ck_X8_lowestFree im_X8_lowestFree sl_X8_lowestFree ml_RX8_150 (by omega) (c_X8_lowestFree (l := kL K) (g := g) (Y := Y) C121 (wpO_bd h)) cls_8 (k := 95) (by omega) rfl (As := []) (st := []) rfl (Nat.le_of_ble_eq_true rfl) dX8_putKey_127 (kkI (fun C127 r127 h => ?_))
      refine r_istore hK dX8_putKey_130 (by rw [hN]; decide) rfl (lv' := [some (.ref (gA g 95)), none, some (.int (I (v2))), some (.int (I (v3))), none, some (.int (I (r121))), some (.int (I (r127)))]) rfl ?_
      refine r_aload_n hK dX8_putKey_132 rfl ?_
      refine r_iload_n hK dX8_putKey_133 rfl ?_
      refine r_iload hK dX8_putKey_134 rfl ?_
      refine r_iload hK dX8_putKey_136 rfl ?_
      refine r_aload_n hK dX8_putKey_138 rfl ?_
      refine r_iload_n hK dX8_putKey_139 rfl ?_
      refine r_iconst hK dX8_putKey_140 ?_
      refine r_callV hK ck_X8_at im_X8_at sl_X8_at ml_RX8_69 (by omega) (c_X8_at (l := kL K) (g := g) (Y := Y) (v3) (2) C127 (wpO_bd h)) cls_8 (k := 95) (by omega) rfl (As := [.int (I (v3)), .int (I (2))]) (st := [.int (I (r121)), .int (I (r127)), .int (I (v3)), .ref (gA g 95)]) rfl (Nat.le_of_ble_eq_true rfl) dX8_putKey_141 (kkI (fun C141 r141 h => ?_))
      refine r_aload_n hK dX8_putKey_144 rfl ?_
      refine r_iload_n hK dX8_putKey_145 rfl ?_
      refine r_iconst hK dX8_putKey_146 ?_
      refine r_callV hK ck_X8_at im_X8_at sl_X8_at ml_RX8_69 (by omega) (c_X8_at (l := kL K) (g := g) (Y := Y) (v3) (2) C141 (wpO_bd h)) cls_8 (k := 95) (by omega) rfl (As := [.int (I (v3)), .int (I (2))]) (st := [.int (I (r141)), .int (I (r121)), .int (I (r127)), .int (I (v3)), .ref (gA g 95)]) rfl (Nat.le_of_ble_eq_true rfl) dX8_putKey_147 (kkI (fun C147 r147 h => ?_))
      refine r_callV hK ck_X8_share im_X8_share sl_X8_share ml_RX8_153 (by omega) (c_X8_share (l := kL K) (g := g) (Y := Y) (v3) (r127) (r121) (r141) (r147) C147 (wpO_bd h)) cls_8 (k := 95) (by omega) rfl (As := [.int (I (v3)), .int (I (r127)), .int (I (r121)), .int (I (r141)), .int (I (r147))]) (st := []) rfl (Nat.le_of_ble_eq_true rfl) dX8_putKey_150 (kkV (fun C150 h => ?_))
      refine r_aload_n hK dX8_putKey_153 rfl ?_
      refine r_dup hK dX8_putKey_154 rfl ?_
      refine r_getI (k := 95) hK cls_8 fl_RX8_156 (by decide) (by omega) rfl rfl dX8_putKey_155 (mrg_x (by omega)) ?_
      refine r_iconst hK dX8_putKey_158 ?_
      refine r_iadd hK dX8_putKey_159 ?_
      refine r_put (k := 95) hK cls_8 fl_RX8_156 (by decide) (by omega) rfl rfl rfl rfl rfl dX8_putKey_160 (up_x (by omega)) ?_
      refine r_iload_n hK dX8_putKey_163 rfl ?_
      refine r_if_ne hK dX8_putKey_164 (t := 177) (by decide) (wpO_eq h) (fun h => ?_) (fun h => ?_)
      · refine r_aload_n hK dX8_putKey_167 rfl ?_
        refine r_iload_n hK dX8_putKey_168 rfl ?_
        refine r_iload hK dX8_putKey_169 rfl ?_
        refine r_callV hK ck_X8_newRoot im_X8_newRoot sl_X8_newRoot ml_RX8_159 (by omega) (c_X8_newRoot (l := kL K) (g := g) (Y := Y) (v3) (r127) (up C150 95 3 ((C150 95 3) + 1)) (wpO_bd h)) cls_8 (k := 95) (by omega) rfl (As := [.int (I (v3)), .int (I (r127))]) (st := []) rfl (Nat.le_of_ble_eq_true rfl) dX8_putKey_171 (kkV (fun C171 h => ?_))
        refine r_bipush hK dX8_putKey_174 (by decide) ?_
        exact r_ireturn hK hr hQ rfl dX8_putKey_176 ⟨C171, (-9), rfl, rfl, wpO_some h⟩
      · refine r_iinc hK dX8_putKey_177 (by rw [hN]; decide) rfl rfl (lv' := [some (.ref (gA g 95)), none, some (.int (I (v2 + (-1)))), some (.int (I (v3))), none, some (.int (I (r121))), some (.int (I (r127)))]) rfl ?_
        refine r_aload_n hK dX8_putKey_180 rfl ?_
        refine r_getR (k := 95) (k' := (102)) hK cls_8 fl_RX8_32 (by decide) (by omega) rfl rfl dX8_putKey_181 ?_
        refine r_iload_n hK dX8_putKey_184 rfl ?_
        obtain ⟨hb185, h⟩ := wpO_ix h
        refine r_iaload (k := (102)) hK (by omega) rfl (by decide) hb185 dX8_putKey_185 (mrg_x (by omega)) ?_
        refine r_istore_n hK dX8_putKey_186 (by rw [hN]; decide) rfl (lv' := [some (.ref (gA g 95)), none, some (.int (I (v2 + (-1)))), some (.int (I ((up C150 95 3 ((C150 95 3) + 1)) (102) (v2 + (-1)).toNat))), none, some (.int (I (r121))), some (.int (I (r127)))]) rfl ?_
        refine r_aload_n hK dX8_putKey_187 rfl ?_
        refine r_iconst hK dX8_putKey_188 ?_
        refine r_put (k := 95) hK cls_8 fl_RX8_76 (by decide) (by omega) rfl rfl rfl rfl rfl dX8_putKey_189 (up_x (by omega)) ?_
        refine r_aload_n hK dX8_putKey_192 rfl ?_
        refine r_iload_n hK dX8_putKey_193 rfl ?_
        refine r_callV hK ck_X8_comeOut im_X8_comeOut sl_X8_comeOut ml_RX8_143 (by omega) (c_X8_comeOut (l := kL K) (g := g) (Y := Y) ((up C150 95 3 ((C150 95 3) + 1)) (102) (v2 + (-1)).toNat) (up (up C150 95 3 ((C150 95 3) + 1)) 95 6 (0)) (wpO_bd h)) cls_8 (k := 95) (by omega) rfl (As := [.int (I ((up C150 95 3 ((C150 95 3) + 1)) (102) (v2 + (-1)).toNat))]) (st := []) rfl (Nat.le_of_ble_eq_true rfl) dX8_putKey_194 (kkV (fun C194 h => ?_))
        refine r_aload_n hK dX8_putKey_197 rfl ?_
        refine r_aload_n hK dX8_putKey_198 rfl ?_
        refine r_getR (k := 95) (k' := (103)) hK cls_8 fl_RX8_35 (by decide) (by omega) rfl rfl dX8_putKey_199 ?_
        refine r_iload_n hK dX8_putKey_202 rfl ?_
        obtain ⟨hb203, h⟩ := wpO_ix h
        refine r_iaload (k := (103)) hK (by omega) rfl (by decide) hb203 dX8_putKey_203 (mrg_x (by omega)) ?_
        refine r_aload_n hK dX8_putKey_204 rfl ?_
        refine r_getR (k := 95) (k' := (100)) hK cls_8 fl_RX8_26 (by decide) (by omega) rfl rfl dX8_putKey_205 ?_
        refine r_aload_n hK dX8_putKey_208 rfl ?_
        refine r_getI (k := 95) hK cls_8 fl_RX8_90 (by decide) (by omega) rfl rfl dX8_putKey_209 (mrg_x (by omega)) ?_
        refine r_iload hK dX8_putKey_212 rfl ?_
        refine r_callV hK ck_X8_comesIn im_X8_comesIn sl_X8_comesIn ml_RX8_146 (by omega) (c_X8_comesIn (l := kL K) (g := g) (Y := Y) (C194 (103) (v2 + (-1)).toNat) 0 (C194 95 10) (r127) (by decide) C194 (wpO_bd h)) cls_8 (k := 95) (by omega) rfl (As := [.int (I (C194 (103) (v2 + (-1)).toNat)), .ref (gA g (100)), .int (I (C194 95 10)), .int (I (r127))]) (st := []) rfl (Nat.le_of_ble_eq_true rfl) dX8_putKey_214 (kkV (fun C214 h => ?_))
        refine r_goto hK dX8_putKey_217 (t := 104) (by decide) ?_
        refine r_cut [true, false, true, true, false, false, false] (lv' := [some (.ref (gA g 95)), none, some (.int (I (v2 + (-1)))), some (.int (I ((up C150 95 3 ((C150 95 3) + 1)) (102) (v2 + (-1)).toNat))), none, none, none]) rfl ?_
        exact ih (v2 + (-1)) ((up C150 95 3 ((C150 95 3) + 1)) (102) (v2 + (-1)).toNat) C214 h
    · exact hk (v2) (v3) C110 h
set_option maxRecDepth 100000 in
set_option maxHeartbeats 4000000 in
theorem c_X8_putKey {l : Launch} {g : GT} {Y : Mem} {Q : Mem → Int → Prop} (a1 : Int) (C : Mem) (h : wpO (f_X8_putKey a1 C) Q) : MetC l yX8_putKey cX8_putKey 7 (some .int) 5 g [.ref (gA g 95), .int (I (a1))] (mrg Y C) (QI (fun c => mrg Y c) Q) := by
  refine met_at 5 (lv := [some (.ref (gA g 95)), some (.int (I (a1))), none, none, none, none, none]) (by decide) (Nat.le_of_ble_eq_true rfl) rfl rfl (fun K hK hN hr hQ => ?_)
  unfold f_X8_putKey at h
  refine r_aload_n hK dX8_putKey_0 rfl ?_
  refine r_callV hK ck_X8_goesDown im_X8_goesDown sl_X8_goesDown ml_RX8_127 (by omega) (c_X8_goesDown (l := kL K) (g := g) (Y := Y) C (wpO_bd h)) cls_8 (k := 95) (by omega) rfl (As := []) (st := []) rfl (Nat.le_of_ble_eq_true rfl) dX8_putKey_1 (kkV (fun C1 h => ?_))
  refine r_aload_n hK dX8_putKey_4 rfl ?_
  refine r_getI (k := 95) hK cls_8 fl_RX8_13 (by decide) (by omega) rfl rfl dX8_putKey_5 (mrg_x (by omega)) ?_
  refine r_iconst hK dX8_putKey_8 ?_
  refine r_isub hK dX8_putKey_9 ?_
  refine r_istore_n hK dX8_putKey_10 (by rw [hN]; decide) rfl (lv' := [some (.ref (gA g 95)), some (.int (I (a1))), some (.int (I ((C1 95 2) - 1))), none, none, none, none]) rfl ?_
  refine r_aload_n hK dX8_putKey_11 rfl ?_
  refine r_getR (k := 95) (k' := (102)) hK cls_8 fl_RX8_32 (by decide) (by omega) rfl rfl dX8_putKey_12 ?_
  refine r_iload_n hK dX8_putKey_15 rfl ?_
  obtain ⟨hb16, h⟩ := wpO_ix h
  refine r_iaload (k := (102)) hK (by omega) rfl (by decide) hb16 dX8_putKey_16 (mrg_x (by omega)) ?_
  refine r_istore_n hK dX8_putKey_17 (by rw [hN]; decide) rfl (lv' := [some (.ref (gA g 95)), some (.int (I (a1))), some (.int (I ((C1 95 2) - 1))), some (.int (I (C1 (102) ((C1 95 2) - 1).toNat))), none, none, none]) rfl ?_
  refine r_aload_n hK dX8_putKey_18 rfl ?_
  refine r_iload_n hK dX8_putKey_19 rfl ?_
  refine r_callV hK ck_X8_placeIn im_X8_placeIn sl_X8_placeIn ml_RX8_130 (by omega) (c_X8_placeIn (l := kL K) (g := g) (Y := Y) (C1 (102) ((C1 95 2) - 1).toNat) C1 (wpO_bd h)) cls_8 (k := 95) (by omega) rfl (As := [.int (I (C1 (102) ((C1 95 2) - 1).toNat))]) (st := []) rfl (Nat.le_of_ble_eq_true rfl) dX8_putKey_20 (kkI (fun C20 r20 h => ?_))
  refine r_istore hK dX8_putKey_23 (by rw [hN]; decide) rfl (lv' := [some (.ref (gA g 95)), some (.int (I (a1))), some (.int (I ((C1 95 2) - 1))), some (.int (I (C1 (102) ((C1 95 2) - 1).toNat))), some (.int (I (r20))), none, none]) rfl ?_
  refine r_aload_n hK dX8_putKey_25 rfl ?_
  refine r_iload_n hK dX8_putKey_26 rfl ?_
  refine r_iload hK dX8_putKey_27 rfl ?_
  refine r_callV hK ck_X8_isAt im_X8_isAt sl_X8_isAt ml_RX8_133 (by omega) (c_X8_isAt (l := kL K) (g := g) (Y := Y) (C1 (102) ((C1 95 2) - 1).toNat) (r20) C20 (wpO_bd h)) cls_8 (k := 95) (by omega) rfl (As := [.int (I (C1 (102) ((C1 95 2) - 1).toNat)), .int (I (r20))]) (st := []) rfl (Nat.le_of_ble_eq_true rfl) dX8_putKey_29 (kkI (fun C29 r29 h => ?_))
  refine r_if_eq hK dX8_putKey_32 (t := 65) (by decide) (wpO_eq h) (fun h => ?_) (fun h => ?_)
  · refine r_aload_n hK dX8_putKey_65 rfl ?_
    refine r_callV hK ck_X8_freeMany im_X8_freeMany sl_X8_freeMany ml_RX8_140 (by omega) (c_X8_freeMany (l := kL K) (g := g) (Y := Y) C29 (wpO_bd h)) cls_8 (k := 95) (by omega) rfl (As := []) (st := []) rfl (Nat.le_of_ble_eq_true rfl) dX8_putKey_66 (kkI (fun C66 r66 h => ?_))
    refine r_aload_n hK dX8_putKey_69 rfl ?_
    refine r_getI (k := 95) hK cls_8 fl_RX8_13 (by decide) (by omega) rfl rfl dX8_putKey_70 (mrg_x (by omega)) ?_
    refine r_icmp_gt hK dX8_putKey_73 (t := 79) (by decide) (wpO_lt h) (fun h => ?_) (fun h => ?_)
    · refine r_aload_n hK dX8_putKey_79 rfl ?_
      refine r_iconst hK dX8_putKey_80 ?_
      refine r_put (k := 95) hK cls_8 fl_RX8_76 (by decide) (by omega) rfl rfl rfl rfl rfl dX8_putKey_81 (up_x (by omega)) ?_
      refine r_aload_n hK dX8_putKey_84 rfl ?_
      refine r_iload_n hK dX8_putKey_85 rfl ?_
      refine r_callV hK ck_X8_comeOut im_X8_comeOut sl_X8_comeOut ml_RX8_143 (by omega) (c_X8_comeOut (l := kL K) (g := g) (Y := Y) (C1 (102) ((C1 95 2) - 1).toNat) (up C66 95 6 (0)) (wpO_bd h)) cls_8 (k := 95) (by omega) rfl (As := [.int (I (C1 (102) ((C1 95 2) - 1).toNat))]) (st := []) rfl (Nat.le_of_ble_eq_true rfl) dX8_putKey_86 (kkV (fun C86 h => ?_))
      refine r_aload_n hK dX8_putKey_89 rfl ?_
      refine r_iload hK dX8_putKey_90 rfl ?_
      refine r_aload_n hK dX8_putKey_92 rfl ?_
      refine r_getR (k := 95) (k' := (101)) hK cls_8 fl_RX8_29 (by decide) (by omega) rfl rfl dX8_putKey_93 ?_
      refine r_aload_n hK dX8_putKey_96 rfl ?_
      refine r_getI (k := 95) hK cls_8 fl_RX8_111 (by decide) (by omega) rfl rfl dX8_putKey_97 (mrg_x (by omega)) ?_
      refine r_iload_n hK dX8_putKey_100 rfl ?_
      refine r_callV hK ck_X8_comesIn im_X8_comesIn sl_X8_comesIn ml_RX8_146 (by omega) (c_X8_comesIn (l := kL K) (g := g) (Y := Y) (r20) 1 (C86 95 12) (a1) (by decide) C86 (wpO_bd h)) cls_8 (k := 95) (by omega) rfl (As := [.int (I (r20)), .ref (gA g (101)), .int (I (C86 95 12)), .int (I (a1))]) (st := []) rfl (Nat.le_of_ble_eq_true rfl) dX8_putKey_101 (kkV (fun C101 h => ?_))
      refine r_cut [true, false, true, true, false, false, false] (lv' := [some (.ref (gA g 95)), none, some (.int (I ((C1 95 2) - 1))), some (.int (I (C1 (102) ((C1 95 2) - 1).toNat))), none, none, none]) rfl ?_
      refine w_X8_putKey_104 hK hN hr hQ (by omega) _ (fun v2_e104 v3_e104 C_e104 h => ?_) FU ((C1 95 2) - 1) (C1 (102) ((C1 95 2) - 1).toNat) C101 h
      refine r_aload_n hK dX8_putKey_220 rfl ?_
      refine r_iload_n hK dX8_putKey_221 rfl ?_
      refine r_aload_n hK dX8_putKey_222 rfl ?_
      refine r_iload_n hK dX8_putKey_223 rfl ?_
      refine r_iconst hK dX8_putKey_224 ?_
      refine r_callV hK ck_X8_at im_X8_at sl_X8_at ml_RX8_69 (by omega) (c_X8_at (l := kL K) (g := g) (Y := Y) (v3_e104) (0) C_e104 (wpO_bd h)) cls_8 (k := 95) (by omega) rfl (As := [.int (I (v3_e104)), .int (I (0))]) (st := [.int (I (v3_e104)), .ref (gA g 95)]) rfl (Nat.le_of_ble_eq_true rfl) dX8_putKey_225 (kkI (fun C225 r225 h => ?_))
      refine r_aload_n hK dX8_putKey_228 rfl ?_
      refine r_iload_n hK dX8_putKey_229 rfl ?_
      refine r_iconst hK dX8_putKey_230 ?_
      refine r_callV hK ck_X8_at im_X8_at sl_X8_at ml_RX8_69 (by omega) (c_X8_at (l := kL K) (g := g) (Y := Y) (v3_e104) (2) C225 (wpO_bd h)) cls_8 (k := 95) (by omega) rfl (As := [.int (I (v3_e104)), .int (I (2))]) (st := [.int (I (r225)), .int (I (v3_e104)), .ref (gA g 95)]) rfl (Nat.le_of_ble_eq_true rfl) dX8_putKey_231 (kkI (fun C231 r231 h => ?_))
      refine r_iconst hK dX8_putKey_234 ?_
      refine r_aload_n hK dX8_putKey_235 rfl ?_
      refine r_getI (k := 95) hK cls_8 fl_RX8_76 (by decide) (by omega) rfl rfl dX8_putKey_236 (mrg_x (by omega)) ?_
      refine r_callV hK ck_X8_goBack im_X8_goBack sl_X8_goBack ml_RX8_107 (by omega) (c_X8_goBack (l := kL K) (g := g) (Y := Y) (v3_e104) (r225) (r231) (0) (C231 95 6) C231 (wpO_bd h)) cls_8 (k := 95) (by omega) rfl (As := [.int (I (v3_e104)), .int (I (r225)), .int (I (r231)), .int (I (0)), .int (I (C231 95 6))]) (st := []) rfl (Nat.le_of_ble_eq_true rfl) dX8_putKey_239 (kkV (fun C239 h => ?_))
      refine r_bipush hK dX8_putKey_242 (by decide) ?_
      exact r_ireturn hK hr hQ rfl dX8_putKey_244 ⟨C239, (-9), rfl, rfl, wpO_some h⟩
    · refine r_bipush hK dX8_putKey_76 (by decide) ?_
      exact r_ireturn hK hr hQ rfl dX8_putKey_78 ⟨C66, (-3), rfl, rfl, wpO_some h⟩
  · refine r_aload_n hK dX8_putKey_35 rfl ?_
    refine r_getR (k := 95) (k' := (96)) hK cls_8 fl_RX8_7 (by decide) (by omega) rfl rfl dX8_putKey_36 ?_
    refine r_aload_n hK dX8_putKey_39 rfl ?_
    refine r_iload_n hK dX8_putKey_40 rfl ?_
    refine r_iload hK dX8_putKey_41 rfl ?_
    refine r_callV hK ck_X8_tellAt im_X8_tellAt sl_X8_tellAt ml_RX8_137 (by omega) (c_X8_tellAt (l := kL K) (g := g) (Y := Y) (C1 (102) ((C1 95 2) - 1).toNat) (r20) C29 (wpO_bd h)) cls_8 (k := 95) (by omega) rfl (As := [.int (I (C1 (102) ((C1 95 2) - 1).toNat)), .int (I (r20))]) (st := [.ref (gA g (96))]) rfl (Nat.le_of_ble_eq_true rfl) dX8_putKey_43 (kkI (fun C43 r43 h => ?_))
    obtain ⟨hb46, h⟩ := wpO_ix h
    refine r_iaload (k := (96)) hK (by omega) rfl (by decide) hb46 dX8_putKey_46 (mrg_x (by omega)) ?_
    refine r_istore hK dX8_putKey_47 (by rw [hN]; decide) rfl (lv' := [some (.ref (gA g 95)), some (.int (I (a1))), some (.int (I ((C1 95 2) - 1))), some (.int (I (C1 (102) ((C1 95 2) - 1).toNat))), some (.int (I (r20))), some (.int (I (C43 (96) (r43).toNat))), none]) rfl ?_
    refine r_aload_n hK dX8_putKey_49 rfl ?_
    refine r_getR (k := 95) (k' := (96)) hK cls_8 fl_RX8_7 (by decide) (by omega) rfl rfl dX8_putKey_50 ?_
    refine r_aload_n hK dX8_putKey_53 rfl ?_
    refine r_iload_n hK dX8_putKey_54 rfl ?_
    refine r_iload hK dX8_putKey_55 rfl ?_
    refine r_callV hK ck_X8_tellAt im_X8_tellAt sl_X8_tellAt ml_RX8_137 (by omega) (c_X8_tellAt (l := kL K) (g := g) (Y := Y) (C1 (102) ((C1 95 2) - 1).toNat) (r20) C43 (wpO_bd h)) cls_8 (k := 95) (by omega) rfl (As := [.int (I (C1 (102) ((C1 95 2) - 1).toNat)), .int (I (r20))]) (st := [.ref (gA g (96))]) rfl (Nat.le_of_ble_eq_true rfl) dX8_putKey_57 (kkI (fun C57 r57 h => ?_))
    refine r_iload_n hK dX8_putKey_60 rfl ?_
    obtain ⟨hb61, h⟩ := wpO_ix h
    refine r_iastore (k := (96)) hK (by omega) rfl (by decide) hb61 dX8_putKey_61 (up_x (by omega)) ?_
    refine r_iload hK dX8_putKey_62 rfl ?_
    exact r_ireturn hK hr hQ rfl dX8_putKey_64 ⟨(up C57 (96) (r57).toNat (a1)), (C43 (96) (r43).toNat), rfl, rfl, wpO_some h⟩
set_option maxRecDepth 100000 in
set_option maxHeartbeats 4000000 in
theorem c_X8_put {l : Launch} {g : GT} {Y : Mem} {Q : Mem → Int → Prop} (a1 : Int) (a2 : Int) (a3 : Int) (C : Mem) (h : wpO (f_X8_put a1 a2 a3 C) Q) : MetC l yX8_put cX8_put 4 (some .int) 6 g [.ref (gA g 95), .int (I (a1)), .int (I (a2)), .int (I (a3))] (mrg Y C) (QI (fun c => mrg Y c) Q) := by
  refine met_at 0 (lv := [some (.ref (gA g 95)), some (.int (I (a1))), some (.int (I (a2))), some (.int (I (a3)))]) (by decide) (Nat.le_of_ble_eq_true rfl) rfl rfl (fun K hK hN hr hQ => ?_)
  unfold f_X8_put at h
  refine r_iload_n hK dX8_put_0 rfl ?_
  refine r_iload_n hK dX8_put_1 rfl ?_
  refine r_callS hK ck_X8_isSpelled sc_X8_isSpelled ml_RX8_162 (by omega) (c_X8_isSpelled (l := kL K) (g := g) (Y := Y) (a1) (a2) C (wpO_bd h)) (As := [.int (I (a1)), .int (I (a2))]) (st := []) rfl (Nat.le_of_ble_eq_true rfl) dX8_put_2 (kkI (fun C2 r2 h => ?_))
  refine r_if_eq hK dX8_put_5 (t := 19) (by decide) (wpO_eq h) (fun h => ?_) (fun h => ?_)
  · refine r_iconst hK dX8_put_19 ?_
    exact r_ireturn hK hr hQ rfl dX8_put_20 ⟨C2, (-1), rfl, rfl, wpO_some h⟩
  · refine r_iload_n hK dX8_put_8 rfl ?_
    refine r_iconst hK dX8_put_9 ?_
    refine r_sipush hK dX8_put_10 (by decide) ?_
    refine r_callS hK ck_X8_in sc_X8_in ml_RX8_114 (by omega) (c_X8_in (l := kL K) (g := g) (Y := Y) (a3) (0) (255) C2 (wpO_bd h)) (As := [.int (I (a3)), .int (I (0)), .int (I (255))]) (st := []) rfl (Nat.le_of_ble_eq_true rfl) dX8_put_13 (kkI (fun C13 r13 h => ?_))
    refine r_if_ne hK dX8_put_16 (t := 21) (by decide) (wpO_eq h) (fun h => ?_) (fun h => ?_)
    · refine r_iconst hK dX8_put_19 ?_
      exact r_ireturn hK hr hQ rfl dX8_put_20 ⟨C13, (-1), rfl, rfl, wpO_some h⟩
    · refine r_aload_n hK dX8_put_21 rfl ?_
      refine r_iload_n hK dX8_put_22 rfl ?_
      refine r_iload_n hK dX8_put_23 rfl ?_
      refine r_callV hK ck_X8_spells im_X8_spells sl_X8_spells ml_RX8_165 (by omega) (c_X8_spells (l := kL K) (g := g) (Y := Y) (a1) (a2) C13 (wpO_bd h)) cls_8 (k := 95) (by omega) rfl (As := [.int (I (a1)), .int (I (a2))]) (st := []) rfl (Nat.le_of_ble_eq_true rfl) dX8_put_24 (kkV (fun C24 h => ?_))
      refine r_aload_n hK dX8_put_27 rfl ?_
      refine r_iload_n hK dX8_put_28 rfl ?_
      refine r_callV hK ck_X8_putKey im_X8_putKey sl_X8_putKey ml_RX8_168 (by omega) (c_X8_putKey (l := kL K) (g := g) (Y := Y) (a3) C24 (wpO_bd h)) cls_8 (k := 95) (by omega) rfl (As := [.int (I (a3))]) (st := []) rfl (Nat.le_of_ble_eq_true rfl) dX8_put_29 (kkI (fun C29 r29 h => ?_))
      exact r_ireturn hK hr hQ rfl dX8_put_32 ⟨C29, r29, rfl, rfl, wpO_some h⟩
set_option maxRecDepth 100000 in
set_option maxHeartbeats 4000000 in
theorem w_X8_mends_108 {K : KT} {g : GT} {Y : Mem} {dd : Nat} (hK : Kok K g cX8_mends RX8 dd) (hN : kN K = 10) (hr : (kMe K).sig.returnType = (some .boolean)) {Q : Mem → Int → Prop} (hQ : kQ K = MQ (kB K) (Qc g (QI (fun c => mrg Y c) Q)) (kA K) (kS K) (kc K) (ks K) (gS g)) (hdd : 4 ≤ dd) (u2 : Int) (u4 : Int) (u5 : Int) (u6 : Int) (u7 : Int) (u8 : Int) (k : Int → Mem → Option (Mem × Int)) (hk : ∀ (v9 : Int) (C : Mem), wpO (k v9 C) Q → Wn K g (mrg Y C) 145 [some (.ref (gA g 95)), none, some (.int (I (u2))), none, some (.int (I (u4))), some (.int (I (u5))), some (.int (I (u6))), some (.int (I (u7))), some (.int (I (u8))), some (.int (I (v9)))] []) : ∀ (n : Nat) (v9 : Int) (C : Mem), wpO (f_X8_mends_108 u2 u4 u5 u6 u7 u8 k n v9 C) Q → Wn K g (mrg Y C) 108 [some (.ref (gA g 95)), none, some (.int (I (u2))), none, some (.int (I (u4))), some (.int (I (u5))), some (.int (I (u6))), some (.int (I (u7))), some (.int (I (u8))), some (.int (I (v9)))] [] := by
  intro n
  induction n with
  | zero => intro v9 C h; exact (wpO_none h).elim
  | succ n ih =>
    intro v9 C h
    unfold f_X8_mends_108 at h
    refine r_iload hK dX8_mends_108 rfl ?_
    refine r_aload_n hK dX8_mends_110 rfl ?_
    refine r_iload_n hK dX8_mends_111 rfl ?_
    refine r_iload hK dX8_mends_112 rfl ?_
    refine r_callV hK ck_X8_at im_X8_at sl_X8_at ml_RX8_69 (by omega) (c_X8_at (l := kL K) (g := g) (Y := Y) (u2) (u8) C (wpO_bd h)) cls_8 (k := 95) (by omega) rfl (As := [.int (I (u2)), .int (I (u8))]) (st := [.int (I (v9))]) rfl (Nat.le_of_ble_eq_true rfl) dX8_mends_114 (kkI (fun C114 r114 h => ?_))
    refine r_icmp_ge hK dX8_mends_117 (t := 145) (by decide) (wpO_lt h) (fun h => ?_) (fun h => ?_)
    · refine r_aload_n hK dX8_mends_120 rfl ?_
      refine r_getR (k := 95) (k' := (100)) hK cls_8 fl_RX8_26 (by decide) (by omega) rfl rfl dX8_mends_121 ?_
      refine r_iload hK dX8_mends_124 rfl ?_
      refine r_aload_n hK dX8_mends_126 rfl ?_
      refine r_iload_n hK dX8_mends_127 rfl ?_
      refine r_iload hK dX8_mends_128 rfl ?_
      refine r_iconst hK dX8_mends_130 ?_
      refine r_iadd hK dX8_mends_131 ?_
      refine r_iload hK dX8_mends_132 rfl ?_
      refine r_iadd hK dX8_mends_134 ?_
      refine r_callV hK ck_X8_at im_X8_at sl_X8_at ml_RX8_69 (by omega) (c_X8_at (l := kL K) (g := g) (Y := Y) (u2) ((u8 + 1) + v9) C114 (wpO_bd h)) cls_8 (k := 95) (by omega) rfl (As := [.int (I (u2)), .int (I ((u8 + 1) + v9))]) (st := [.int (I (v9)), .ref (gA g (100))]) rfl (Nat.le_of_ble_eq_true rfl) dX8_mends_135 (kkI (fun C135 r135 h => ?_))
      obtain ⟨hb138, h⟩ := wpO_ix h
      refine r_iastore (k := (100)) hK (by omega) rfl (by decide) hb138 dX8_mends_138 (up_x (by omega)) ?_
      refine r_iinc hK dX8_mends_139 (by rw [hN]; decide) rfl rfl (lv' := [some (.ref (gA g 95)), none, some (.int (I (u2))), none, some (.int (I (u4))), some (.int (I (u5))), some (.int (I (u6))), some (.int (I (u7))), some (.int (I (u8))), some (.int (I (v9 + 1)))]) rfl ?_
      refine r_goto hK dX8_mends_142 (t := 108) (by decide) ?_
      exact ih (v9 + 1) (up C135 (100) (v9).toNat (r135)) h
    · exact hk (v9) C114 h
set_option maxRecDepth 100000 in
set_option maxHeartbeats 4000000 in
theorem c_X8_mends {l : Launch} {g : GT} {Y : Mem} {Q : Mem → Int → Prop} (a1 : Int) (C : Mem) (h : wpO (f_X8_mends a1 C) Q) : MetC l yX8_mends cX8_mends 10 (some .boolean) 4 g [.ref (gA g 95), .int (I (a1))] (mrg Y C) (QI (fun c => mrg Y c) Q) := by
  refine met_at 8 (lv := [some (.ref (gA g 95)), some (.int (I (a1))), none, none, none, none, none, none, none, none]) (by decide) (Nat.le_of_ble_eq_true rfl) rfl rfl (fun K hK hN hr hQ => ?_)
  unfold f_X8_mends at h
  refine r_aload_n hK dX8_mends_0 rfl ?_
  refine r_getR (k := 95) (k' := (102)) hK cls_8 fl_RX8_32 (by decide) (by omega) rfl rfl dX8_mends_1 ?_
  refine r_iload_n hK dX8_mends_4 rfl ?_
  refine r_iconst hK dX8_mends_5 ?_
  refine r_isub hK dX8_mends_6 ?_
  obtain ⟨hb7, h⟩ := wpO_ix h
  refine r_iaload (k := (102)) hK (by omega) rfl (by decide) hb7 dX8_mends_7 (mrg_x (by omega)) ?_
  refine r_istore_n hK dX8_mends_8 (by rw [hN]; decide) rfl (lv' := [some (.ref (gA g 95)), some (.int (I (a1))), some (.int (I (C (102) (a1 - 1).toNat))), none, none, none, none, none, none, none]) rfl ?_
  refine r_aload_n hK dX8_mends_9 rfl ?_
  refine r_iload_n hK dX8_mends_10 rfl ?_
  refine r_iconst hK dX8_mends_11 ?_
  refine r_callV hK ck_X8_at im_X8_at sl_X8_at ml_RX8_69 (by omega) (c_X8_at (l := kL K) (g := g) (Y := Y) (C (102) (a1 - 1).toNat) (1) C (wpO_bd h)) cls_8 (k := 95) (by omega) rfl (As := [.int (I (C (102) (a1 - 1).toNat)), .int (I (1))]) (st := []) rfl (Nat.le_of_ble_eq_true rfl) dX8_mends_12 (kkI (fun C12 r12 h => ?_))
  refine r_istore_n hK dX8_mends_15 (by rw [hN]; decide) rfl (lv' := [some (.ref (gA g 95)), some (.int (I (a1))), some (.int (I (C (102) (a1 - 1).toNat))), some (.int (I (r12))), none, none, none, none, none, none]) rfl ?_
  refine r_iload_n hK dX8_mends_16 rfl ?_
  refine r_if_ne hK dX8_mends_17 (t := 22) (by decide) (wpO_eq h) (fun h => ?_) (fun h => ?_)
  · refine r_iconst hK dX8_mends_20 ?_
    exact r_ireturn hK hr hQ (nar_b (by decide)) dX8_mends_21 ⟨C12, 0, rfl, rfl, wpO_some h⟩
  · refine r_aload_n hK dX8_mends_22 rfl ?_
    refine r_getR (k := 95) (k' := (103)) hK cls_8 fl_RX8_35 (by decide) (by omega) rfl rfl dX8_mends_23 ?_
    refine r_iload_n hK dX8_mends_26 rfl ?_
    refine r_iconst hK dX8_mends_27 ?_
    refine r_isub hK dX8_mends_28 ?_
    obtain ⟨hb29, h⟩ := wpO_ix h
    refine r_iaload (k := (103)) hK (by omega) rfl (by decide) hb29 dX8_mends_29 (mrg_x (by omega)) ?_
    refine r_iload_n hK dX8_mends_30 rfl ?_
    refine r_jn (J := fun j48 => ∀ (s0_48 : Int), wpO (j48 s0_48) Q → Wn K g (mrg Y C12) 48 [some (.ref (gA g 95)), none, some (.int (I (C (102) (a1 - 1).toNat))), none, none, none, none, none, none, none] [.int (I (s0_48))]) h ?_ ?_
    · intro s0_48 h
      refine r_istore hK dX8_mends_48 (by rw [hN]; decide) rfl (lv' := [some (.ref (gA g 95)), none, some (.int (I (C (102) (a1 - 1).toNat))), none, some (.int (I (s0_48))), none, none, none, none, none]) rfl ?_
      refine r_aload_n hK dX8_mends_50 rfl ?_
      refine r_iload_n hK dX8_mends_51 rfl ?_
      refine r_iload hK dX8_mends_52 rfl ?_
      refine r_callV hK ck_X8_childOf im_X8_childOf sl_X8_childOf ml_RX8_124 (by omega) (c_X8_childOf (l := kL K) (g := g) (Y := Y) (C (102) (a1 - 1).toNat) (s0_48) C12 (wpO_bd h)) cls_8 (k := 95) (by omega) rfl (As := [.int (I (C (102) (a1 - 1).toNat)), .int (I (s0_48))]) (st := []) rfl (Nat.le_of_ble_eq_true rfl) dX8_mends_54 (kkI (fun C54 r54 h => ?_))
      refine r_istore hK dX8_mends_57 (by rw [hN]; decide) rfl (lv' := [some (.ref (gA g 95)), none, some (.int (I (C (102) (a1 - 1).toNat))), none, some (.int (I (s0_48))), some (.int (I (r54))), none, none, none, none]) rfl ?_
      refine r_aload_n hK dX8_mends_59 rfl ?_
      refine r_iload_n hK dX8_mends_60 rfl ?_
      refine r_iload hK dX8_mends_61 rfl ?_
      refine r_iconst hK dX8_mends_63 ?_
      refine r_iadd hK dX8_mends_64 ?_
      refine r_callV hK ck_X8_childOf im_X8_childOf sl_X8_childOf ml_RX8_124 (by omega) (c_X8_childOf (l := kL K) (g := g) (Y := Y) (C (102) (a1 - 1).toNat) (s0_48 + 1) C54 (wpO_bd h)) cls_8 (k := 95) (by omega) rfl (As := [.int (I (C (102) (a1 - 1).toNat)), .int (I (s0_48 + 1))]) (st := []) rfl (Nat.le_of_ble_eq_true rfl) dX8_mends_65 (kkI (fun C65 r65 h => ?_))
      refine r_istore hK dX8_mends_68 (by rw [hN]; decide) rfl (lv' := [some (.ref (gA g 95)), none, some (.int (I (C (102) (a1 - 1).toNat))), none, some (.int (I (s0_48))), some (.int (I (r54))), some (.int (I (r65))), none, none, none]) rfl ?_
      refine r_aload_n hK dX8_mends_70 rfl ?_
      refine r_iload hK dX8_mends_71 rfl ?_
      refine r_iconst hK dX8_mends_73 ?_
      refine r_callV hK ck_X8_at im_X8_at sl_X8_at ml_RX8_69 (by omega) (c_X8_at (l := kL K) (g := g) (Y := Y) (r54) (0) C65 (wpO_bd h)) cls_8 (k := 95) (by omega) rfl (As := [.int (I (r54)), .int (I (0))]) (st := []) rfl (Nat.le_of_ble_eq_true rfl) dX8_mends_74 (kkI (fun C74 r74 h => ?_))
      refine r_istore hK dX8_mends_77 (by rw [hN]; decide) rfl (lv' := [some (.ref (gA g 95)), none, some (.int (I (C (102) (a1 - 1).toNat))), none, some (.int (I (s0_48))), some (.int (I (r54))), some (.int (I (r65))), some (.int (I (r74))), none, none]) rfl ?_
      refine r_aload_n hK dX8_mends_79 rfl ?_
      refine r_iload_n hK dX8_mends_80 rfl ?_
      refine r_iload hK dX8_mends_81 rfl ?_
      refine r_callV hK ck_X8_startOf im_X8_startOf sl_X8_startOf ml_RX8_73 (by omega) (c_X8_startOf (l := kL K) (g := g) (Y := Y) (C (102) (a1 - 1).toNat) (s0_48) C74 (wpO_bd h)) cls_8 (k := 95) (by omega) rfl (As := [.int (I (C (102) (a1 - 1).toNat)), .int (I (s0_48))]) (st := []) rfl (Nat.le_of_ble_eq_true rfl) dX8_mends_83 (kkI (fun C83 r83 h => ?_))
      refine r_istore hK dX8_mends_86 (by rw [hN]; decide) rfl (lv' := [some (.ref (gA g 95)), none, some (.int (I (C (102) (a1 - 1).toNat))), none, some (.int (I (s0_48))), some (.int (I (r54))), some (.int (I (r65))), some (.int (I (r74))), some (.int (I (r83))), none]) rfl ?_
      refine r_aload_n hK dX8_mends_88 rfl ?_
      refine r_iconst hK dX8_mends_89 ?_
      refine r_put (k := 95) hK cls_8 fl_RX8_76 (by decide) (by omega) rfl rfl rfl rfl rfl dX8_mends_90 (up_x (by omega)) ?_
      refine r_aload_n hK dX8_mends_93 rfl ?_
      refine r_iload hK dX8_mends_94 rfl ?_
      refine r_callV hK ck_X8_comeOut im_X8_comeOut sl_X8_comeOut ml_RX8_143 (by omega) (c_X8_comeOut (l := kL K) (g := g) (Y := Y) (r54) (up C83 95 6 (0)) (wpO_bd h)) cls_8 (k := 95) (by omega) rfl (As := [.int (I (r54))]) (st := []) rfl (Nat.le_of_ble_eq_true rfl) dX8_mends_96 (kkV (fun C96 h => ?_))
      refine r_iload hK dX8_mends_99 rfl ?_
      refine r_iconst hK dX8_mends_101 ?_
      refine r_jn (J := fun j171 => ∀ (C_171 : Mem), wpO (j171 C_171) Q → Wn K g (mrg Y C_171) 171 [some (.ref (gA g 95)), none, some (.int (I (C (102) (a1 - 1).toNat))), none, some (.int (I (s0_48))), some (.int (I (r54))), some (.int (I (r65))), some (.int (I (r74))), some (.int (I (r83))), none] []) h ?_ ?_
      · intro C_171 h
        refine r_aload_n hK dX8_mends_171 rfl ?_
        refine r_iload hK dX8_mends_172 rfl ?_
        refine r_callV hK ck_X8_comeOut im_X8_comeOut sl_X8_comeOut ml_RX8_143 (by omega) (c_X8_comeOut (l := kL K) (g := g) (Y := Y) (r65) C_171 (wpO_bd h)) cls_8 (k := 95) (by omega) rfl (As := [.int (I (r65))]) (st := []) rfl (Nat.le_of_ble_eq_true rfl) dX8_mends_174 (kkV (fun C174 h => ?_))
        refine r_aload_n hK dX8_mends_177 rfl ?_
        refine r_iconst hK dX8_mends_178 ?_
        refine r_aload_n hK dX8_mends_179 rfl ?_
        refine r_getI (k := 95) hK cls_8 fl_RX8_76 (by decide) (by omega) rfl rfl dX8_mends_180 (mrg_x (by omega)) ?_
        refine r_callV hK ck_X8_bytesOf im_X8_bytesOf sl_X8_bytesOf ml_RX8_87 (by omega) (c_X8_bytesOf (l := kL K) (g := g) (Y := Y) (0) (C174 95 6) C174 (wpO_bd h)) cls_8 (k := 95) (by omega) rfl (As := [.int (I (0)), .int (I (C174 95 6))]) (st := []) rfl (Nat.le_of_ble_eq_true rfl) dX8_mends_183 (kkI (fun C183 r183 h => ?_))
        refine r_bipush hK dX8_mends_186 (by decide) ?_
        refine r_icmp_gt hK dX8_mends_188 (t := 278) (by decide) (wpO_lt h) (fun h => ?_) (fun h => ?_)
        · refine r_aload_n hK dX8_mends_278 rfl ?_
          refine r_iload hK dX8_mends_279 rfl ?_
          refine r_aload_n hK dX8_mends_281 rfl ?_
          refine r_callV hK ck_X8_half im_X8_half sl_X8_half ml_RX8_100 (by omega) (c_X8_half (l := kL K) (g := g) (Y := Y) C183 (wpO_bd h)) cls_8 (k := 95) (by omega) rfl (As := []) (st := [.int (I (r74)), .ref (gA g 95)]) rfl (Nat.le_of_ble_eq_true rfl) dX8_mends_282 (kkI (fun C282 r282 h => ?_))
          refine r_callV hK ck_X8_setUp im_X8_setUp sl_X8_setUp ml_RX8_104 (by omega) (c_X8_setUp (l := kL K) (g := g) (Y := Y) (r74) (r282) C282 (wpO_bd h)) cls_8 (k := 95) (by omega) rfl (As := [.int (I (r74)), .int (I (r282))]) (st := []) rfl (Nat.le_of_ble_eq_true rfl) dX8_mends_285 (kkV (fun C285 h => ?_))
          refine r_aload_n hK dX8_mends_288 rfl ?_
          refine r_iload_n hK dX8_mends_289 rfl ?_
          refine r_callV hK ck_X8_usedOf im_X8_usedOf sl_X8_usedOf ml_RX8_174 (by omega) (c_X8_usedOf (l := kL K) (g := g) (Y := Y) (C (102) (a1 - 1).toNat) C285 (wpO_bd h)) cls_8 (k := 95) (by omega) rfl (As := [.int (I (C (102) (a1 - 1).toNat))]) (st := []) rfl (Nat.le_of_ble_eq_true rfl) dX8_mends_290 (kkI (fun C290 r290 h => ?_))
          refine r_aload_n hK dX8_mends_293 rfl ?_
          refine r_iload_n hK dX8_mends_294 rfl ?_
          refine r_iload hK dX8_mends_295 rfl ?_
          refine r_callV hK ck_X8_at im_X8_at sl_X8_at ml_RX8_69 (by omega) (c_X8_at (l := kL K) (g := g) (Y := Y) (C (102) (a1 - 1).toNat) (r83) C290 (wpO_bd h)) cls_8 (k := 95) (by omega) rfl (As := [.int (I (C (102) (a1 - 1).toNat)), .int (I (r83))]) (st := [.int (I (r290))]) rfl (Nat.le_of_ble_eq_true rfl) dX8_mends_297 (kkI (fun C297 r297 h => ?_))
          refine r_isub hK dX8_mends_300 ?_
          refine r_aload_n hK dX8_mends_301 rfl ?_
          refine r_getI (k := 95) hK cls_8 fl_RX8_90 (by decide) (by omega) rfl rfl dX8_mends_302 (mrg_x (by omega)) ?_
          refine r_iadd hK dX8_mends_305 ?_
          refine r_bipush hK dX8_mends_306 (by decide) ?_
          refine r_icmp_gt hK dX8_mends_308 (t := 403) (by decide) (wpO_lt h) (fun h => ?_) (fun h => ?_)
          · refine r_iconst hK dX8_mends_403 ?_
            exact r_ireturn hK hr hQ (nar_b (by decide)) dX8_mends_404 ⟨C297, 0, rfl, rfl, wpO_some h⟩
          · refine r_aload_n hK dX8_mends_311 rfl ?_
            refine r_iload hK dX8_mends_312 rfl ?_
            refine r_iload hK dX8_mends_314 rfl ?_
            refine r_iload hK dX8_mends_316 rfl ?_
            refine r_aload_n hK dX8_mends_318 rfl ?_
            refine r_iload hK dX8_mends_319 rfl ?_
            refine r_iconst hK dX8_mends_321 ?_
            refine r_callV hK ck_X8_at im_X8_at sl_X8_at ml_RX8_69 (by omega) (c_X8_at (l := kL K) (g := g) (Y := Y) (r54) (2) C297 (wpO_bd h)) cls_8 (k := 95) (by omega) rfl (As := [.int (I (r54)), .int (I (2))]) (st := [.int (I (r74)), .int (I (r65)), .int (I (r54)), .ref (gA g 95)]) rfl (Nat.le_of_ble_eq_true rfl) dX8_mends_322 (kkI (fun C322 r322 h => ?_))
            refine r_aload_n hK dX8_mends_325 rfl ?_
            refine r_iload hK dX8_mends_326 rfl ?_
            refine r_iconst hK dX8_mends_328 ?_
            refine r_callV hK ck_X8_at im_X8_at sl_X8_at ml_RX8_69 (by omega) (c_X8_at (l := kL K) (g := g) (Y := Y) (r65) (2) C322 (wpO_bd h)) cls_8 (k := 95) (by omega) rfl (As := [.int (I (r65)), .int (I (2))]) (st := [.int (I (r322)), .int (I (r74)), .int (I (r65)), .int (I (r54)), .ref (gA g 95)]) rfl (Nat.le_of_ble_eq_true rfl) dX8_mends_329 (kkI (fun C329 r329 h => ?_))
            refine r_callV hK ck_X8_share im_X8_share sl_X8_share ml_RX8_153 (by omega) (c_X8_share (l := kL K) (g := g) (Y := Y) (r54) (r65) (r74) (r322) (r329) C329 (wpO_bd h)) cls_8 (k := 95) (by omega) rfl (As := [.int (I (r54)), .int (I (r65)), .int (I (r74)), .int (I (r322)), .int (I (r329))]) (st := []) rfl (Nat.le_of_ble_eq_true rfl) dX8_mends_332 (kkV (fun C332 h => ?_))
            refine r_aload_n hK dX8_mends_335 rfl ?_
            refine r_iconst hK dX8_mends_336 ?_
            refine r_put (k := 95) hK cls_8 fl_RX8_76 (by decide) (by omega) rfl rfl rfl rfl rfl dX8_mends_337 (up_x (by omega)) ?_
            refine r_aload_n hK dX8_mends_340 rfl ?_
            refine r_iload_n hK dX8_mends_341 rfl ?_
            refine r_callV hK ck_X8_comeOut im_X8_comeOut sl_X8_comeOut ml_RX8_143 (by omega) (c_X8_comeOut (l := kL K) (g := g) (Y := Y) (C (102) (a1 - 1).toNat) (up C332 95 6 (0)) (wpO_bd h)) cls_8 (k := 95) (by omega) rfl (As := [.int (I (C (102) (a1 - 1).toNat))]) (st := []) rfl (Nat.le_of_ble_eq_true rfl) dX8_mends_342 (kkV (fun C342 h => ?_))
            refine r_aload_n hK dX8_mends_345 rfl ?_
            refine r_getR (k := 95) (k' := (99)) hK cls_8 fl_RX8_23 (by decide) (by omega) rfl rfl dX8_mends_346 ?_
            refine r_iload hK dX8_mends_349 rfl ?_
            obtain ⟨hb351, h⟩ := wpO_ix h
            refine r_iaload (k := (99)) hK (by omega) rfl (by decide) hb351 dX8_mends_351 (mrg_x (by omega)) ?_
            refine r_istore hK dX8_mends_352 (by rw [hN]; decide) rfl (lv' := [some (.ref (gA g 95)), none, some (.int (I (C (102) (a1 - 1).toNat))), none, some (.int (I (s0_48))), some (.int (I (r54))), some (.int (I (r65))), some (.int (I (r74))), some (.int (I (r83))), some (.int (I (C342 (99) (s0_48).toNat)))]) rfl ?_
            refine r_aload_n hK dX8_mends_354 rfl ?_
            refine r_iload hK dX8_mends_355 rfl ?_
            refine r_callV hK ck_X8_goesOut im_X8_goesOut sl_X8_goesOut ml_RX8_171 (by omega) (c_X8_goesOut (l := kL K) (g := g) (Y := Y) (s0_48) C342 (wpO_bd h)) cls_8 (k := 95) (by omega) rfl (As := [.int (I (s0_48))]) (st := []) rfl (Nat.le_of_ble_eq_true rfl) dX8_mends_357 (kkV (fun C357 h => ?_))
            refine r_aload_n hK dX8_mends_360 rfl ?_
            refine r_iload hK dX8_mends_361 rfl ?_
            refine r_aload_n hK dX8_mends_363 rfl ?_
            refine r_getR (k := 95) (k' := (100)) hK cls_8 fl_RX8_26 (by decide) (by omega) rfl rfl dX8_mends_364 ?_
            refine r_aload_n hK dX8_mends_367 rfl ?_
            refine r_getI (k := 95) hK cls_8 fl_RX8_90 (by decide) (by omega) rfl rfl dX8_mends_368 (mrg_x (by omega)) ?_
            refine r_iload hK dX8_mends_371 rfl ?_
            refine r_callV hK ck_X8_comesIn im_X8_comesIn sl_X8_comesIn ml_RX8_146 (by omega) (c_X8_comesIn (l := kL K) (g := g) (Y := Y) (s0_48) 0 (C357 95 10) (C342 (99) (s0_48).toNat) (by decide) C357 (wpO_bd h)) cls_8 (k := 95) (by omega) rfl (As := [.int (I (s0_48)), .ref (gA g (100)), .int (I (C357 95 10)), .int (I (C342 (99) (s0_48).toNat))]) (st := []) rfl (Nat.le_of_ble_eq_true rfl) dX8_mends_373 (kkV (fun C373 h => ?_))
            refine r_aload_n hK dX8_mends_376 rfl ?_
            refine r_iload_n hK dX8_mends_377 rfl ?_
            refine r_iconst hK dX8_mends_378 ?_
            refine r_aload_n hK dX8_mends_379 rfl ?_
            refine r_iload_n hK dX8_mends_380 rfl ?_
            refine r_iconst hK dX8_mends_381 ?_
            refine r_callV hK ck_X8_at im_X8_at sl_X8_at ml_RX8_69 (by omega) (c_X8_at (l := kL K) (g := g) (Y := Y) (C (102) (a1 - 1).toNat) (2) C373 (wpO_bd h)) cls_8 (k := 95) (by omega) rfl (As := [.int (I (C (102) (a1 - 1).toNat)), .int (I (2))]) (st := [.int (I (2)), .int (I (C (102) (a1 - 1).toNat)), .ref (gA g 95)]) rfl (Nat.le_of_ble_eq_true rfl) dX8_mends_382 (kkI (fun C382 r382 h => ?_))
            refine r_iconst hK dX8_mends_385 ?_
            refine r_aload_n hK dX8_mends_386 rfl ?_
            refine r_getI (k := 95) hK cls_8 fl_RX8_76 (by decide) (by omega) rfl rfl dX8_mends_387 (mrg_x (by omega)) ?_
            refine r_callV hK ck_X8_goBack im_X8_goBack sl_X8_goBack ml_RX8_107 (by omega) (c_X8_goBack (l := kL K) (g := g) (Y := Y) (C (102) (a1 - 1).toNat) (2) (r382) (0) (C382 95 6) C382 (wpO_bd h)) cls_8 (k := 95) (by omega) rfl (As := [.int (I (C (102) (a1 - 1).toNat)), .int (I (2)), .int (I (r382)), .int (I (0)), .int (I (C382 95 6))]) (st := []) rfl (Nat.le_of_ble_eq_true rfl) dX8_mends_390 (kkV (fun C390 h => ?_))
            refine r_aload_n hK dX8_mends_393 rfl ?_
            refine r_dup hK dX8_mends_394 rfl ?_
            refine r_getI (k := 95) hK cls_8 fl_RX8_184 (by decide) (by omega) rfl rfl dX8_mends_395 (mrg_x (by omega)) ?_
            refine r_iconst hK dX8_mends_398 ?_
            refine r_iadd hK dX8_mends_399 ?_
            refine r_put (k := 95) hK cls_8 fl_RX8_184 (by decide) (by omega) rfl rfl rfl rfl rfl dX8_mends_400 (up_x (by omega)) ?_
            refine r_iconst hK dX8_mends_403 ?_
            exact r_ireturn hK hr hQ (nar_b (by decide)) dX8_mends_404 ⟨(up C390 95 5 ((C390 95 5) + 1)), 0, rfl, rfl, wpO_some h⟩
        · refine r_aload_n hK dX8_mends_191 rfl ?_
          refine r_iload hK dX8_mends_192 rfl ?_
          refine r_iload hK dX8_mends_194 rfl ?_
          refine r_iload hK dX8_mends_196 rfl ?_
          refine r_iconst hK dX8_mends_198 ?_
          refine r_jn (J := fun j219 => ∀ (s3_219 : Int) (C_219 : Mem), wpO (j219 s3_219 C_219) Q → Wn K g (mrg Y C_219) 219 [some (.ref (gA g 95)), none, some (.int (I (C (102) (a1 - 1).toNat))), none, some (.int (I (s0_48))), none, some (.int (I (r65))), none, none, none] [.int (I (s3_219)), .int (I (r74)), .int (I (r54)), .ref (gA g 95)]) h ?_ ?_
          · intro s3_219 C_219 h
            refine r_iconst hK dX8_mends_219 ?_
            refine r_aload_n hK dX8_mends_220 rfl ?_
            refine r_getI (k := 95) hK cls_8 fl_RX8_76 (by decide) (by omega) rfl rfl dX8_mends_221 (mrg_x (by omega)) ?_
            refine r_callV hK ck_X8_goBack im_X8_goBack sl_X8_goBack ml_RX8_107 (by omega) (c_X8_goBack (l := kL K) (g := g) (Y := Y) (r54) (r74) (s3_219) (0) (C_219 95 6) C_219 (wpO_bd h)) cls_8 (k := 95) (by omega) rfl (As := [.int (I (r54)), .int (I (r74)), .int (I (s3_219)), .int (I (0)), .int (I (C_219 95 6))]) (st := []) rfl (Nat.le_of_ble_eq_true rfl) dX8_mends_224 (kkV (fun C224 h => ?_))
            refine r_aload_n hK dX8_mends_227 rfl ?_
            refine r_iload hK dX8_mends_228 rfl ?_
            refine r_callV hK ck_X8_clears im_X8_clears sl_X8_clears ml_RX8_79 (by omega) (c_X8_clears (l := kL K) (g := g) (Y := Y) (r65) C224 (wpO_bd h)) cls_8 (k := 95) (by omega) rfl (As := [.int (I (r65))]) (st := []) rfl (Nat.le_of_ble_eq_true rfl) dX8_mends_230 (kkV (fun C230 h => ?_))
            refine r_aload_n hK dX8_mends_233 rfl ?_
            refine r_iconst hK dX8_mends_234 ?_
            refine r_put (k := 95) hK cls_8 fl_RX8_76 (by decide) (by omega) rfl rfl rfl rfl rfl dX8_mends_235 (up_x (by omega)) ?_
            refine r_aload_n hK dX8_mends_238 rfl ?_
            refine r_iload_n hK dX8_mends_239 rfl ?_
            refine r_callV hK ck_X8_comeOut im_X8_comeOut sl_X8_comeOut ml_RX8_143 (by omega) (c_X8_comeOut (l := kL K) (g := g) (Y := Y) (C (102) (a1 - 1).toNat) (up C230 95 6 (0)) (wpO_bd h)) cls_8 (k := 95) (by omega) rfl (As := [.int (I (C (102) (a1 - 1).toNat))]) (st := []) rfl (Nat.le_of_ble_eq_true rfl) dX8_mends_240 (kkV (fun C240 h => ?_))
            refine r_aload_n hK dX8_mends_243 rfl ?_
            refine r_iload hK dX8_mends_244 rfl ?_
            refine r_callV hK ck_X8_goesOut im_X8_goesOut sl_X8_goesOut ml_RX8_171 (by omega) (c_X8_goesOut (l := kL K) (g := g) (Y := Y) (s0_48) C240 (wpO_bd h)) cls_8 (k := 95) (by omega) rfl (As := [.int (I (s0_48))]) (st := []) rfl (Nat.le_of_ble_eq_true rfl) dX8_mends_246 (kkV (fun C246 h => ?_))
            refine r_aload_n hK dX8_mends_249 rfl ?_
            refine r_iload_n hK dX8_mends_250 rfl ?_
            refine r_iconst hK dX8_mends_251 ?_
            refine r_aload_n hK dX8_mends_252 rfl ?_
            refine r_iload_n hK dX8_mends_253 rfl ?_
            refine r_iconst hK dX8_mends_254 ?_
            refine r_callV hK ck_X8_at im_X8_at sl_X8_at ml_RX8_69 (by omega) (c_X8_at (l := kL K) (g := g) (Y := Y) (C (102) (a1 - 1).toNat) (2) C246 (wpO_bd h)) cls_8 (k := 95) (by omega) rfl (As := [.int (I (C (102) (a1 - 1).toNat)), .int (I (2))]) (st := [.int (I (2)), .int (I (C (102) (a1 - 1).toNat)), .ref (gA g 95)]) rfl (Nat.le_of_ble_eq_true rfl) dX8_mends_255 (kkI (fun C255 r255 h => ?_))
            refine r_iconst hK dX8_mends_258 ?_
            refine r_aload_n hK dX8_mends_259 rfl ?_
            refine r_getI (k := 95) hK cls_8 fl_RX8_76 (by decide) (by omega) rfl rfl dX8_mends_260 (mrg_x (by omega)) ?_
            refine r_callV hK ck_X8_goBack im_X8_goBack sl_X8_goBack ml_RX8_107 (by omega) (c_X8_goBack (l := kL K) (g := g) (Y := Y) (C (102) (a1 - 1).toNat) (2) (r255) (0) (C255 95 6) C255 (wpO_bd h)) cls_8 (k := 95) (by omega) rfl (As := [.int (I (C (102) (a1 - 1).toNat)), .int (I (2)), .int (I (r255)), .int (I (0)), .int (I (C255 95 6))]) (st := []) rfl (Nat.le_of_ble_eq_true rfl) dX8_mends_263 (kkV (fun C263 h => ?_))
            refine r_aload_n hK dX8_mends_266 rfl ?_
            refine r_dup hK dX8_mends_267 rfl ?_
            refine r_getI (k := 95) hK cls_8 fl_RX8_181 (by decide) (by omega) rfl rfl dX8_mends_268 (mrg_x (by omega)) ?_
            refine r_iconst hK dX8_mends_271 ?_
            refine r_iadd hK dX8_mends_272 ?_
            refine r_put (k := 95) hK cls_8 fl_RX8_181 (by decide) (by omega) rfl rfl rfl rfl rfl dX8_mends_273 (up_x (by omega)) ?_
            refine r_iconst hK dX8_mends_276 ?_
            exact r_ireturn hK hr hQ (nar_b (by decide)) dX8_mends_277 ⟨(up C263 95 4 ((C263 95 4) + 1)), 1, rfl, rfl, wpO_some h⟩
          · intro hj219 h
            refine r_icmp_ne hK dX8_mends_199 (t := 212) (by decide) (wpO_eq h) (fun h => ?_) (fun h => ?_)
            · refine r_aload_n hK dX8_mends_202 rfl ?_
              refine r_iload hK dX8_mends_203 rfl ?_
              refine r_iconst hK dX8_mends_205 ?_
              refine r_callV hK ck_X8_at im_X8_at sl_X8_at ml_RX8_69 (by omega) (c_X8_at (l := kL K) (g := g) (Y := Y) (r65) (2) C183 (wpO_bd h)) cls_8 (k := 95) (by omega) rfl (As := [.int (I (r65)), .int (I (2))]) (st := [.int (I (r74)), .int (I (r54)), .ref (gA g 95)]) rfl (Nat.le_of_ble_eq_true rfl) dX8_mends_206 (kkI (fun C206 r206 h => ?_))
              refine r_goto hK dX8_mends_209 (t := 219) (by decide) ?_
              refine r_cut [true, false, true, false, true, false, true, false, false, false] (lv' := [some (.ref (gA g 95)), none, some (.int (I (C (102) (a1 - 1).toNat))), none, some (.int (I (s0_48))), none, some (.int (I (r65))), none, none, none]) rfl ?_
              exact hj219 (r206) C206 h
            · refine r_aload_n hK dX8_mends_212 rfl ?_
              refine r_iload hK dX8_mends_213 rfl ?_
              refine r_iconst hK dX8_mends_215 ?_
              refine r_callV hK ck_X8_at im_X8_at sl_X8_at ml_RX8_69 (by omega) (c_X8_at (l := kL K) (g := g) (Y := Y) (r54) (2) C183 (wpO_bd h)) cls_8 (k := 95) (by omega) rfl (As := [.int (I (r54)), .int (I (2))]) (st := [.int (I (r74)), .int (I (r54)), .ref (gA g 95)]) rfl (Nat.le_of_ble_eq_true rfl) dX8_mends_216 (kkI (fun C216 r216 h => ?_))
              refine r_cut [true, false, true, false, true, false, true, false, false, false] (lv' := [some (.ref (gA g 95)), none, some (.int (I (C (102) (a1 - 1).toNat))), none, some (.int (I (s0_48))), none, some (.int (I (r65))), none, none, none]) rfl ?_
              exact hj219 (r216) C216 h
      · intro hj171 h
        refine r_icmp_ne hK dX8_mends_102 (t := 171) (by decide) (wpO_eq h) (fun h => ?_) (fun h => ?_)
        · refine r_iconst hK dX8_mends_105 ?_
          refine r_istore hK dX8_mends_106 (by rw [hN]; decide) rfl (lv' := [some (.ref (gA g 95)), none, some (.int (I (C (102) (a1 - 1).toNat))), none, some (.int (I (s0_48))), some (.int (I (r54))), some (.int (I (r65))), some (.int (I (r74))), some (.int (I (r83))), some (.int (I (0)))]) rfl ?_
          refine w_X8_mends_108 hK hN hr hQ (by omega) (C (102) (a1 - 1).toNat) (s0_48) (r54) (r65) (r74) (r83) _ (fun v9_e108 C_e108 h => ?_) FU (0) C96 h
          refine r_aload_n hK dX8_mends_145 rfl ?_
          refine r_aload_n hK dX8_mends_146 rfl ?_
          refine r_getI (k := 95) hK cls_8 fl_RX8_76 (by decide) (by omega) rfl rfl dX8_mends_147 (mrg_x (by omega)) ?_
          refine r_aload_n hK dX8_mends_150 rfl ?_
          refine r_getR (k := 95) (k' := (100)) hK cls_8 fl_RX8_26 (by decide) (by omega) rfl rfl dX8_mends_151 ?_
          refine r_aload_n hK dX8_mends_154 rfl ?_
          refine r_iload_n hK dX8_mends_155 rfl ?_
          refine r_iload hK dX8_mends_156 rfl ?_
          refine r_callV hK ck_X8_at im_X8_at sl_X8_at ml_RX8_69 (by omega) (c_X8_at (l := kL K) (g := g) (Y := Y) (C (102) (a1 - 1).toNat) (r83) C_e108 (wpO_bd h)) cls_8 (k := 95) (by omega) rfl (As := [.int (I (C (102) (a1 - 1).toNat)), .int (I (r83))]) (st := [.ref (gA g (100)), .int (I (C_e108 95 6)), .ref (gA g 95)]) rfl (Nat.le_of_ble_eq_true rfl) dX8_mends_158 (kkI (fun C158 r158 h => ?_))
          refine r_aload_n hK dX8_mends_161 rfl ?_
          refine r_iload hK dX8_mends_162 rfl ?_
          refine r_iconst hK dX8_mends_164 ?_
          refine r_callV hK ck_X8_at im_X8_at sl_X8_at ml_RX8_69 (by omega) (c_X8_at (l := kL K) (g := g) (Y := Y) (r65) (2) C158 (wpO_bd h)) cls_8 (k := 95) (by omega) rfl (As := [.int (I (r65)), .int (I (2))]) (st := [.int (I (r158)), .ref (gA g (100)), .int (I (C_e108 95 6)), .ref (gA g 95)]) rfl (Nat.le_of_ble_eq_true rfl) dX8_mends_165 (kkI (fun C165 r165 h => ?_))
          refine r_callV hK ck_X8_comesIn im_X8_comesIn sl_X8_comesIn ml_RX8_146 (by omega) (c_X8_comesIn (l := kL K) (g := g) (Y := Y) (C_e108 95 6) 0 (r158) (r165) (by decide) C165 (wpO_bd h)) cls_8 (k := 95) (by omega) rfl (As := [.int (I (C_e108 95 6)), .ref (gA g (100)), .int (I (r158)), .int (I (r165))]) (st := []) rfl (Nat.le_of_ble_eq_true rfl) dX8_mends_168 (kkV (fun C168 h => ?_))
          refine r_cut [true, false, true, false, true, true, true, true, true, false] (lv' := [some (.ref (gA g 95)), none, some (.int (I (C (102) (a1 - 1).toNat))), none, some (.int (I (s0_48))), some (.int (I (r54))), some (.int (I (r65))), some (.int (I (r74))), some (.int (I (r83))), none]) rfl ?_
          exact hj171 C168 h
        · exact hj171 C96 h
    · intro hj48 h
      refine r_icmp_ge hK dX8_mends_31 (t := 45) (by decide) (wpO_lt h) (fun h => ?_) (fun h => ?_)
      · refine r_aload_n hK dX8_mends_34 rfl ?_
        refine r_getR (k := 95) (k' := (103)) hK cls_8 fl_RX8_35 (by decide) (by omega) rfl rfl dX8_mends_35 ?_
        refine r_iload_n hK dX8_mends_38 rfl ?_
        refine r_iconst hK dX8_mends_39 ?_
        refine r_isub hK dX8_mends_40 ?_
        obtain ⟨hb41, h⟩ := wpO_ix h
        refine r_iaload (k := (103)) hK (by omega) rfl (by decide) hb41 dX8_mends_41 (mrg_x (by omega)) ?_
        refine r_goto hK dX8_mends_42 (t := 48) (by decide) ?_
        refine r_cut [true, false, true, false, false, false, false, false, false, false] (lv' := [some (.ref (gA g 95)), none, some (.int (I (C (102) (a1 - 1).toNat))), none, none, none, none, none, none, none]) rfl ?_
        exact hj48 (C12 (103) (a1 - 1).toNat) h
      · refine r_iload_n hK dX8_mends_45 rfl ?_
        refine r_iconst hK dX8_mends_46 ?_
        refine r_isub hK dX8_mends_47 ?_
        refine r_cut [true, false, true, false, false, false, false, false, false, false] (lv' := [some (.ref (gA g 95)), none, some (.int (I (C (102) (a1 - 1).toNat))), none, none, none, none, none, none, none]) rfl ?_
        exact hj48 (r12 - 1) h
set_option maxRecDepth 100000 in
set_option maxHeartbeats 4000000 in
theorem w_X8_takeKey_81 {K : KT} {g : GT} {Y : Mem} {dd : Nat} (hK : Kok K g cX8_takeKey RX8 dd) (hN : kN K = 6) (hr : (kMe K).sig.returnType = (some .int)) {Q : Mem → Int → Prop} (hQ : kQ K = MQ (kB K) (Qc g (QI (fun c => mrg Y c) Q)) (kA K) (kS K) (kc K) (ks K) (gS g)) (hdd : 5 ≤ dd) (u4 : Int) (k : Int → Mem → Option (Mem × Int)) (hk : ∀ (v1 : Int) (C : Mem), wpO (k v1 C) Q → Wn K g (mrg Y C) 114 [some (.ref (gA g 95)), some (.int (I (v1))), none, none, some (.int (I (u4))), none] []) : ∀ (n : Nat) (v1 : Int) (C : Mem), wpO (f_X8_takeKey_81 u4 k n v1 C) Q → Wn K g (mrg Y C) 81 [some (.ref (gA g 95)), some (.int (I (v1))), none, none, some (.int (I (u4))), none] [] := by
  intro n
  induction n with
  | zero => intro v1 C h; exact (wpO_none h).elim
  | succ n ih =>
    intro v1 C h
    unfold f_X8_takeKey_81 at h
    refine r_iload_n hK dX8_takeKey_81 rfl ?_
    refine r_if_le hK dX8_takeKey_82 (t := 114) (by decide) (wpO_lt h) (fun h => ?_) (fun h => ?_)
    · refine r_aload_n hK dX8_takeKey_85 rfl ?_
      refine r_aload_n hK dX8_takeKey_86 rfl ?_
      refine r_getR (k := 95) (k' := (102)) hK cls_8 fl_RX8_32 (by decide) (by omega) rfl rfl dX8_takeKey_87 ?_
      refine r_iload_n hK dX8_takeKey_90 rfl ?_
      obtain ⟨hb91, h⟩ := wpO_ix h
      refine r_iaload (k := (102)) hK (by omega) rfl (by decide) hb91 dX8_takeKey_91 (mrg_x (by omega)) ?_
      refine r_callV hK ck_X8_usedOf im_X8_usedOf sl_X8_usedOf ml_RX8_174 (by omega) (c_X8_usedOf (l := kL K) (g := g) (Y := Y) (C (102) (v1).toNat) C (wpO_bd h)) cls_8 (k := 95) (by omega) rfl (As := [.int (I (C (102) (v1).toNat))]) (st := []) rfl (Nat.le_of_ble_eq_true rfl) dX8_takeKey_92 (kkI (fun C92 r92 h => ?_))
      refine r_bipush hK dX8_takeKey_95 (by decide) ?_
      refine r_icmp_ge hK dX8_takeKey_97 (t := 114) (by decide) (wpO_lt h) (fun h => ?_) (fun h => ?_)
      · refine r_aload_n hK dX8_takeKey_100 rfl ?_
        refine r_iload_n hK dX8_takeKey_101 rfl ?_
        refine r_callV hK ck_X8_mends im_X8_mends sl_X8_mends ml_RX8_177 (by omega) (c_X8_mends (l := kL K) (g := g) (Y := Y) (v1) C92 (wpO_bd h)) cls_8 (k := 95) (by omega) rfl (As := [.int (I (v1))]) (st := []) rfl (Nat.le_of_ble_eq_true rfl) dX8_takeKey_102 (kkI (fun C102 r102 h => ?_))
        refine r_if_eq hK dX8_takeKey_105 (t := 114) (by decide) (wpO_eq h) (fun h => ?_) (fun h => ?_)
        · exact hk (v1) C102 h
        · refine r_iinc hK dX8_takeKey_108 (by rw [hN]; decide) rfl rfl (lv' := [some (.ref (gA g 95)), some (.int (I (v1 + (-1)))), none, none, some (.int (I (u4))), none]) rfl ?_
          refine r_goto hK dX8_takeKey_111 (t := 81) (by decide) ?_
          exact ih (v1 + (-1)) C102 h
      · exact hk (v1) C92 h
    · exact hk (v1) C h
set_option maxRecDepth 100000 in
set_option maxHeartbeats 4000000 in
theorem c_X8_takeKey {l : Launch} {g : GT} {Y : Mem} {Q : Mem → Int → Prop} (C : Mem) (h : wpO (f_X8_takeKey C) Q) : MetC l yX8_takeKey cX8_takeKey 6 (some .int) 5 g [.ref (gA g 95)] (mrg Y C) (QI (fun c => mrg Y c) Q) := by
  refine met_at 5 (lv := [some (.ref (gA g 95)), none, none, none, none, none]) (by decide) (Nat.le_of_ble_eq_true rfl) rfl rfl (fun K hK hN hr hQ => ?_)
  unfold f_X8_takeKey at h
  refine r_aload_n hK dX8_takeKey_0 rfl ?_
  refine r_callV hK ck_X8_goesDown im_X8_goesDown sl_X8_goesDown ml_RX8_127 (by omega) (c_X8_goesDown (l := kL K) (g := g) (Y := Y) C (wpO_bd h)) cls_8 (k := 95) (by omega) rfl (As := []) (st := []) rfl (Nat.le_of_ble_eq_true rfl) dX8_takeKey_1 (kkV (fun C1 h => ?_))
  refine r_aload_n hK dX8_takeKey_4 rfl ?_
  refine r_getI (k := 95) hK cls_8 fl_RX8_13 (by decide) (by omega) rfl rfl dX8_takeKey_5 (mrg_x (by omega)) ?_
  refine r_iconst hK dX8_takeKey_8 ?_
  refine r_isub hK dX8_takeKey_9 ?_
  refine r_istore_n hK dX8_takeKey_10 (by rw [hN]; decide) rfl (lv' := [some (.ref (gA g 95)), some (.int (I ((C1 95 2) - 1))), none, none, none, none]) rfl ?_
  refine r_aload_n hK dX8_takeKey_11 rfl ?_
  refine r_getR (k := 95) (k' := (102)) hK cls_8 fl_RX8_32 (by decide) (by omega) rfl rfl dX8_takeKey_12 ?_
  refine r_iload_n hK dX8_takeKey_15 rfl ?_
  obtain ⟨hb16, h⟩ := wpO_ix h
  refine r_iaload (k := (102)) hK (by omega) rfl (by decide) hb16 dX8_takeKey_16 (mrg_x (by omega)) ?_
  refine r_istore_n hK dX8_takeKey_17 (by rw [hN]; decide) rfl (lv' := [some (.ref (gA g 95)), some (.int (I ((C1 95 2) - 1))), some (.int (I (C1 (102) ((C1 95 2) - 1).toNat))), none, none, none]) rfl ?_
  refine r_aload_n hK dX8_takeKey_18 rfl ?_
  refine r_iload_n hK dX8_takeKey_19 rfl ?_
  refine r_callV hK ck_X8_placeIn im_X8_placeIn sl_X8_placeIn ml_RX8_130 (by omega) (c_X8_placeIn (l := kL K) (g := g) (Y := Y) (C1 (102) ((C1 95 2) - 1).toNat) C1 (wpO_bd h)) cls_8 (k := 95) (by omega) rfl (As := [.int (I (C1 (102) ((C1 95 2) - 1).toNat))]) (st := []) rfl (Nat.le_of_ble_eq_true rfl) dX8_takeKey_20 (kkI (fun C20 r20 h => ?_))
  refine r_istore_n hK dX8_takeKey_23 (by rw [hN]; decide) rfl (lv' := [some (.ref (gA g 95)), some (.int (I ((C1 95 2) - 1))), some (.int (I (C1 (102) ((C1 95 2) - 1).toNat))), some (.int (I (r20))), none, none]) rfl ?_
  refine r_aload_n hK dX8_takeKey_24 rfl ?_
  refine r_iload_n hK dX8_takeKey_25 rfl ?_
  refine r_iload_n hK dX8_takeKey_26 rfl ?_
  refine r_callV hK ck_X8_isAt im_X8_isAt sl_X8_isAt ml_RX8_133 (by omega) (c_X8_isAt (l := kL K) (g := g) (Y := Y) (C1 (102) ((C1 95 2) - 1).toNat) (r20) C20 (wpO_bd h)) cls_8 (k := 95) (by omega) rfl (As := [.int (I (C1 (102) ((C1 95 2) - 1).toNat)), .int (I (r20))]) (st := []) rfl (Nat.le_of_ble_eq_true rfl) dX8_takeKey_27 (kkI (fun C27 r27 h => ?_))
  refine r_if_ne hK dX8_takeKey_30 (t := 36) (by decide) (wpO_eq h) (fun h => ?_) (fun h => ?_)
  · refine r_bipush hK dX8_takeKey_33 (by decide) ?_
    exact r_ireturn hK hr hQ rfl dX8_takeKey_35 ⟨C27, (-9), rfl, rfl, wpO_some h⟩
  · refine r_aload_n hK dX8_takeKey_36 rfl ?_
    refine r_getR (k := 95) (k' := (96)) hK cls_8 fl_RX8_7 (by decide) (by omega) rfl rfl dX8_takeKey_37 ?_
    refine r_aload_n hK dX8_takeKey_40 rfl ?_
    refine r_iload_n hK dX8_takeKey_41 rfl ?_
    refine r_iload_n hK dX8_takeKey_42 rfl ?_
    refine r_callV hK ck_X8_tellAt im_X8_tellAt sl_X8_tellAt ml_RX8_137 (by omega) (c_X8_tellAt (l := kL K) (g := g) (Y := Y) (C1 (102) ((C1 95 2) - 1).toNat) (r20) C27 (wpO_bd h)) cls_8 (k := 95) (by omega) rfl (As := [.int (I (C1 (102) ((C1 95 2) - 1).toNat)), .int (I (r20))]) (st := [.ref (gA g (96))]) rfl (Nat.le_of_ble_eq_true rfl) dX8_takeKey_43 (kkI (fun C43 r43 h => ?_))
    obtain ⟨hb46, h⟩ := wpO_ix h
    refine r_iaload (k := (96)) hK (by omega) rfl (by decide) hb46 dX8_takeKey_46 (mrg_x (by omega)) ?_
    refine r_istore hK dX8_takeKey_47 (by rw [hN]; decide) rfl (lv' := [some (.ref (gA g 95)), some (.int (I ((C1 95 2) - 1))), some (.int (I (C1 (102) ((C1 95 2) - 1).toNat))), some (.int (I (r20))), some (.int (I (C43 (96) (r43).toNat))), none]) rfl ?_
    refine r_aload_n hK dX8_takeKey_49 rfl ?_
    refine r_iconst hK dX8_takeKey_50 ?_
    refine r_put (k := 95) hK cls_8 fl_RX8_76 (by decide) (by omega) rfl rfl rfl rfl rfl dX8_takeKey_51 (up_x (by omega)) ?_
    refine r_aload_n hK dX8_takeKey_54 rfl ?_
    refine r_iload_n hK dX8_takeKey_55 rfl ?_
    refine r_callV hK ck_X8_comeOut im_X8_comeOut sl_X8_comeOut ml_RX8_143 (by omega) (c_X8_comeOut (l := kL K) (g := g) (Y := Y) (C1 (102) ((C1 95 2) - 1).toNat) (up C43 95 6 (0)) (wpO_bd h)) cls_8 (k := 95) (by omega) rfl (As := [.int (I (C1 (102) ((C1 95 2) - 1).toNat))]) (st := []) rfl (Nat.le_of_ble_eq_true rfl) dX8_takeKey_56 (kkV (fun C56 h => ?_))
    refine r_aload_n hK dX8_takeKey_59 rfl ?_
    refine r_iload_n hK dX8_takeKey_60 rfl ?_
    refine r_callV hK ck_X8_goesOut im_X8_goesOut sl_X8_goesOut ml_RX8_171 (by omega) (c_X8_goesOut (l := kL K) (g := g) (Y := Y) (r20) C56 (wpO_bd h)) cls_8 (k := 95) (by omega) rfl (As := [.int (I (r20))]) (st := []) rfl (Nat.le_of_ble_eq_true rfl) dX8_takeKey_61 (kkV (fun C61 h => ?_))
    refine r_aload_n hK dX8_takeKey_64 rfl ?_
    refine r_iload_n hK dX8_takeKey_65 rfl ?_
    refine r_iconst hK dX8_takeKey_66 ?_
    refine r_aload_n hK dX8_takeKey_67 rfl ?_
    refine r_iload_n hK dX8_takeKey_68 rfl ?_
    refine r_iconst hK dX8_takeKey_69 ?_
    refine r_callV hK ck_X8_at im_X8_at sl_X8_at ml_RX8_69 (by omega) (c_X8_at (l := kL K) (g := g) (Y := Y) (C1 (102) ((C1 95 2) - 1).toNat) (2) C61 (wpO_bd h)) cls_8 (k := 95) (by omega) rfl (As := [.int (I (C1 (102) ((C1 95 2) - 1).toNat)), .int (I (2))]) (st := [.int (I (1)), .int (I (C1 (102) ((C1 95 2) - 1).toNat)), .ref (gA g 95)]) rfl (Nat.le_of_ble_eq_true rfl) dX8_takeKey_70 (kkI (fun C70 r70 h => ?_))
    refine r_iconst hK dX8_takeKey_73 ?_
    refine r_aload_n hK dX8_takeKey_74 rfl ?_
    refine r_getI (k := 95) hK cls_8 fl_RX8_76 (by decide) (by omega) rfl rfl dX8_takeKey_75 (mrg_x (by omega)) ?_
    refine r_callV hK ck_X8_goBack im_X8_goBack sl_X8_goBack ml_RX8_107 (by omega) (c_X8_goBack (l := kL K) (g := g) (Y := Y) (C1 (102) ((C1 95 2) - 1).toNat) (1) (r70) (0) (C70 95 6) C70 (wpO_bd h)) cls_8 (k := 95) (by omega) rfl (As := [.int (I (C1 (102) ((C1 95 2) - 1).toNat)), .int (I (1)), .int (I (r70)), .int (I (0)), .int (I (C70 95 6))]) (st := []) rfl (Nat.le_of_ble_eq_true rfl) dX8_takeKey_78 (kkV (fun C78 h => ?_))
    refine r_cut [true, true, false, false, true, false] (lv' := [some (.ref (gA g 95)), some (.int (I ((C1 95 2) - 1))), none, none, some (.int (I (C43 (96) (r43).toNat))), none]) rfl ?_
    refine w_X8_takeKey_81 hK hN hr hQ (by omega) (C43 (96) (r43).toNat) _ (fun v1_e81 C_e81 h => ?_) FU ((C1 95 2) - 1) C78 h
    refine r_aload_n hK dX8_takeKey_114 rfl ?_
    refine r_aload_n hK dX8_takeKey_115 rfl ?_
    refine r_getI (k := 95) hK cls_8 fl_RX8_118 (by decide) (by omega) rfl rfl dX8_takeKey_116 (mrg_x (by omega)) ?_
    refine r_iconst hK dX8_takeKey_119 ?_
    refine r_callV hK ck_X8_at im_X8_at sl_X8_at ml_RX8_69 (by omega) (c_X8_at (l := kL K) (g := g) (Y := Y) (C_e81 95 1) (0) C_e81 (wpO_bd h)) cls_8 (k := 95) (by omega) rfl (As := [.int (I (C_e81 95 1)), .int (I (0))]) (st := []) rfl (Nat.le_of_ble_eq_true rfl) dX8_takeKey_120 (kkI (fun C120 r120 h => ?_))
    refine r_iconst hK dX8_takeKey_123 ?_
    refine r_icmp_ne hK dX8_takeKey_124 (t := 172) (by decide) (wpO_eq h) (fun h => ?_) (fun h => ?_)
    · refine r_aload_n hK dX8_takeKey_127 rfl ?_
      refine r_aload_n hK dX8_takeKey_128 rfl ?_
      refine r_getI (k := 95) hK cls_8 fl_RX8_118 (by decide) (by omega) rfl rfl dX8_takeKey_129 (mrg_x (by omega)) ?_
      refine r_iconst hK dX8_takeKey_132 ?_
      refine r_callV hK ck_X8_at im_X8_at sl_X8_at ml_RX8_69 (by omega) (c_X8_at (l := kL K) (g := g) (Y := Y) (C120 95 1) (1) C120 (wpO_bd h)) cls_8 (k := 95) (by omega) rfl (As := [.int (I (C120 95 1)), .int (I (1))]) (st := []) rfl (Nat.le_of_ble_eq_true rfl) dX8_takeKey_133 (kkI (fun C133 r133 h => ?_))
      refine r_if_ne hK dX8_takeKey_136 (t := 172) (by decide) (wpO_eq h) (fun h => ?_) (fun h => ?_)
      · refine r_aload_n hK dX8_takeKey_139 rfl ?_
        refine r_getI (k := 95) hK cls_8 fl_RX8_118 (by decide) (by omega) rfl rfl dX8_takeKey_140 (mrg_x (by omega)) ?_
        refine r_istore hK dX8_takeKey_143 (by rw [hN]; decide) rfl (lv' := [some (.ref (gA g 95)), some (.int (I (v1_e81))), none, none, some (.int (I (C43 (96) (r43).toNat))), some (.int (I (C133 95 1)))]) rfl ?_
        refine r_aload_n hK dX8_takeKey_145 rfl ?_
        refine r_aload_n hK dX8_takeKey_146 rfl ?_
        refine r_iload hK dX8_takeKey_147 rfl ?_
        refine r_iconst hK dX8_takeKey_149 ?_
        refine r_callV hK ck_X8_at im_X8_at sl_X8_at ml_RX8_69 (by omega) (c_X8_at (l := kL K) (g := g) (Y := Y) (C133 95 1) (2) C133 (wpO_bd h)) cls_8 (k := 95) (by omega) rfl (As := [.int (I (C133 95 1)), .int (I (2))]) (st := [.ref (gA g 95)]) rfl (Nat.le_of_ble_eq_true rfl) dX8_takeKey_150 (kkI (fun C150 r150 h => ?_))
        refine r_put (k := 95) hK cls_8 fl_RX8_118 (by decide) (by omega) rfl rfl rfl rfl rfl dX8_takeKey_153 (up_x (by omega)) ?_
        refine r_aload_n hK dX8_takeKey_156 rfl ?_
        refine r_iload hK dX8_takeKey_157 rfl ?_
        refine r_callV hK ck_X8_clears im_X8_clears sl_X8_clears ml_RX8_79 (by omega) (c_X8_clears (l := kL K) (g := g) (Y := Y) (C133 95 1) (up C150 95 1 (r150)) (wpO_bd h)) cls_8 (k := 95) (by omega) rfl (As := [.int (I (C133 95 1))]) (st := []) rfl (Nat.le_of_ble_eq_true rfl) dX8_takeKey_159 (kkV (fun C159 h => ?_))
        refine r_aload_n hK dX8_takeKey_162 rfl ?_
        refine r_dup hK dX8_takeKey_163 rfl ?_
        refine r_getI (k := 95) hK cls_8 fl_RX8_13 (by decide) (by omega) rfl rfl dX8_takeKey_164 (mrg_x (by omega)) ?_
        refine r_iconst hK dX8_takeKey_167 ?_
        refine r_isub hK dX8_takeKey_168 ?_
        refine r_put (k := 95) hK cls_8 fl_RX8_13 (by decide) (by omega) rfl rfl rfl rfl rfl dX8_takeKey_169 (up_x (by omega)) ?_
        refine r_iload hK dX8_takeKey_172 rfl ?_
        exact r_ireturn hK hr hQ rfl dX8_takeKey_174 ⟨(up C159 95 2 ((C159 95 2) - 1)), (C43 (96) (r43).toNat), rfl, rfl, wpO_some h⟩
      · refine r_iload hK dX8_takeKey_172 rfl ?_
        exact r_ireturn hK hr hQ rfl dX8_takeKey_174 ⟨C133, (C43 (96) (r43).toNat), rfl, rfl, wpO_some h⟩
    · refine r_iload hK dX8_takeKey_172 rfl ?_
      exact r_ireturn hK hr hQ rfl dX8_takeKey_174 ⟨C120, (C43 (96) (r43).toNat), rfl, rfl, wpO_some h⟩
set_option maxRecDepth 100000 in
set_option maxHeartbeats 4000000 in
theorem c_X8_take {l : Launch} {g : GT} {Y : Mem} {Q : Mem → Int → Prop} (a1 : Int) (a2 : Int) (C : Mem) (h : wpO (f_X8_take a1 a2 C) Q) : MetC l yX8_take cX8_take 3 (some .int) 6 g [.ref (gA g 95), .int (I (a1)), .int (I (a2))] (mrg Y C) (QI (fun c => mrg Y c) Q) := by
  refine met_at 0 (lv := [some (.ref (gA g 95)), some (.int (I (a1))), some (.int (I (a2)))]) (by decide) (Nat.le_of_ble_eq_true rfl) rfl rfl (fun K hK hN hr hQ => ?_)
  unfold f_X8_take at h
  refine r_iload_n hK dX8_take_0 rfl ?_
  refine r_iload_n hK dX8_take_1 rfl ?_
  refine r_callS hK ck_X8_isSpelled sc_X8_isSpelled ml_RX8_162 (by omega) (c_X8_isSpelled (l := kL K) (g := g) (Y := Y) (a1) (a2) C (wpO_bd h)) (As := [.int (I (a1)), .int (I (a2))]) (st := []) rfl (Nat.le_of_ble_eq_true rfl) dX8_take_2 (kkI (fun C2 r2 h => ?_))
  refine r_if_ne hK dX8_take_5 (t := 10) (by decide) (wpO_eq h) (fun h => ?_) (fun h => ?_)
  · refine r_iconst hK dX8_take_8 ?_
    exact r_ireturn hK hr hQ rfl dX8_take_9 ⟨C2, (-1), rfl, rfl, wpO_some h⟩
  · refine r_aload_n hK dX8_take_10 rfl ?_
    refine r_iload_n hK dX8_take_11 rfl ?_
    refine r_iload_n hK dX8_take_12 rfl ?_
    refine r_callV hK ck_X8_spells im_X8_spells sl_X8_spells ml_RX8_165 (by omega) (c_X8_spells (l := kL K) (g := g) (Y := Y) (a1) (a2) C2 (wpO_bd h)) cls_8 (k := 95) (by omega) rfl (As := [.int (I (a1)), .int (I (a2))]) (st := []) rfl (Nat.le_of_ble_eq_true rfl) dX8_take_13 (kkV (fun C13 h => ?_))
    refine r_aload_n hK dX8_take_16 rfl ?_
    refine r_callV hK ck_X8_takeKey im_X8_takeKey sl_X8_takeKey ml_RX8_187 (by omega) (c_X8_takeKey (l := kL K) (g := g) (Y := Y) C13 (wpO_bd h)) cls_8 (k := 95) (by omega) rfl (As := []) (st := []) rfl (Nat.le_of_ble_eq_true rfl) dX8_take_17 (kkI (fun C17 r17 h => ?_))
    exact r_ireturn hK hr hQ rfl dX8_take_20 ⟨C17, r17, rfl, rfl, wpO_some h⟩
set_option maxRecDepth 100000 in
set_option maxHeartbeats 4000000 in
theorem c_X8_isLoad {l : Launch} {g : GT} {Y : Mem} {Q : Mem → Int → Prop} (a0 : Int) (a1 : Int) (a2 : Int) (C : Mem) (h : wpO (f_X8_isLoad a0 a1 a2 C) Q) : MetC l yX8_isLoad cX8_isLoad 3 (some .boolean) 2 g [.int (I (a0)), .int (I (a1)), .int (I (a2))] (mrg Y C) (QI (fun c => mrg Y c) Q) := by
  refine met_at 0 (lv := [some (.int (I (a0))), some (.int (I (a1))), some (.int (I (a2)))]) (by decide) (Nat.le_of_ble_eq_true rfl) rfl rfl (fun K hK hN hr hQ => ?_)
  unfold f_X8_isLoad at h
  refine r_iload_n hK dX8_isLoad_0 rfl ?_
  refine r_iconst hK dX8_isLoad_1 ?_
  refine r_sipush hK dX8_isLoad_2 (by decide) ?_
  refine r_callS hK ck_X8_in sc_X8_in ml_RX8_114 (by omega) (c_X8_in (l := kL K) (g := g) (Y := Y) (a0) (0) (17575) C (wpO_bd h)) (As := [.int (I (a0)), .int (I (0)), .int (I (17575))]) (st := []) rfl (Nat.le_of_ble_eq_true rfl) dX8_isLoad_5 (kkI (fun C5 r5 h => ?_))
  refine r_if_eq hK dX8_isLoad_8 (t := 48) (by decide) (wpO_eq h) (fun h => ?_) (fun h => ?_)
  · refine r_iconst hK dX8_isLoad_48 ?_
    exact r_ireturn hK hr hQ (nar_b (by decide)) dX8_isLoad_49 ⟨C5, 0, rfl, rfl, wpO_some h⟩
  · refine r_iload_n hK dX8_isLoad_11 rfl ?_
    refine r_iconst hK dX8_isLoad_12 ?_
    refine r_bipush hK dX8_isLoad_13 (by decide) ?_
    refine r_callS hK ck_X8_in sc_X8_in ml_RX8_114 (by omega) (c_X8_in (l := kL K) (g := g) (Y := Y) (a1) (1) (99) C5 (wpO_bd h)) (As := [.int (I (a1)), .int (I (1)), .int (I (99))]) (st := []) rfl (Nat.le_of_ble_eq_true rfl) dX8_isLoad_15 (kkI (fun C15 r15 h => ?_))
    refine r_if_eq hK dX8_isLoad_18 (t := 48) (by decide) (wpO_eq h) (fun h => ?_) (fun h => ?_)
    · refine r_iconst hK dX8_isLoad_48 ?_
      exact r_ireturn hK hr hQ (nar_b (by decide)) dX8_isLoad_49 ⟨C15, 0, rfl, rfl, wpO_some h⟩
    · refine r_iload_n hK dX8_isLoad_21 rfl ?_
      refine r_iconst hK dX8_isLoad_22 ?_
      refine r_bipush hK dX8_isLoad_23 (by decide) ?_
      refine r_callS hK ck_X8_in sc_X8_in ml_RX8_114 (by omega) (c_X8_in (l := kL K) (g := g) (Y := Y) (a2) (1) (60) C15 (wpO_bd h)) (As := [.int (I (a2)), .int (I (1)), .int (I (60))]) (st := []) rfl (Nat.le_of_ble_eq_true rfl) dX8_isLoad_25 (kkI (fun C25 r25 h => ?_))
      refine r_if_eq hK dX8_isLoad_28 (t := 48) (by decide) (wpO_eq h) (fun h => ?_) (fun h => ?_)
      · refine r_iconst hK dX8_isLoad_48 ?_
        exact r_ireturn hK hr hQ (nar_b (by decide)) dX8_isLoad_49 ⟨C25, 0, rfl, rfl, wpO_some h⟩
      · refine r_iload_n hK dX8_isLoad_31 rfl ?_
        refine r_iload_n hK dX8_isLoad_32 rfl ?_
        refine r_iload_n hK dX8_isLoad_33 rfl ?_
        refine r_iconst hK dX8_isLoad_34 ?_
        refine r_isub hK dX8_isLoad_35 ?_
        refine r_imul hK dX8_isLoad_36 ?_
        refine r_iadd hK dX8_isLoad_37 ?_
        refine r_sipush hK dX8_isLoad_38 (by decide) ?_
        refine r_icmp_gt hK dX8_isLoad_41 (t := 48) (by decide) (wpO_lt h) (fun h => ?_) (fun h => ?_)
        · refine r_iconst hK dX8_isLoad_48 ?_
          exact r_ireturn hK hr hQ (nar_b (by decide)) dX8_isLoad_49 ⟨C25, 0, rfl, rfl, wpO_some h⟩
        · refine r_iconst hK dX8_isLoad_44 ?_
          refine r_goto hK dX8_isLoad_45 (t := 49) (by decide) ?_
          exact r_ireturn hK hr hQ (nar_b (by decide)) dX8_isLoad_49 ⟨C25, 1, rfl, rfl, wpO_some h⟩
set_option maxRecDepth 100000 in
set_option maxHeartbeats 4000000 in
theorem w_X8_loadsInner_24 {K : KT} {g : GT} {Y : Mem} {dd : Nat} (hK : Kok K g cX8_loadsInner RX8 dd) (hN : kN K = 4) (hr : (kMe K).sig.returnType = none) {Q : Mem → Int → Prop} (hQ : kQ K = MQ (kB K) (Qc g (QV (fun c => mrg Y c) Q)) (kA K) (kS K) (kc K) (ks K) (gS g)) (hdd : 3 ≤ dd) (u1 : Int) (k : Int → Mem → Option (Mem × Int)) (hk : ∀ (v2 : Int) (C : Mem), wpO (k v2 C) Q → Wn K g (mrg Y C) 112 [some (.ref (gA g 95)), some (.int (I (u1))), some (.int (I (v2))), none] []) : ∀ (n : Nat) (v2 : Int) (C : Mem), wpO (f_X8_loadsInner_24 u1 k n v2 C) Q → Wn K g (mrg Y C) 24 [some (.ref (gA g 95)), some (.int (I (u1))), some (.int (I (v2))), none] [] := by
  intro n
  induction n with
  | zero => intro v2 C h; exact (wpO_none h).elim
  | succ n ih =>
    intro v2 C h
    unfold f_X8_loadsInner_24 at h
    refine r_iload_n hK dX8_loadsInner_24 rfl ?_
    refine r_iload_n hK dX8_loadsInner_25 rfl ?_
    refine r_icmp_ge hK dX8_loadsInner_26 (t := 112) (by decide) (wpO_lt h) (fun h => ?_) (fun h => ?_)
    · refine r_aload_n hK dX8_loadsInner_29 rfl ?_
      refine r_iconst hK dX8_loadsInner_30 ?_
      refine r_put (k := 95) hK cls_8 fl_RX8_76 (by decide) (by omega) rfl rfl rfl rfl rfl dX8_loadsInner_31 (up_x (by omega)) ?_
      refine r_aload_n hK dX8_loadsInner_34 rfl ?_
      refine r_iload_n hK dX8_loadsInner_35 rfl ?_
      refine r_iconst hK dX8_loadsInner_36 ?_
      refine r_isub hK dX8_loadsInner_37 ?_
      refine r_callV hK ck_X8_comeOut im_X8_comeOut sl_X8_comeOut ml_RX8_143 (by omega) (c_X8_comeOut (l := kL K) (g := g) (Y := Y) (v2 - 1) (up C 95 6 (0)) (wpO_bd h)) cls_8 (k := 95) (by omega) rfl (As := [.int (I (v2 - 1))]) (st := []) rfl (Nat.le_of_ble_eq_true rfl) dX8_loadsInner_38 (kkV (fun C38 h => ?_))
      refine r_aload_n hK dX8_loadsInner_41 rfl ?_
      refine r_getI (k := 95) hK cls_8 fl_RX8_76 (by decide) (by omega) rfl rfl dX8_loadsInner_42 (mrg_x (by omega)) ?_
      refine r_istore_n hK dX8_loadsInner_45 (by rw [hN]; decide) rfl (lv' := [some (.ref (gA g 95)), some (.int (I (u1))), some (.int (I (v2))), some (.int (I (C38 95 6)))]) rfl ?_
      refine r_aload_n hK dX8_loadsInner_46 rfl ?_
      refine r_iload_n hK dX8_loadsInner_47 rfl ?_
      refine r_callV hK ck_X8_comeOut im_X8_comeOut sl_X8_comeOut ml_RX8_143 (by omega) (c_X8_comeOut (l := kL K) (g := g) (Y := Y) (v2) C38 (wpO_bd h)) cls_8 (k := 95) (by omega) rfl (As := [.int (I (v2))]) (st := []) rfl (Nat.le_of_ble_eq_true rfl) dX8_loadsInner_48 (kkV (fun C48 h => ?_))
      refine r_aload_n hK dX8_loadsInner_51 rfl ?_
      refine r_iload_n hK dX8_loadsInner_52 rfl ?_
      refine r_aload_n hK dX8_loadsInner_53 rfl ?_
      refine r_iload_n hK dX8_loadsInner_54 rfl ?_
      refine r_callV hK ck_X8_shortest im_X8_shortest sl_X8_shortest ml_RX8_93 (by omega) (c_X8_shortest (l := kL K) (g := g) (Y := Y) (C38 95 6) C48 (wpO_bd h)) cls_8 (k := 95) (by omega) rfl (As := [.int (I (C38 95 6))]) (st := [.int (I (C38 95 6)), .ref (gA g 95)]) rfl (Nat.le_of_ble_eq_true rfl) dX8_loadsInner_55 (kkI (fun C55 r55 h => ?_))
      refine r_callV hK ck_X8_goesUp im_X8_goesUp sl_X8_goesUp ml_RX8_97 (by omega) (c_X8_goesUp (l := kL K) (g := g) (Y := Y) (C38 95 6) (r55) C55 (wpO_bd h)) cls_8 (k := 95) (by omega) rfl (As := [.int (I (C38 95 6)), .int (I (r55))]) (st := []) rfl (Nat.le_of_ble_eq_true rfl) dX8_loadsInner_58 (kkV (fun C58 h => ?_))
      refine r_aload_n hK dX8_loadsInner_61 rfl ?_
      refine r_iconst hK dX8_loadsInner_62 ?_
      refine r_put (k := 95) hK cls_8 fl_RX8_76 (by decide) (by omega) rfl rfl rfl rfl rfl dX8_loadsInner_63 (up_x (by omega)) ?_
      refine r_aload_n hK dX8_loadsInner_66 rfl ?_
      refine r_aload_n hK dX8_loadsInner_67 rfl ?_
      refine r_getI (k := 95) hK cls_8 fl_RX8_118 (by decide) (by omega) rfl rfl dX8_loadsInner_68 (mrg_x (by omega)) ?_
      refine r_callV hK ck_X8_comeOut im_X8_comeOut sl_X8_comeOut ml_RX8_143 (by omega) (c_X8_comeOut (l := kL K) (g := g) (Y := Y) ((up C58 95 6 (0)) 95 1) (up C58 95 6 (0)) (wpO_bd h)) cls_8 (k := 95) (by omega) rfl (As := [.int (I ((up C58 95 6 (0)) 95 1))]) (st := []) rfl (Nat.le_of_ble_eq_true rfl) dX8_loadsInner_71 (kkV (fun C71 h => ?_))
      refine r_aload_n hK dX8_loadsInner_74 rfl ?_
      refine r_aload_n hK dX8_loadsInner_75 rfl ?_
      refine r_getI (k := 95) hK cls_8 fl_RX8_76 (by decide) (by omega) rfl rfl dX8_loadsInner_76 (mrg_x (by omega)) ?_
      refine r_aload_n hK dX8_loadsInner_79 rfl ?_
      refine r_getR (k := 95) (k' := (100)) hK cls_8 fl_RX8_26 (by decide) (by omega) rfl rfl dX8_loadsInner_80 ?_
      refine r_aload_n hK dX8_loadsInner_83 rfl ?_
      refine r_getI (k := 95) hK cls_8 fl_RX8_90 (by decide) (by omega) rfl rfl dX8_loadsInner_84 (mrg_x (by omega)) ?_
      refine r_iload_n hK dX8_loadsInner_87 rfl ?_
      refine r_callV hK ck_X8_comesIn im_X8_comesIn sl_X8_comesIn ml_RX8_146 (by omega) (c_X8_comesIn (l := kL K) (g := g) (Y := Y) (C71 95 6) 0 (C71 95 10) (v2) (by decide) C71 (wpO_bd h)) cls_8 (k := 95) (by omega) rfl (As := [.int (I (C71 95 6)), .ref (gA g (100)), .int (I (C71 95 10)), .int (I (v2))]) (st := []) rfl (Nat.le_of_ble_eq_true rfl) dX8_loadsInner_88 (kkV (fun C88 h => ?_))
      refine r_aload_n hK dX8_loadsInner_91 rfl ?_
      refine r_aload_n hK dX8_loadsInner_92 rfl ?_
      refine r_getI (k := 95) hK cls_8 fl_RX8_118 (by decide) (by omega) rfl rfl dX8_loadsInner_93 (mrg_x (by omega)) ?_
      refine r_iconst hK dX8_loadsInner_96 ?_
      refine r_iconst hK dX8_loadsInner_97 ?_
      refine r_iconst hK dX8_loadsInner_98 ?_
      refine r_aload_n hK dX8_loadsInner_99 rfl ?_
      refine r_getI (k := 95) hK cls_8 fl_RX8_76 (by decide) (by omega) rfl rfl dX8_loadsInner_100 (mrg_x (by omega)) ?_
      refine r_callV hK ck_X8_goBack im_X8_goBack sl_X8_goBack ml_RX8_107 (by omega) (c_X8_goBack (l := kL K) (g := g) (Y := Y) (C88 95 1) (2) (0) (0) (C88 95 6) C88 (wpO_bd h)) cls_8 (k := 95) (by omega) rfl (As := [.int (I (C88 95 1)), .int (I (2)), .int (I (0)), .int (I (0)), .int (I (C88 95 6))]) (st := []) rfl (Nat.le_of_ble_eq_true rfl) dX8_loadsInner_103 (kkV (fun C103 h => ?_))
      refine r_iinc hK dX8_loadsInner_106 (by rw [hN]; decide) rfl rfl (lv' := [some (.ref (gA g 95)), some (.int (I (u1))), some (.int (I (v2 + 1))), some (.int (I (C38 95 6)))]) rfl ?_
      refine r_goto hK dX8_loadsInner_109 (t := 24) (by decide) ?_
      refine r_cut [true, true, true, false] (lv' := [some (.ref (gA g 95)), some (.int (I (u1))), some (.int (I (v2 + 1))), none]) rfl ?_
      exact ih (v2 + 1) C103 h
    · exact hk (v2) C h
set_option maxRecDepth 100000 in
set_option maxHeartbeats 4000000 in
theorem c_X8_loadsInner {l : Launch} {g : GT} {Y : Mem} {Q : Mem → Int → Prop} (a1 : Int) (C : Mem) (h : wpO (f_X8_loadsInner a1 C) Q) : MetC l yX8_loadsInner cX8_loadsInner 4 none 3 g [.ref (gA g 95), .int (I (a1))] (mrg Y C) (QV (fun c => mrg Y c) Q) := by
  refine met_at 2 (lv := [some (.ref (gA g 95)), some (.int (I (a1))), none, none]) (by decide) (Nat.le_of_ble_eq_true rfl) rfl rfl (fun K hK hN hr hQ => ?_)
  unfold f_X8_loadsInner at h
  refine r_aload_n hK dX8_loadsInner_0 rfl ?_
  refine r_iload_n hK dX8_loadsInner_1 rfl ?_
  refine r_put (k := 95) hK cls_8 fl_RX8_118 (by decide) (by omega) rfl rfl rfl rfl rfl dX8_loadsInner_2 (up_x (by omega)) ?_
  refine r_aload_n hK dX8_loadsInner_5 rfl ?_
  refine r_iconst hK dX8_loadsInner_6 ?_
  refine r_put (k := 95) hK cls_8 fl_RX8_13 (by decide) (by omega) rfl rfl rfl rfl rfl dX8_loadsInner_7 (up_x (by omega)) ?_
  refine r_aload_n hK dX8_loadsInner_10 rfl ?_
  refine r_aload_n hK dX8_loadsInner_11 rfl ?_
  refine r_getI (k := 95) hK cls_8 fl_RX8_118 (by decide) (by omega) rfl rfl dX8_loadsInner_12 (mrg_x (by omega)) ?_
  refine r_iconst hK dX8_loadsInner_15 ?_
  refine r_iconst hK dX8_loadsInner_16 ?_
  refine r_iconst hK dX8_loadsInner_17 ?_
  refine r_iconst hK dX8_loadsInner_18 ?_
  refine r_callV hK ck_X8_goBack im_X8_goBack sl_X8_goBack ml_RX8_107 (by omega) (c_X8_goBack (l := kL K) (g := g) (Y := Y) ((up (up C 95 1 (a1)) 95 2 (2)) 95 1) (2) (0) (0) (0) (up (up C 95 1 (a1)) 95 2 (2)) (wpO_bd h)) cls_8 (k := 95) (by omega) rfl (As := [.int (I ((up (up C 95 1 (a1)) 95 2 (2)) 95 1)), .int (I (2)), .int (I (0)), .int (I (0)), .int (I (0))]) (st := []) rfl (Nat.le_of_ble_eq_true rfl) dX8_loadsInner_19 (kkV (fun C19 h => ?_))
  refine r_iconst hK dX8_loadsInner_22 ?_
  refine r_istore_n hK dX8_loadsInner_23 (by rw [hN]; decide) rfl (lv' := [some (.ref (gA g 95)), some (.int (I (a1))), some (.int (I (1))), none]) rfl ?_
  refine w_X8_loadsInner_24 hK hN hr hQ (by omega) (a1) _ (fun v2_e24 C_e24 h => ?_) FU (1) C19 h
  exact r_return hK hr hQ dX8_loadsInner_112 ⟨C_e24, rfl, rfl, wpO_some h⟩
set_option maxRecDepth 100000 in
set_option maxHeartbeats 4000000 in
theorem w_X8_loads_3 {K : KT} {g : GT} {Y : Mem} {dd : Nat} (hK : Kok K g cX8_loads RX8 dd) (hN : kN K = 7) (hr : (kMe K).sig.returnType = (some .int)) {Q : Mem → Int → Prop} (hQ : kQ K = MQ (kB K) (Qc g (QI (fun c => mrg Y c) Q)) (kA K) (kS K) (kc K) (ks K) (gS g)) (hdd : 4 ≤ dd) (u1 : Int) (u2 : Int) (u3 : Int) (k : Int → Mem → Option (Mem × Int)) (hk : ∀ (v4 : Int) (C : Mem), wpO (k v4 C) Q → Wn K g (mrg Y C) 22 [some (.ref (gA g 95)), some (.int (I (u1))), some (.int (I (u2))), some (.int (I (u3))), some (.int (I (v4))), none, none] []) : ∀ (n : Nat) (v4 : Int) (C : Mem), wpO (f_X8_loads_3 u1 u2 u3 k n v4 C) Q → Wn K g (mrg Y C) 3 [some (.ref (gA g 95)), some (.int (I (u1))), some (.int (I (u2))), some (.int (I (u3))), some (.int (I (v4))), none, none] [] := by
  intro n
  induction n with
  | zero => intro v4 C h; exact (wpO_none h).elim
  | succ n ih =>
    intro v4 C h
    unfold f_X8_loads_3 at h
    refine r_iload hK dX8_loads_3 rfl ?_
    refine r_bipush hK dX8_loads_5 (by decide) ?_
    refine r_icmp_ge hK dX8_loads_7 (t := 22) (by decide) (wpO_lt h) (fun h => ?_) (fun h => ?_)
    · refine r_aload_n hK dX8_loads_10 rfl ?_
      refine r_iload hK dX8_loads_11 rfl ?_
      refine r_callV hK ck_X8_clears im_X8_clears sl_X8_clears ml_RX8_79 (by omega) (c_X8_clears (l := kL K) (g := g) (Y := Y) (v4) C (wpO_bd h)) cls_8 (k := 95) (by omega) rfl (As := [.int (I (v4))]) (st := []) rfl (Nat.le_of_ble_eq_true rfl) dX8_loads_13 (kkV (fun C13 h => ?_))
      refine r_iinc hK dX8_loads_16 (by rw [hN]; decide) rfl rfl (lv' := [some (.ref (gA g 95)), some (.int (I (u1))), some (.int (I (u2))), some (.int (I (u3))), some (.int (I (v4 + 1))), none, none]) rfl ?_
      refine r_goto hK dX8_loads_19 (t := 3) (by decide) ?_
      exact ih (v4 + 1) C13 h
    · exact hk (v4) C h
set_option maxRecDepth 100000 in
set_option maxHeartbeats 4000000 in
theorem w_X8_loads_53 {K : KT} {g : GT} {Y : Mem} {dd : Nat} (hK : Kok K g cX8_loads RX8 dd) (hN : kN K = 7) (hr : (kMe K).sig.returnType = (some .int)) {Q : Mem → Int → Prop} (hQ : kQ K = MQ (kB K) (Qc g (QI (fun c => mrg Y c) Q)) (kA K) (kS K) (kc K) (ks K) (gS g)) (hdd : 4 ≤ dd) (u1 : Int) (u2 : Int) (u3 : Int) (u4 : Int) (u5 : Int) (k : Int → Mem → Option (Mem × Int)) (hk : ∀ (v6 : Int) (C : Mem), wpO (k v6 C) Q → Wn K g (mrg Y C) 104 [some (.ref (gA g 95)), some (.int (I (u1))), some (.int (I (u2))), some (.int (I (u3))), some (.int (I (u4))), some (.int (I (u5))), some (.int (I (v6)))] []) : ∀ (n : Nat) (v6 : Int) (C : Mem), wpO (f_X8_loads_53 u1 u2 u3 u4 u5 k n v6 C) Q → Wn K g (mrg Y C) 53 [some (.ref (gA g 95)), some (.int (I (u1))), some (.int (I (u2))), some (.int (I (u3))), some (.int (I (u4))), some (.int (I (u5))), some (.int (I (v6)))] [] := by
  intro n
  induction n with
  | zero => intro v6 C h; exact (wpO_none h).elim
  | succ n ih =>
    intro v6 C h
    unfold f_X8_loads_53 at h
    refine r_iload hK dX8_loads_53 rfl ?_
    refine r_iload_n hK dX8_loads_55 rfl ?_
    refine r_icmp_ge hK dX8_loads_56 (t := 104) (by decide) (wpO_lt h) (fun h => ?_) (fun h => ?_)
    · refine r_iload hK dX8_loads_59 rfl ?_
      refine r_bipush hK dX8_loads_61 (by decide) ?_
      refine r_iload hK dX8_loads_63 rfl ?_
      refine r_imul hK dX8_loads_65 ?_
      refine r_bipush hK dX8_loads_66 (by decide) ?_
      refine r_iadd hK dX8_loads_68 ?_
      refine r_icmp_ge hK dX8_loads_69 (t := 104) (by decide) (wpO_lt h) (fun h => ?_) (fun h => ?_)
      · refine r_aload_n hK dX8_loads_72 rfl ?_
        refine r_iload_n hK dX8_loads_73 rfl ?_
        refine r_iload_n hK dX8_loads_74 rfl ?_
        refine r_iload hK dX8_loads_75 rfl ?_
        refine r_imul hK dX8_loads_77 ?_
        refine r_iadd hK dX8_loads_78 ?_
        refine r_iconst hK dX8_loads_79 ?_
        refine r_callV hK ck_X8_spells im_X8_spells sl_X8_spells ml_RX8_165 (by omega) (c_X8_spells (l := kL K) (g := g) (Y := Y) (u1 + (u2 * v6)) (3) C (wpO_bd h)) cls_8 (k := 95) (by omega) rfl (As := [.int (I (u1 + (u2 * v6))), .int (I (3))]) (st := []) rfl (Nat.le_of_ble_eq_true rfl) dX8_loads_80 (kkV (fun C80 h => ?_))
        refine r_aload_n hK dX8_loads_83 rfl ?_
        refine r_aload_n hK dX8_loads_84 rfl ?_
        refine r_getI (k := 95) hK cls_8 fl_RX8_76 (by decide) (by omega) rfl rfl dX8_loads_85 (mrg_x (by omega)) ?_
        refine r_aload_n hK dX8_loads_88 rfl ?_
        refine r_getR (k := 95) (k' := (101)) hK cls_8 fl_RX8_29 (by decide) (by omega) rfl rfl dX8_loads_89 ?_
        refine r_iconst hK dX8_loads_92 ?_
        refine r_iload hK dX8_loads_93 rfl ?_
        refine r_callV hK ck_X8_comesIn im_X8_comesIn sl_X8_comesIn ml_RX8_146 (by omega) (c_X8_comesIn (l := kL K) (g := g) (Y := Y) (C80 95 6) 1 (3) (v6) (by decide) C80 (wpO_bd h)) cls_8 (k := 95) (by omega) rfl (As := [.int (I (C80 95 6)), .ref (gA g (101)), .int (I (3)), .int (I (v6))]) (st := []) rfl (Nat.le_of_ble_eq_true rfl) dX8_loads_95 (kkV (fun C95 h => ?_))
        refine r_iinc hK dX8_loads_98 (by rw [hN]; decide) rfl rfl (lv' := [some (.ref (gA g 95)), some (.int (I (u1))), some (.int (I (u2))), some (.int (I (u3))), some (.int (I (u4))), some (.int (I (u5))), some (.int (I (v6 + 1)))]) rfl ?_
        refine r_goto hK dX8_loads_101 (t := 53) (by decide) ?_
        exact ih (v6 + 1) C95 h
      · exact hk (v6) C h
    · exact hk (v6) C h
set_option maxRecDepth 100000 in
set_option maxHeartbeats 4000000 in
theorem w_X8_loads_34 {K : KT} {g : GT} {Y : Mem} {dd : Nat} (hK : Kok K g cX8_loads RX8 dd) (hN : kN K = 7) (hr : (kMe K).sig.returnType = (some .int)) {Q : Mem → Int → Prop} (hQ : kQ K = MQ (kB K) (Qc g (QI (fun c => mrg Y c) Q)) (kA K) (kS K) (kc K) (ks K) (gS g)) (hdd : 4 ≤ dd) (u1 : Int) (u2 : Int) (u3 : Int) (u4 : Int) (k : Int → Mem → Option (Mem × Int)) (hk : ∀ (v5 : Int) (C : Mem), wpO (k v5 C) Q → Wn K g (mrg Y C) 139 [some (.ref (gA g 95)), some (.int (I (u1))), some (.int (I (u2))), some (.int (I (u3))), some (.int (I (u4))), some (.int (I (v5))), none] []) : ∀ (n : Nat) (v5 : Int) (C : Mem), wpO (f_X8_loads_34 u1 u2 u3 u4 k n v5 C) Q → Wn K g (mrg Y C) 34 [some (.ref (gA g 95)), some (.int (I (u1))), some (.int (I (u2))), some (.int (I (u3))), some (.int (I (u4))), some (.int (I (v5))), none] [] := by
  intro n
  induction n with
  | zero => intro v5 C h; exact (wpO_none h).elim
  | succ n ih =>
    intro v5 C h
    unfold f_X8_loads_34 at h
    refine r_iload hK dX8_loads_34 rfl ?_
    refine r_iload hK dX8_loads_36 rfl ?_
    refine r_icmp_ge hK dX8_loads_38 (t := 139) (by decide) (wpO_lt h) (fun h => ?_) (fun h => ?_)
    · refine r_aload_n hK dX8_loads_41 rfl ?_
      refine r_iconst hK dX8_loads_42 ?_
      refine r_put (k := 95) hK cls_8 fl_RX8_76 (by decide) (by omega) rfl rfl rfl rfl rfl dX8_loads_43 (up_x (by omega)) ?_
      refine r_bipush hK dX8_loads_46 (by decide) ?_
      refine r_iload hK dX8_loads_48 rfl ?_
      refine r_imul hK dX8_loads_50 ?_
      refine r_istore hK dX8_loads_51 (by rw [hN]; decide) rfl (lv' := [some (.ref (gA g 95)), some (.int (I (u1))), some (.int (I (u2))), some (.int (I (u3))), some (.int (I (u4))), some (.int (I (v5))), some (.int (I (12 * v5)))]) rfl ?_
      refine w_X8_loads_53 hK hN hr hQ (by omega) (u1) (u2) (u3) (u4) (v5) _ (fun v6_e53 C_e53 h => ?_) FU (12 * v5) (up C 95 6 (0)) h
      refine r_aload_n hK dX8_loads_104 rfl ?_
      refine r_iload hK dX8_loads_105 rfl ?_
      refine r_iconst hK dX8_loads_107 ?_
      refine r_iload hK dX8_loads_108 rfl ?_
      refine r_iload hK dX8_loads_110 rfl ?_
      refine r_iconst hK dX8_loads_112 ?_
      refine r_isub hK dX8_loads_113 ?_
      refine r_jn (J := fun j125 => ∀ (s3_125 : Int), wpO (j125 s3_125) Q → Wn K g (mrg Y C_e53) 125 [some (.ref (gA g 95)), some (.int (I (u1))), some (.int (I (u2))), some (.int (I (u3))), some (.int (I (u4))), some (.int (I (v5))), none] [.int (I (s3_125)), .int (I (1)), .int (I (v5)), .ref (gA g 95)]) h ?_ ?_
      · intro s3_125 h
        refine r_iconst hK dX8_loads_125 ?_
        refine r_aload_n hK dX8_loads_126 rfl ?_
        refine r_getI (k := 95) hK cls_8 fl_RX8_76 (by decide) (by omega) rfl rfl dX8_loads_127 (mrg_x (by omega)) ?_
        refine r_callV hK ck_X8_goBack im_X8_goBack sl_X8_goBack ml_RX8_107 (by omega) (c_X8_goBack (l := kL K) (g := g) (Y := Y) (v5) (1) (s3_125) (0) (C_e53 95 6) C_e53 (wpO_bd h)) cls_8 (k := 95) (by omega) rfl (As := [.int (I (v5)), .int (I (1)), .int (I (s3_125)), .int (I (0)), .int (I (C_e53 95 6))]) (st := []) rfl (Nat.le_of_ble_eq_true rfl) dX8_loads_130 (kkV (fun C130 h => ?_))
        refine r_iinc hK dX8_loads_133 (by rw [hN]; decide) rfl rfl (lv' := [some (.ref (gA g 95)), some (.int (I (u1))), some (.int (I (u2))), some (.int (I (u3))), some (.int (I (u4))), some (.int (I (v5 + 1))), none]) rfl ?_
        refine r_goto hK dX8_loads_136 (t := 34) (by decide) ?_
        exact ih (v5 + 1) C130 h
      · intro hj125 h
        refine r_icmp_ge hK dX8_loads_114 (t := 124) (by decide) (wpO_lt h) (fun h => ?_) (fun h => ?_)
        · refine r_iload hK dX8_loads_117 rfl ?_
          refine r_iconst hK dX8_loads_119 ?_
          refine r_iadd hK dX8_loads_120 ?_
          refine r_goto hK dX8_loads_121 (t := 125) (by decide) ?_
          refine r_cut [true, true, true, true, true, true, false] (lv' := [some (.ref (gA g 95)), some (.int (I (u1))), some (.int (I (u2))), some (.int (I (u3))), some (.int (I (u4))), some (.int (I (v5))), none]) rfl ?_
          exact hj125 (v5 + 2) h
        · refine r_iconst hK dX8_loads_124 ?_
          refine r_cut [true, true, true, true, true, true, false] (lv' := [some (.ref (gA g 95)), some (.int (I (u1))), some (.int (I (u2))), some (.int (I (u3))), some (.int (I (u4))), some (.int (I (v5))), none]) rfl ?_
          exact hj125 (0) h
    · exact hk (v5) C h
set_option maxRecDepth 100000 in
set_option maxHeartbeats 4000000 in
theorem c_X8_loads {l : Launch} {g : GT} {Y : Mem} {Q : Mem → Int → Prop} (a1 : Int) (a2 : Int) (a3 : Int) (C : Mem) (h : wpO (f_X8_loads a1 a2 a3 C) Q) : MetC l yX8_loads cX8_loads 7 (some .int) 4 g [.ref (gA g 95), .int (I (a1)), .int (I (a2)), .int (I (a3))] (mrg Y C) (QI (fun c => mrg Y c) Q) := by
  refine met_at 3 (lv := [some (.ref (gA g 95)), some (.int (I (a1))), some (.int (I (a2))), some (.int (I (a3))), none, none, none]) (by decide) (Nat.le_of_ble_eq_true rfl) rfl rfl (fun K hK hN hr hQ => ?_)
  unfold f_X8_loads at h
  refine r_iconst hK dX8_loads_0 ?_
  refine r_istore hK dX8_loads_1 (by rw [hN]; decide) rfl (lv' := [some (.ref (gA g 95)), some (.int (I (a1))), some (.int (I (a2))), some (.int (I (a3))), some (.int (I (0))), none, none]) rfl ?_
  refine w_X8_loads_3 hK hN hr hQ (by omega) (a1) (a2) (a3) _ (fun v4_e3 C_e3 h => ?_) FU (0) C h
  refine r_iload_n hK dX8_loads_22 rfl ?_
  refine r_bipush hK dX8_loads_23 (by decide) ?_
  refine r_iadd hK dX8_loads_25 ?_
  refine r_bipush hK dX8_loads_26 (by decide) ?_
  obtain ⟨hd28, h⟩ := wpO_dv h
  refine r_idiv hK hd28 (by decide) dX8_loads_28 ?_
  refine r_istore hK dX8_loads_29 (by rw [hN]; decide) rfl (lv' := [some (.ref (gA g 95)), some (.int (I (a1))), some (.int (I (a2))), some (.int (I (a3))), some (.int (I ((a3 + 11) / 12))), none, none]) rfl ?_
  refine r_iconst hK dX8_loads_31 ?_
  refine r_istore hK dX8_loads_32 (by rw [hN]; decide) rfl (lv' := [some (.ref (gA g 95)), some (.int (I (a1))), some (.int (I (a2))), some (.int (I (a3))), some (.int (I ((a3 + 11) / 12))), some (.int (I (0))), none]) rfl ?_
  refine w_X8_loads_34 hK hN hr hQ (by omega) (a1) (a2) (a3) ((a3 + 11) / 12) _ (fun v5_e34 C_e34 h => ?_) FU (0) C_e3 h
  refine r_iload hK dX8_loads_139 rfl ?_
  refine r_iconst hK dX8_loads_141 ?_
  refine r_jn (J := fun j194 => ∀ (C_194 : Mem), wpO (j194 C_194) Q → Wn K g (mrg Y C_194) 194 [some (.ref (gA g 95)), none, none, none, some (.int (I ((a3 + 11) / 12))), none, none] []) h ?_ ?_
  · intro C_194 h
    refine r_aload_n hK dX8_loads_194 rfl ?_
    refine r_iconst hK dX8_loads_195 ?_
    refine r_put (k := 95) hK cls_8 fl_RX8_118 (by decide) (by omega) rfl rfl rfl rfl rfl dX8_loads_196 (up_x (by omega)) ?_
    refine r_aload_n hK dX8_loads_199 rfl ?_
    refine r_iconst hK dX8_loads_200 ?_
    refine r_put (k := 95) hK cls_8 fl_RX8_13 (by decide) (by omega) rfl rfl rfl rfl rfl dX8_loads_201 (up_x (by omega)) ?_
    refine r_iload hK dX8_loads_204 rfl ?_
    refine r_iconst hK dX8_loads_206 ?_
    refine r_icmp_le hK dX8_loads_207 (t := 216) (by decide) (wpO_lt h) (fun h => ?_) (fun h => ?_)
    · refine r_aload_n hK dX8_loads_210 rfl ?_
      refine r_iload hK dX8_loads_211 rfl ?_
      refine r_callV hK ck_X8_loadsInner im_X8_loadsInner sl_X8_loadsInner ml_RX8_190 (by omega) (c_X8_loadsInner (l := kL K) (g := g) (Y := Y) ((a3 + 11) / 12) (up (up C_194 95 1 (0)) 95 2 (1)) (wpO_bd h)) cls_8 (k := 95) (by omega) rfl (As := [.int (I ((a3 + 11) / 12))]) (st := []) rfl (Nat.le_of_ble_eq_true rfl) dX8_loads_213 (kkV (fun C213 h => ?_))
      refine r_aload_n hK dX8_loads_216 rfl ?_
      refine r_getI (k := 95) hK cls_8 fl_RX8_13 (by decide) (by omega) rfl rfl dX8_loads_217 (mrg_x (by omega)) ?_
      exact r_ireturn hK hr hQ rfl dX8_loads_220 ⟨C213, (C213 95 2), rfl, rfl, wpO_some h⟩
    · refine r_aload_n hK dX8_loads_216 rfl ?_
      refine r_getI (k := 95) hK cls_8 fl_RX8_13 (by decide) (by omega) rfl rfl dX8_loads_217 (mrg_x (by omega)) ?_
      exact r_ireturn hK hr hQ rfl dX8_loads_220 ⟨(up (up C_194 95 1 (0)) 95 2 (1)), ((up (up C_194 95 1 (0)) 95 2 (1)) 95 2), rfl, rfl, wpO_some h⟩
  · intro hj194 h
    refine r_icmp_le hK dX8_loads_142 (t := 194) (by decide) (wpO_lt h) (fun h => ?_) (fun h => ?_)
    · refine r_aload_n hK dX8_loads_145 rfl ?_
      refine r_iload hK dX8_loads_146 rfl ?_
      refine r_iconst hK dX8_loads_148 ?_
      refine r_isub hK dX8_loads_149 ?_
      refine r_callV hK ck_X8_usedOf im_X8_usedOf sl_X8_usedOf ml_RX8_174 (by omega) (c_X8_usedOf (l := kL K) (g := g) (Y := Y) (((a3 + 11) / 12) - 1) C_e34 (wpO_bd h)) cls_8 (k := 95) (by omega) rfl (As := [.int (I (((a3 + 11) / 12) - 1))]) (st := []) rfl (Nat.le_of_ble_eq_true rfl) dX8_loads_150 (kkI (fun C150 r150 h => ?_))
      refine r_bipush hK dX8_loads_153 (by decide) ?_
      refine r_icmp_ge hK dX8_loads_155 (t := 194) (by decide) (wpO_lt h) (fun h => ?_) (fun h => ?_)
      · refine r_aload_n hK dX8_loads_158 rfl ?_
        refine r_iconst hK dX8_loads_159 ?_
        refine r_put (k := 95) hK cls_8 fl_RX8_76 (by decide) (by omega) rfl rfl rfl rfl rfl dX8_loads_160 (up_x (by omega)) ?_
        refine r_aload_n hK dX8_loads_163 rfl ?_
        refine r_iload hK dX8_loads_164 rfl ?_
        refine r_iconst hK dX8_loads_166 ?_
        refine r_isub hK dX8_loads_167 ?_
        refine r_callV hK ck_X8_comeOut im_X8_comeOut sl_X8_comeOut ml_RX8_143 (by omega) (c_X8_comeOut (l := kL K) (g := g) (Y := Y) (((a3 + 11) / 12) - 2) (up C150 95 6 (0)) (wpO_bd h)) cls_8 (k := 95) (by omega) rfl (As := [.int (I (((a3 + 11) / 12) - 2))]) (st := []) rfl (Nat.le_of_ble_eq_true rfl) dX8_loads_168 (kkV (fun C168 h => ?_))
        refine r_aload_n hK dX8_loads_171 rfl ?_
        refine r_iload hK dX8_loads_172 rfl ?_
        refine r_iconst hK dX8_loads_174 ?_
        refine r_isub hK dX8_loads_175 ?_
        refine r_callV hK ck_X8_comeOut im_X8_comeOut sl_X8_comeOut ml_RX8_143 (by omega) (c_X8_comeOut (l := kL K) (g := g) (Y := Y) (((a3 + 11) / 12) - 1) C168 (wpO_bd h)) cls_8 (k := 95) (by omega) rfl (As := [.int (I (((a3 + 11) / 12) - 1))]) (st := []) rfl (Nat.le_of_ble_eq_true rfl) dX8_loads_176 (kkV (fun C176 h => ?_))
        refine r_aload_n hK dX8_loads_179 rfl ?_
        refine r_iload hK dX8_loads_180 rfl ?_
        refine r_iconst hK dX8_loads_182 ?_
        refine r_isub hK dX8_loads_183 ?_
        refine r_iload hK dX8_loads_184 rfl ?_
        refine r_iconst hK dX8_loads_186 ?_
        refine r_isub hK dX8_loads_187 ?_
        refine r_iconst hK dX8_loads_188 ?_
        refine r_iconst hK dX8_loads_189 ?_
        refine r_iconst hK dX8_loads_190 ?_
        refine r_callV hK ck_X8_share im_X8_share sl_X8_share ml_RX8_153 (by omega) (c_X8_share (l := kL K) (g := g) (Y := Y) (((a3 + 11) / 12) - 2) (((a3 + 11) / 12) - 1) (1) (0) (0) C176 (wpO_bd h)) cls_8 (k := 95) (by omega) rfl (As := [.int (I (((a3 + 11) / 12) - 2)), .int (I (((a3 + 11) / 12) - 1)), .int (I (1)), .int (I (0)), .int (I (0))]) (st := []) rfl (Nat.le_of_ble_eq_true rfl) dX8_loads_191 (kkV (fun C191 h => ?_))
        refine r_cut [true, false, false, false, true, false, false] (lv' := [some (.ref (gA g 95)), none, none, none, some (.int (I ((a3 + 11) / 12))), none, none]) rfl ?_
        exact hj194 C191 h
      · refine r_cut [true, false, false, false, true, false, false] (lv' := [some (.ref (gA g 95)), none, none, none, some (.int (I ((a3 + 11) / 12))), none, none]) rfl ?_
        exact hj194 C150 h
    · refine r_cut [true, false, false, false, true, false, false] (lv' := [some (.ref (gA g 95)), none, none, none, some (.int (I ((a3 + 11) / 12))), none, none]) rfl ?_
      exact hj194 C_e34 h
set_option maxRecDepth 100000 in
set_option maxHeartbeats 4000000 in
theorem c_X8_load {l : Launch} {g : GT} {Y : Mem} {Q : Mem → Int → Prop} (a1 : Int) (a2 : Int) (a3 : Int) (C : Mem) (h : wpO (f_X8_load a1 a2 a3 C) Q) : MetC l yX8_load cX8_load 4 (some .int) 5 g [.ref (gA g 95), .int (I (a1)), .int (I (a2)), .int (I (a3))] (mrg Y C) (QI (fun c => mrg Y c) Q) := by
  refine met_at 0 (lv := [some (.ref (gA g 95)), some (.int (I (a1))), some (.int (I (a2))), some (.int (I (a3)))]) (by decide) (Nat.le_of_ble_eq_true rfl) rfl rfl (fun K hK hN hr hQ => ?_)
  unfold f_X8_load at h
  refine r_iload_n hK dX8_load_0 rfl ?_
  refine r_iload_n hK dX8_load_1 rfl ?_
  refine r_iload_n hK dX8_load_2 rfl ?_
  refine r_callS hK ck_X8_isLoad sc_X8_isLoad ml_RX8_193 (by omega) (c_X8_isLoad (l := kL K) (g := g) (Y := Y) (a1) (a2) (a3) C (wpO_bd h)) (As := [.int (I (a1)), .int (I (a2)), .int (I (a3))]) (st := []) rfl (Nat.le_of_ble_eq_true rfl) dX8_load_3 (kkI (fun C3 r3 h => ?_))
  refine r_if_eq hK dX8_load_6 (t := 19) (by decide) (wpO_eq h) (fun h => ?_) (fun h => ?_)
  · refine r_iconst hK dX8_load_19 ?_
    exact r_ireturn hK hr hQ rfl dX8_load_20 ⟨C3, (-1), rfl, rfl, wpO_some h⟩
  · refine r_aload_n hK dX8_load_9 rfl ?_
    refine r_iload_n hK dX8_load_10 rfl ?_
    refine r_iload_n hK dX8_load_11 rfl ?_
    refine r_iload_n hK dX8_load_12 rfl ?_
    refine r_callV hK ck_X8_loads im_X8_loads sl_X8_loads ml_RX8_196 (by omega) (c_X8_loads (l := kL K) (g := g) (Y := Y) (a1) (a2) (a3) C3 (wpO_bd h)) cls_8 (k := 95) (by omega) rfl (As := [.int (I (a1)), .int (I (a2)), .int (I (a3))]) (st := []) rfl (Nat.le_of_ble_eq_true rfl) dX8_load_13 (kkI (fun C13 r13 h => ?_))
    refine r_goto hK dX8_load_16 (t := 20) (by decide) ?_
    exact r_ireturn hK hr hQ rfl dX8_load_20 ⟨C13, r13, rfl, rfl, wpO_some h⟩
set_option maxRecDepth 100000 in
set_option maxHeartbeats 4000000 in
theorem c_X8_find {l : Launch} {g : GT} {Y : Mem} {Q : Mem → Int → Prop} (a1 : Int) (a2 : Int) (C : Mem) (h : wpO (f_X8_find a1 a2 C) Q) : MetC l yX8_find cX8_find 3 (some .int) 6 g [.ref (gA g 95), .int (I (a1)), .int (I (a2))] (mrg Y C) (QI (fun c => mrg Y c) Q) := by
  refine met_at 0 (lv := [some (.ref (gA g 95)), some (.int (I (a1))), some (.int (I (a2)))]) (by decide) (Nat.le_of_ble_eq_true rfl) rfl rfl (fun K hK hN hr hQ => ?_)
  unfold f_X8_find at h
  refine r_iload_n hK dX8_find_0 rfl ?_
  refine r_iload_n hK dX8_find_1 rfl ?_
  refine r_callS hK ck_X8_isSpelled sc_X8_isSpelled ml_RX8_162 (by omega) (c_X8_isSpelled (l := kL K) (g := g) (Y := Y) (a1) (a2) C (wpO_bd h)) (As := [.int (I (a1)), .int (I (a2))]) (st := []) rfl (Nat.le_of_ble_eq_true rfl) dX8_find_2 (kkI (fun C2 r2 h => ?_))
  refine r_if_ne hK dX8_find_5 (t := 10) (by decide) (wpO_eq h) (fun h => ?_) (fun h => ?_)
  · refine r_iconst hK dX8_find_8 ?_
    exact r_ireturn hK hr hQ rfl dX8_find_9 ⟨C2, (-1), rfl, rfl, wpO_some h⟩
  · refine r_aload_n hK dX8_find_10 rfl ?_
    refine r_iload_n hK dX8_find_11 rfl ?_
    refine r_iload_n hK dX8_find_12 rfl ?_
    refine r_callV hK ck_X8_spells im_X8_spells sl_X8_spells ml_RX8_165 (by omega) (c_X8_spells (l := kL K) (g := g) (Y := Y) (a1) (a2) C2 (wpO_bd h)) cls_8 (k := 95) (by omega) rfl (As := [.int (I (a1)), .int (I (a2))]) (st := []) rfl (Nat.le_of_ble_eq_true rfl) dX8_find_13 (kkV (fun C13 h => ?_))
    refine r_aload_n hK dX8_find_16 rfl ?_
    refine r_callV hK ck_X8_valueOf im_X8_valueOf sl_X8_valueOf ml_RX8_200 (by omega) (c_X8_valueOf (l := kL K) (g := g) (Y := Y) C13 (wpO_bd h)) cls_8 (k := 95) (by omega) rfl (As := []) (st := []) rfl (Nat.le_of_ble_eq_true rfl) dX8_find_17 (kkI (fun C17 r17 h => ?_))
    exact r_ireturn hK hr hQ rfl dX8_find_20 ⟨C17, r17, rfl, rfl, wpO_some h⟩
set_option maxRecDepth 100000 in
set_option maxHeartbeats 4000000 in
theorem w_X8_firstLeaf_5 {K : KT} {g : GT} {Y : Mem} {dd : Nat} (hK : Kok K g cX8_firstLeaf RX8 dd) (hN : kN K = 2) (hr : (kMe K).sig.returnType = (some .int)) {Q : Mem → Int → Prop} (hQ : kQ K = MQ (kB K) (Qc g (QI (fun c => mrg Y c) Q)) (kA K) (kS K) (kc K) (ks K) (gS g)) (hdd : 2 ≤ dd) (k : Int → Mem → Option (Mem × Int)) (hk : ∀ (v1 : Int) (C : Mem), wpO (k v1 C) Q → Wn K g (mrg Y C) 25 [some (.ref (gA g 95)), some (.int (I (v1)))] []) : ∀ (n : Nat) (v1 : Int) (C : Mem), wpO (f_X8_firstLeaf_5 k n v1 C) Q → Wn K g (mrg Y C) 5 [some (.ref (gA g 95)), some (.int (I (v1)))] [] := by
  intro n
  induction n with
  | zero => intro v1 C h; exact (wpO_none h).elim
  | succ n ih =>
    intro v1 C h
    unfold f_X8_firstLeaf_5 at h
    refine r_aload_n hK dX8_firstLeaf_5 rfl ?_
    refine r_iload_n hK dX8_firstLeaf_6 rfl ?_
    refine r_iconst hK dX8_firstLeaf_7 ?_
    refine r_callV hK ck_X8_at im_X8_at sl_X8_at ml_RX8_69 (by omega) (c_X8_at (l := kL K) (g := g) (Y := Y) (v1) (0) C (wpO_bd h)) cls_8 (k := 95) (by omega) rfl (As := [.int (I (v1)), .int (I (0))]) (st := []) rfl (Nat.le_of_ble_eq_true rfl) dX8_firstLeaf_8 (kkI (fun C8 r8 h => ?_))
    refine r_iconst hK dX8_firstLeaf_11 ?_
    refine r_icmp_ne hK dX8_firstLeaf_12 (t := 25) (by decide) (wpO_eq h) (fun h => ?_) (fun h => ?_)
    · refine r_aload_n hK dX8_firstLeaf_15 rfl ?_
      refine r_iload_n hK dX8_firstLeaf_16 rfl ?_
      refine r_iconst hK dX8_firstLeaf_17 ?_
      refine r_callV hK ck_X8_at im_X8_at sl_X8_at ml_RX8_69 (by omega) (c_X8_at (l := kL K) (g := g) (Y := Y) (v1) (2) C8 (wpO_bd h)) cls_8 (k := 95) (by omega) rfl (As := [.int (I (v1)), .int (I (2))]) (st := []) rfl (Nat.le_of_ble_eq_true rfl) dX8_firstLeaf_18 (kkI (fun C18 r18 h => ?_))
      refine r_istore_n hK dX8_firstLeaf_21 (by rw [hN]; decide) rfl (lv' := [some (.ref (gA g 95)), some (.int (I (r18)))]) rfl ?_
      refine r_goto hK dX8_firstLeaf_22 (t := 5) (by decide) ?_
      exact ih (r18) C18 h
    · exact hk (v1) C8 h
set_option maxRecDepth 100000 in
set_option maxHeartbeats 4000000 in
theorem c_X8_firstLeaf {l : Launch} {g : GT} {Y : Mem} {Q : Mem → Int → Prop} (C : Mem) (h : wpO (f_X8_firstLeaf C) Q) : MetC l yX8_firstLeaf cX8_firstLeaf 2 (some .int) 2 g [.ref (gA g 95)] (mrg Y C) (QI (fun c => mrg Y c) Q) := by
  refine met_at 1 (lv := [some (.ref (gA g 95)), none]) (by decide) (Nat.le_of_ble_eq_true rfl) rfl rfl (fun K hK hN hr hQ => ?_)
  unfold f_X8_firstLeaf at h
  refine r_aload_n hK dX8_firstLeaf_0 rfl ?_
  refine r_getI (k := 95) hK cls_8 fl_RX8_118 (by decide) (by omega) rfl rfl dX8_firstLeaf_1 (mrg_x (by omega)) ?_
  refine r_istore_n hK dX8_firstLeaf_4 (by rw [hN]; decide) rfl (lv' := [some (.ref (gA g 95)), some (.int (I (C 95 1)))]) rfl ?_
  refine w_X8_firstLeaf_5 hK hN hr hQ (by omega) _ (fun v1_e5 C_e5 h => ?_) FU (C 95 1) C h
  refine r_iload_n hK dX8_firstLeaf_25 rfl ?_
  exact r_ireturn hK hr hQ rfl dX8_firstLeaf_26 ⟨C_e5, v1_e5, rfl, rfl, wpO_some h⟩
set_option maxRecDepth 100000 in
set_option maxHeartbeats 4000000 in
theorem c_X8_nextLeaf {l : Launch} {g : GT} {Y : Mem} {Q : Mem → Int → Prop} (a1 : Int) (C : Mem) (h : wpO (f_X8_nextLeaf a1 C) Q) : MetC l yX8_nextLeaf cX8_nextLeaf 2 (some .int) 2 g [.ref (gA g 95), .int (I (a1))] (mrg Y C) (QI (fun c => mrg Y c) Q) := by
  refine met_at 0 (lv := [some (.ref (gA g 95)), some (.int (I (a1)))]) (by decide) (Nat.le_of_ble_eq_true rfl) rfl rfl (fun K hK hN hr hQ => ?_)
  unfold f_X8_nextLeaf at h
  refine r_aload_n hK dX8_nextLeaf_0 rfl ?_
  refine r_iload_n hK dX8_nextLeaf_1 rfl ?_
  refine r_iconst hK dX8_nextLeaf_2 ?_
  refine r_callV hK ck_X8_at im_X8_at sl_X8_at ml_RX8_69 (by omega) (c_X8_at (l := kL K) (g := g) (Y := Y) (a1) (2) C (wpO_bd h)) cls_8 (k := 95) (by omega) rfl (As := [.int (I (a1)), .int (I (2))]) (st := []) rfl (Nat.le_of_ble_eq_true rfl) dX8_nextLeaf_3 (kkI (fun C3 r3 h => ?_))
  refine r_if_ne hK dX8_nextLeaf_6 (t := 14) (by decide) (wpO_eq h) (fun h => ?_) (fun h => ?_)
  · refine r_bipush hK dX8_nextLeaf_9 (by decide) ?_
    refine r_goto hK dX8_nextLeaf_11 (t := 22) (by decide) ?_
    exact r_ireturn hK hr hQ rfl dX8_nextLeaf_22 ⟨C3, (-9), rfl, rfl, wpO_some h⟩
  · refine r_aload_n hK dX8_nextLeaf_14 rfl ?_
    refine r_iload_n hK dX8_nextLeaf_15 rfl ?_
    refine r_iconst hK dX8_nextLeaf_16 ?_
    refine r_callV hK ck_X8_at im_X8_at sl_X8_at ml_RX8_69 (by omega) (c_X8_at (l := kL K) (g := g) (Y := Y) (a1) (2) C3 (wpO_bd h)) cls_8 (k := 95) (by omega) rfl (As := [.int (I (a1)), .int (I (2))]) (st := []) rfl (Nat.le_of_ble_eq_true rfl) dX8_nextLeaf_17 (kkI (fun C17 r17 h => ?_))
    refine r_iconst hK dX8_nextLeaf_20 ?_
    refine r_isub hK dX8_nextLeaf_21 ?_
    exact r_ireturn hK hr hQ rfl dX8_nextLeaf_22 ⟨C17, (r17 - 1), rfl, rfl, wpO_some h⟩
set_option maxRecDepth 100000 in
set_option maxHeartbeats 4000000 in
theorem w_X8_beginsSo_22 {K : KT} {g : GT} {Y : Mem} {dd : Nat} (hK : Kok K g cX8_beginsSo RX8 dd) (hN : kN K = 5) (hr : (kMe K).sig.returnType = (some .boolean)) {Q : Mem → Int → Prop} (hQ : kQ K = MQ (kB K) (Qc g (QI (fun c => mrg Y c) Q)) (kA K) (kS K) (kc K) (ks K) (gS g)) (hdd : 2 ≤ dd) (u1 : Int) (u2 : Int) (k : Int → Int → Mem → Option (Mem × Int)) (hk : ∀ (v3 : Int) (v4 : Int) (C : Mem), wpO (k v3 v4 C) Q → Wn K g (mrg Y C) 68 [some (.ref (gA g 95)), some (.int (I (u1))), some (.int (I (u2))), some (.int (I (v3))), some (.int (I (v4)))] []) : ∀ (n : Nat) (v3 : Int) (v4 : Int) (C : Mem), wpO (f_X8_beginsSo_22 u1 u2 k n v3 v4 C) Q → Wn K g (mrg Y C) 22 [some (.ref (gA g 95)), some (.int (I (u1))), some (.int (I (u2))), some (.int (I (v3))), some (.int (I (v4)))] [] := by
  intro n
  induction n with
  | zero => intro v3 v4 C h; exact (wpO_none h).elim
  | succ n ih =>
    intro v3 v4 C h
    unfold f_X8_beginsSo_22 at h
    refine r_iload hK dX8_beginsSo_22 rfl ?_
    refine r_aload_n hK dX8_beginsSo_24 rfl ?_
    refine r_getI (k := 95) hK cls_8 fl_RX8_111 (by decide) (by omega) rfl rfl dX8_beginsSo_25 (mrg_x (by omega)) ?_
    refine r_icmp_ge hK dX8_beginsSo_28 (t := 68) (by decide) (wpO_lt h) (fun h => ?_) (fun h => ?_)
    · refine r_iload_n hK dX8_beginsSo_31 rfl ?_
      refine r_if_eq hK dX8_beginsSo_32 (t := 68) (by decide) (wpO_eq h) (fun h => ?_) (fun h => ?_)
      · exact hk (v3) (v4) C h
      · refine r_aload_n hK dX8_beginsSo_35 rfl ?_
        refine r_iload_n hK dX8_beginsSo_36 rfl ?_
        refine r_iload_n hK dX8_beginsSo_37 rfl ?_
        refine r_iconst hK dX8_beginsSo_38 ?_
        refine r_iadd hK dX8_beginsSo_39 ?_
        refine r_iload hK dX8_beginsSo_40 rfl ?_
        refine r_iadd hK dX8_beginsSo_42 ?_
        refine r_callV hK ck_X8_at im_X8_at sl_X8_at ml_RX8_69 (by omega) (c_X8_at (l := kL K) (g := g) (Y := Y) (u1) ((u2 + 1) + v4) C (wpO_bd h)) cls_8 (k := 95) (by omega) rfl (As := [.int (I (u1)), .int (I ((u2 + 1) + v4))]) (st := []) rfl (Nat.le_of_ble_eq_true rfl) dX8_beginsSo_43 (kkI (fun C43 r43 h => ?_))
        refine r_aload_n hK dX8_beginsSo_46 rfl ?_
        refine r_getR (k := 95) (k' := (101)) hK cls_8 fl_RX8_29 (by decide) (by omega) rfl rfl dX8_beginsSo_47 ?_
        refine r_iload hK dX8_beginsSo_50 rfl ?_
        obtain ⟨hb52, h⟩ := wpO_ix h
        refine r_iaload (k := (101)) hK (by omega) rfl (by decide) hb52 dX8_beginsSo_52 (mrg_x (by omega)) ?_
        refine r_icmp_ne hK dX8_beginsSo_53 (t := 60) (by decide) (wpO_eq h) (fun h => ?_) (fun h => ?_)
        · refine r_iconst hK dX8_beginsSo_56 ?_
          refine r_goto hK dX8_beginsSo_57 (t := 61) (by decide) ?_
          refine r_istore_n hK dX8_beginsSo_61 (by rw [hN]; decide) rfl (lv' := [some (.ref (gA g 95)), some (.int (I (u1))), some (.int (I (u2))), some (.int (I (1))), some (.int (I (v4)))]) rfl ?_
          refine r_iinc hK dX8_beginsSo_62 (by rw [hN]; decide) rfl rfl (lv' := [some (.ref (gA g 95)), some (.int (I (u1))), some (.int (I (u2))), some (.int (I (1))), some (.int (I (v4 + 1)))]) rfl ?_
          refine r_goto hK dX8_beginsSo_65 (t := 22) (by decide) ?_
          exact ih (1) (v4 + 1) C43 h
        · refine r_iconst hK dX8_beginsSo_60 ?_
          refine r_istore_n hK dX8_beginsSo_61 (by rw [hN]; decide) rfl (lv' := [some (.ref (gA g 95)), some (.int (I (u1))), some (.int (I (u2))), some (.int (I (0))), some (.int (I (v4)))]) rfl ?_
          refine r_iinc hK dX8_beginsSo_62 (by rw [hN]; decide) rfl rfl (lv' := [some (.ref (gA g 95)), some (.int (I (u1))), some (.int (I (u2))), some (.int (I (0))), some (.int (I (v4 + 1)))]) rfl ?_
          refine r_goto hK dX8_beginsSo_65 (t := 22) (by decide) ?_
          exact ih (0) (v4 + 1) C43 h
    · exact hk (v3) (v4) C h
set_option maxRecDepth 100000 in
set_option maxHeartbeats 4000000 in
theorem c_X8_beginsSo {l : Launch} {g : GT} {Y : Mem} {Q : Mem → Int → Prop} (a1 : Int) (a2 : Int) (C : Mem) (h : wpO (f_X8_beginsSo a1 a2 C) Q) : MetC l yX8_beginsSo cX8_beginsSo 5 (some .boolean) 2 g [.ref (gA g 95), .int (I (a1)), .int (I (a2))] (mrg Y C) (QI (fun c => mrg Y c) Q) := by
  refine met_at 2 (lv := [some (.ref (gA g 95)), some (.int (I (a1))), some (.int (I (a2))), none, none]) (by decide) (Nat.le_of_ble_eq_true rfl) rfl rfl (fun K hK hN hr hQ => ?_)
  unfold f_X8_beginsSo at h
  refine r_aload_n hK dX8_beginsSo_0 rfl ?_
  refine r_iload_n hK dX8_beginsSo_1 rfl ?_
  refine r_iload_n hK dX8_beginsSo_2 rfl ?_
  refine r_callV hK ck_X8_at im_X8_at sl_X8_at ml_RX8_69 (by omega) (c_X8_at (l := kL K) (g := g) (Y := Y) (a1) (a2) C (wpO_bd h)) cls_8 (k := 95) (by omega) rfl (As := [.int (I (a1)), .int (I (a2))]) (st := []) rfl (Nat.le_of_ble_eq_true rfl) dX8_beginsSo_3 (kkI (fun C3 r3 h => ?_))
  refine r_aload_n hK dX8_beginsSo_6 rfl ?_
  refine r_getI (k := 95) hK cls_8 fl_RX8_111 (by decide) (by omega) rfl rfl dX8_beginsSo_7 (mrg_x (by omega)) ?_
  refine r_jn (J := fun j18 => ∀ (s0_18 : Int), wpO (j18 s0_18) Q → Wn K g (mrg Y C3) 18 [some (.ref (gA g 95)), some (.int (I (a1))), some (.int (I (a2))), none, none] [.int (I (s0_18))]) h ?_ ?_
  · intro s0_18 h
    refine r_istore_n hK dX8_beginsSo_18 (by rw [hN]; decide) rfl (lv' := [some (.ref (gA g 95)), some (.int (I (a1))), some (.int (I (a2))), some (.int (I (s0_18))), none]) rfl ?_
    refine r_iconst hK dX8_beginsSo_19 ?_
    refine r_istore hK dX8_beginsSo_20 (by rw [hN]; decide) rfl (lv' := [some (.ref (gA g 95)), some (.int (I (a1))), some (.int (I (a2))), some (.int (I (s0_18))), some (.int (I (0)))]) rfl ?_
    refine w_X8_beginsSo_22 hK hN hr hQ (by omega) (a1) (a2) _ (fun v3_e22 v4_e22 C_e22 h => ?_) FU (s0_18) (0) C3 h
    refine r_iload_n hK dX8_beginsSo_68 rfl ?_
    obtain ⟨hbo69, h⟩ := wpO_bo h
    exact r_ireturn hK hr hQ (nar_b hbo69) dX8_beginsSo_69 ⟨C_e22, v3_e22, rfl, rfl, wpO_some h⟩
  · intro hj18 h
    refine r_icmp_lt hK dX8_beginsSo_10 (t := 17) (by decide) (wpO_lt h) (fun h => ?_) (fun h => ?_)
    · refine r_iconst hK dX8_beginsSo_17 ?_
      exact hj18 (0) h
    · refine r_iconst hK dX8_beginsSo_13 ?_
      refine r_goto hK dX8_beginsSo_14 (t := 18) (by decide) ?_
      exact hj18 (1) h
set_option maxRecDepth 100000 in
set_option maxHeartbeats 4000000 in
theorem w_X8_rank_47 {K : KT} {g : GT} {Y : Mem} {dd : Nat} (hK : Kok K g cX8_rank RX8 dd) (hN : kN K = 9) (hr : (kMe K).sig.returnType = (some .int)) {Q : Mem → Int → Prop} (hQ : kQ K = MQ (kB K) (Qc g (QI (fun c => mrg Y c) Q)) (kA K) (kS K) (kc K) (ks K) (gS g)) (hdd : 3 ≤ dd) (u3 : Int) (u5 : Int) (k : Int → Int → Int → Mem → Option (Mem × Int)) (hk : ∀ (v4 : Int) (v6 : Int) (v7 : Int) (C : Mem), wpO (k v4 v6 v7 C) Q → Wn K g (mrg Y C) 128 [some (.ref (gA g 95)), none, none, some (.int (I (u3))), some (.int (I (v4))), some (.int (I (u5))), some (.int (I (v6))), some (.int (I (v7))), none] []) : ∀ (n : Nat) (v4 : Int) (v6 : Int) (v7 : Int) (C : Mem), wpO (f_X8_rank_47 u3 u5 k n v4 v6 v7 C) Q → Wn K g (mrg Y C) 47 [some (.ref (gA g 95)), none, none, some (.int (I (u3))), some (.int (I (v4))), some (.int (I (u5))), some (.int (I (v6))), some (.int (I (v7))), none] [] := by
  intro n
  induction n with
  | zero => intro v4 v6 v7 C h; exact (wpO_none h).elim
  | succ n ih =>
    intro v4 v6 v7 C h
    unfold f_X8_rank_47 at h
    refine r_iload hK dX8_rank_47 rfl ?_
    refine r_aload_n hK dX8_rank_49 rfl ?_
    refine r_iload hK dX8_rank_50 rfl ?_
    refine r_iconst hK dX8_rank_52 ?_
    refine r_callV hK ck_X8_at im_X8_at sl_X8_at ml_RX8_69 (by omega) (c_X8_at (l := kL K) (g := g) (Y := Y) (u5) (1) C (wpO_bd h)) cls_8 (k := 95) (by omega) rfl (As := [.int (I (u5)), .int (I (1))]) (st := [.int (I (v7))]) rfl (Nat.le_of_ble_eq_true rfl) dX8_rank_53 (kkI (fun C53 r53 h => ?_))
    refine r_icmp_ge hK dX8_rank_56 (t := 128) (by decide) (wpO_lt h) (fun h => ?_) (fun h => ?_)
    · refine r_iload_n hK dX8_rank_59 rfl ?_
      refine r_jn (J := fun j90 => ∀ (s0_90 : Int) (C_90 : Mem), wpO (j90 s0_90 C_90) Q → Wn K g (mrg Y C_90) 90 [some (.ref (gA g 95)), none, none, some (.int (I (u3))), some (.int (I (v4))), some (.int (I (u5))), some (.int (I (v6))), some (.int (I (v7))), none] [.int (I (s0_90))]) h ?_ ?_
      · intro s0_90 C_90 h
        refine r_istore hK dX8_rank_90 (by rw [hN]; decide) rfl (lv' := [some (.ref (gA g 95)), none, none, some (.int (I (u3))), some (.int (I (v4))), some (.int (I (u5))), some (.int (I (v6))), some (.int (I (v7))), some (.int (I (s0_90)))]) rfl ?_
        refine r_iload hK dX8_rank_92 rfl ?_
        refine r_iload hK dX8_rank_94 rfl ?_
        refine r_jn (J := fun j104 => ∀ (s1_104 : Int), wpO (j104 s1_104) Q → Wn K g (mrg Y C_90) 104 [some (.ref (gA g 95)), none, none, some (.int (I (u3))), none, some (.int (I (u5))), some (.int (I (v6))), some (.int (I (v7))), none] [.int (I (s1_104)), .int (I (v4))]) h ?_ ?_
        · intro s1_104 h
          refine r_iadd hK dX8_rank_104 ?_
          refine r_istore hK dX8_rank_105 (by rw [hN]; decide) rfl (lv' := [some (.ref (gA g 95)), none, none, some (.int (I (u3))), some (.int (I (v4 + s1_104))), some (.int (I (u5))), some (.int (I (v6))), some (.int (I (v7))), none]) rfl ?_
          refine r_iload hK dX8_rank_107 rfl ?_
          refine r_aload_n hK dX8_rank_109 rfl ?_
          refine r_iload hK dX8_rank_110 rfl ?_
          refine r_iload hK dX8_rank_112 rfl ?_
          refine r_callV hK ck_X8_at im_X8_at sl_X8_at ml_RX8_69 (by omega) (c_X8_at (l := kL K) (g := g) (Y := Y) (u5) (v6) C_90 (wpO_bd h)) cls_8 (k := 95) (by omega) rfl (As := [.int (I (u5)), .int (I (v6))]) (st := [.int (I (v6))]) rfl (Nat.le_of_ble_eq_true rfl) dX8_rank_114 (kkI (fun C114 r114 h => ?_))
          refine r_iconst hK dX8_rank_117 ?_
          refine r_iadd hK dX8_rank_118 ?_
          refine r_iadd hK dX8_rank_119 ?_
          refine r_istore hK dX8_rank_120 (by rw [hN]; decide) rfl (lv' := [some (.ref (gA g 95)), none, none, some (.int (I (u3))), some (.int (I (v4 + s1_104))), some (.int (I (u5))), some (.int (I (v6 + (r114 + 2)))), some (.int (I (v7))), none]) rfl ?_
          refine r_iinc hK dX8_rank_122 (by rw [hN]; decide) rfl rfl (lv' := [some (.ref (gA g 95)), none, none, some (.int (I (u3))), some (.int (I (v4 + s1_104))), some (.int (I (u5))), some (.int (I (v6 + (r114 + 2)))), some (.int (I (v7 + 1))), none]) rfl ?_
          refine r_goto hK dX8_rank_125 (t := 47) (by decide) ?_
          exact ih (v4 + s1_104) (v6 + (r114 + 2)) (v7 + 1) C114 h
        · intro hj104 h
          refine r_if_eq hK dX8_rank_96 (t := 103) (by decide) (wpO_eq h) (fun h => ?_) (fun h => ?_)
          · refine r_iconst hK dX8_rank_103 ?_
            refine r_cut [true, false, false, true, false, true, true, true, false] (lv' := [some (.ref (gA g 95)), none, none, some (.int (I (u3))), none, some (.int (I (u5))), some (.int (I (v6))), some (.int (I (v7))), none]) rfl ?_
            exact hj104 (0) h
          · refine r_iconst hK dX8_rank_99 ?_
            refine r_goto hK dX8_rank_100 (t := 104) (by decide) ?_
            refine r_cut [true, false, false, true, false, true, true, true, false] (lv' := [some (.ref (gA g 95)), none, none, some (.int (I (u3))), none, some (.int (I (u5))), some (.int (I (v6))), some (.int (I (v7))), none]) rfl ?_
            exact hj104 (1) h
      · intro hj90 h
        refine r_if_ne hK dX8_rank_60 (t := 82) (by decide) (wpO_eq h) (fun h => ?_) (fun h => ?_)
        · refine r_aload_n hK dX8_rank_63 rfl ?_
          refine r_iload hK dX8_rank_64 rfl ?_
          refine r_iload hK dX8_rank_66 rfl ?_
          refine r_callV hK ck_X8_against im_X8_against sl_X8_against ml_RX8_121 (by omega) (c_X8_against (l := kL K) (g := g) (Y := Y) (u5) (v6) C53 (wpO_bd h)) cls_8 (k := 95) (by omega) rfl (As := [.int (I (u5)), .int (I (v6))]) (st := []) rfl (Nat.le_of_ble_eq_true rfl) dX8_rank_68 (kkI (fun C68 r68 h => ?_))
          refine r_if_le hK dX8_rank_71 (t := 78) (by decide) (wpO_lt h) (fun h => ?_) (fun h => ?_)
          · refine r_iconst hK dX8_rank_74 ?_
            refine r_goto hK dX8_rank_75 (t := 90) (by decide) ?_
            exact hj90 (1) C68 h
          · refine r_iconst hK dX8_rank_78 ?_
            refine r_goto hK dX8_rank_79 (t := 90) (by decide) ?_
            exact hj90 (0) C68 h
        · refine r_aload_n hK dX8_rank_82 rfl ?_
          refine r_iload hK dX8_rank_83 rfl ?_
          refine r_iload hK dX8_rank_85 rfl ?_
          refine r_callV hK ck_X8_beginsSo im_X8_beginsSo sl_X8_beginsSo ml_RX8_206 (by omega) (c_X8_beginsSo (l := kL K) (g := g) (Y := Y) (u5) (v6) C53 (wpO_bd h)) cls_8 (k := 95) (by omega) rfl (As := [.int (I (u5)), .int (I (v6))]) (st := []) rfl (Nat.le_of_ble_eq_true rfl) dX8_rank_87 (kkI (fun C87 r87 h => ?_))
          exact hj90 (r87) C87 h
    · exact hk (v4) (v6) (v7) C53 h
set_option maxRecDepth 100000 in
set_option maxHeartbeats 4000000 in
theorem w_X8_rank_34 {K : KT} {g : GT} {Y : Mem} {dd : Nat} (hK : Kok K g cX8_rank RX8 dd) (hN : kN K = 9) (hr : (kMe K).sig.returnType = (some .int)) {Q : Mem → Int → Prop} (hQ : kQ K = MQ (kB K) (Qc g (QI (fun c => mrg Y c) Q)) (kA K) (kS K) (kc K) (ks K) (gS g)) (hdd : 3 ≤ dd) (u3 : Int) (k : Int → Int → Mem → Option (Mem × Int)) (hk : ∀ (v4 : Int) (v5 : Int) (C : Mem), wpO (k v4 v5 C) Q → Wn K g (mrg Y C) 139 [some (.ref (gA g 95)), none, none, some (.int (I (u3))), some (.int (I (v4))), some (.int (I (v5))), none, none, none] []) : ∀ (n : Nat) (v4 : Int) (v5 : Int) (C : Mem), wpO (f_X8_rank_34 u3 k n v4 v5 C) Q → Wn K g (mrg Y C) 34 [some (.ref (gA g 95)), none, none, some (.int (I (u3))), some (.int (I (v4))), some (.int (I (v5))), none, none, none] [] := by
  intro n
  induction n with
  | zero => intro v4 v5 C h; exact (wpO_none h).elim
  | succ n ih =>
    intro v4 v5 C h
    unfold f_X8_rank_34 at h
    refine r_iload hK dX8_rank_34 rfl ?_
    refine r_bipush hK dX8_rank_36 (by decide) ?_
    refine r_icmp_eq hK dX8_rank_38 (t := 139) (by decide) (wpO_eq h) (fun h => ?_) (fun h => ?_)
    · exact hk (v4) (v5) C h
    · refine r_iconst hK dX8_rank_41 ?_
      refine r_istore hK dX8_rank_42 (by rw [hN]; decide) rfl (lv' := [some (.ref (gA g 95)), none, none, some (.int (I (u3))), some (.int (I (v4))), some (.int (I (v5))), some (.int (I (3))), none, none]) rfl ?_
      refine r_iconst hK dX8_rank_44 ?_
      refine r_istore hK dX8_rank_45 (by rw [hN]; decide) rfl (lv' := [some (.ref (gA g 95)), none, none, some (.int (I (u3))), some (.int (I (v4))), some (.int (I (v5))), some (.int (I (3))), some (.int (I (0))), none]) rfl ?_
      refine w_X8_rank_47 hK hN hr hQ (by omega) (u3) (v5) _ (fun v4_e47 v6_e47 v7_e47 C_e47 h => ?_) FU (v4) (3) (0) C h
      refine r_aload_n hK dX8_rank_128 rfl ?_
      refine r_iload hK dX8_rank_129 rfl ?_
      refine r_callV hK ck_X8_nextLeaf im_X8_nextLeaf sl_X8_nextLeaf ml_RX8_209 (by omega) (c_X8_nextLeaf (l := kL K) (g := g) (Y := Y) (v5) C_e47 (wpO_bd h)) cls_8 (k := 95) (by omega) rfl (As := [.int (I (v5))]) (st := []) rfl (Nat.le_of_ble_eq_true rfl) dX8_rank_131 (kkI (fun C131 r131 h => ?_))
      refine r_istore hK dX8_rank_134 (by rw [hN]; decide) rfl (lv' := [some (.ref (gA g 95)), none, none, some (.int (I (u3))), some (.int (I (v4_e47))), some (.int (I (r131))), some (.int (I (v6_e47))), some (.int (I (v7_e47))), none]) rfl ?_
      refine r_goto hK dX8_rank_136 (t := 34) (by decide) ?_
      refine r_cut [true, false, false, true, true, true, false, false, false] (lv' := [some (.ref (gA g 95)), none, none, some (.int (I (u3))), some (.int (I (v4_e47))), some (.int (I (r131))), none, none, none]) rfl ?_
      exact ih (v4_e47) (r131) C131 h
set_option maxRecDepth 100000 in
set_option maxHeartbeats 4000000 in
theorem c_X8_rank {l : Launch} {g : GT} {Y : Mem} {Q : Mem → Int → Prop} (a1 : Int) (a2 : Int) (a3 : Int) (C : Mem) (h : wpO (f_X8_rank a1 a2 a3 C) Q) : MetC l yX8_rank cX8_rank 9 (some .int) 3 g [.ref (gA g 95), .int (I (a1)), .int (I (a2)), .int (I (a3))] (mrg Y C) (QI (fun c => mrg Y c) Q) := by
  refine met_at 5 (lv := [some (.ref (gA g 95)), some (.int (I (a1))), some (.int (I (a2))), some (.int (I (a3))), none, none, none, none, none]) (by decide) (Nat.le_of_ble_eq_true rfl) rfl rfl (fun K hK hN hr hQ => ?_)
  unfold f_X8_rank at h
  refine r_iload_n hK dX8_rank_0 rfl ?_
  refine r_iload_n hK dX8_rank_1 rfl ?_
  refine r_callS hK ck_X8_isSpelled sc_X8_isSpelled ml_RX8_162 (by omega) (c_X8_isSpelled (l := kL K) (g := g) (Y := Y) (a1) (a2) C (wpO_bd h)) (As := [.int (I (a1)), .int (I (a2))]) (st := []) rfl (Nat.le_of_ble_eq_true rfl) dX8_rank_2 (kkI (fun C2 r2 h => ?_))
  refine r_if_eq hK dX8_rank_5 (t := 17) (by decide) (wpO_eq h) (fun h => ?_) (fun h => ?_)
  · refine r_iconst hK dX8_rank_17 ?_
    exact r_ireturn hK hr hQ rfl dX8_rank_18 ⟨C2, (-1), rfl, rfl, wpO_some h⟩
  · refine r_iload_n hK dX8_rank_8 rfl ?_
    refine r_iconst hK dX8_rank_9 ?_
    refine r_iconst hK dX8_rank_10 ?_
    refine r_callS hK ck_X8_in sc_X8_in ml_RX8_114 (by omega) (c_X8_in (l := kL K) (g := g) (Y := Y) (a3) (0) (1) C2 (wpO_bd h)) (As := [.int (I (a3)), .int (I (0)), .int (I (1))]) (st := []) rfl (Nat.le_of_ble_eq_true rfl) dX8_rank_11 (kkI (fun C11 r11 h => ?_))
    refine r_if_ne hK dX8_rank_14 (t := 19) (by decide) (wpO_eq h) (fun h => ?_) (fun h => ?_)
    · refine r_iconst hK dX8_rank_17 ?_
      exact r_ireturn hK hr hQ rfl dX8_rank_18 ⟨C11, (-1), rfl, rfl, wpO_some h⟩
    · refine r_aload_n hK dX8_rank_19 rfl ?_
      refine r_iload_n hK dX8_rank_20 rfl ?_
      refine r_iload_n hK dX8_rank_21 rfl ?_
      refine r_callV hK ck_X8_spells im_X8_spells sl_X8_spells ml_RX8_165 (by omega) (c_X8_spells (l := kL K) (g := g) (Y := Y) (a1) (a2) C11 (wpO_bd h)) cls_8 (k := 95) (by omega) rfl (As := [.int (I (a1)), .int (I (a2))]) (st := []) rfl (Nat.le_of_ble_eq_true rfl) dX8_rank_22 (kkV (fun C22 h => ?_))
      refine r_iconst hK dX8_rank_25 ?_
      refine r_istore hK dX8_rank_26 (by rw [hN]; decide) rfl (lv' := [some (.ref (gA g 95)), some (.int (I (a1))), some (.int (I (a2))), some (.int (I (a3))), some (.int (I (0))), none, none, none, none]) rfl ?_
      refine r_aload_n hK dX8_rank_28 rfl ?_
      refine r_callV hK ck_X8_firstLeaf im_X8_firstLeaf sl_X8_firstLeaf ml_RX8_203 (by omega) (c_X8_firstLeaf (l := kL K) (g := g) (Y := Y) C22 (wpO_bd h)) cls_8 (k := 95) (by omega) rfl (As := []) (st := []) rfl (Nat.le_of_ble_eq_true rfl) dX8_rank_29 (kkI (fun C29 r29 h => ?_))
      refine r_istore hK dX8_rank_32 (by rw [hN]; decide) rfl (lv' := [some (.ref (gA g 95)), some (.int (I (a1))), some (.int (I (a2))), some (.int (I (a3))), some (.int (I (0))), some (.int (I (r29))), none, none, none]) rfl ?_
      refine r_cut [true, false, false, true, true, true, false, false, false] (lv' := [some (.ref (gA g 95)), none, none, some (.int (I (a3))), some (.int (I (0))), some (.int (I (r29))), none, none, none]) rfl ?_
      refine w_X8_rank_34 hK hN hr hQ (by omega) (a3) _ (fun v4_e34 v5_e34 C_e34 h => ?_) FU (0) (r29) C29 h
      refine r_iload hK dX8_rank_139 rfl ?_
      exact r_ireturn hK hr hQ rfl dX8_rank_141 ⟨C_e34, v4_e34, rfl, rfl, wpO_some h⟩

set_option maxRecDepth 100000 in
set_option maxHeartbeats 4000000 in
theorem w_X2_copyFrom_2 {K : KT} {g : GT} {X : Mem} {dd : Nat} (hK : Kok K g cX2_copyFrom RX2 dd) (hN : kN K = 3) (hr : (kMe K).sig.returnType = none) {Q : Mem → Int → Prop} (hQ : kQ K = MQ (kB K) (Qc g (QV (fun c => mrg c X) Q)) (kA K) (kS K) (kc K) (ks K) (gS g)) (hdd : 2 ≤ dd) (u0 : Nat) (hu0 : u0 < 2) (k : Int → Mem → Option (Mem × Int)) (hk : ∀ (v2 : Int) (C : Mem), wpO (k v2 C) Q → Wn K g (mrg C X) 38 [some (.ref (gA g (6 + u0))), some (.ref (gA g 1)), some (.int (I (v2)))] []) : ∀ (n : Nat) (v2 : Int) (C : Mem), wpO (f_X2_copyFrom_2 u0 k n v2 C) Q → Wn K g (mrg C X) 2 [some (.ref (gA g (6 + u0))), some (.ref (gA g 1)), some (.int (I (v2)))] [] := by
  intro n
  induction n with
  | zero => intro v2 C h; exact (wpO_none h).elim
  | succ n ih =>
    intro v2 C h
    unfold f_X2_copyFrom_2 at h
    refine r_iload_n hK dX2_copyFrom_2 rfl ?_
    refine r_aload_n hK dX2_copyFrom_3 rfl ?_
    refine r_getR (k := (6 + u0)) (k' := (8 + u0)) hK cls_2 fl_RX2_9 (by decide) (by omega) (sh_img hu0) rfl dX2_copyFrom_4 ?_
    refine r_alen (k := (8 + u0)) hK (by omega) (sh_ib hu0) (by decide) dX2_copyFrom_7 ?_
    refine r_icmp_ge hK dX2_copyFrom_8 (t := 38) (by decide) (wpO_lt h) (fun h => ?_) (fun h => ?_)
    · refine r_aload_n hK dX2_copyFrom_11 rfl ?_
      refine r_getR (k := (6 + u0)) (k' := (8 + u0)) hK cls_2 fl_RX2_9 (by decide) (by omega) (sh_img hu0) rfl dX2_copyFrom_12 ?_
      refine r_iload_n hK dX2_copyFrom_15 rfl ?_
      refine r_aload_n hK dX2_copyFrom_16 rfl ?_
      refine r_iload_n hK dX2_copyFrom_17 rfl ?_
      refine r_bipush hK dX2_copyFrom_18 (by decide) ?_
      obtain ⟨hd20, h⟩ := wpO_dv h
      refine r_idiv hK hd20 (by decide) dX2_copyFrom_20 ?_
      refine r_callV hK ck_X6_pageOf im_X6_pageOf sl_X6_pageOf ml_RX2_15 (by omega) (c_X6_pageOf (l := kL K) (g := g) (X := X) (v2 / 64) C (wpO_bd h)) cls_6 (k := 1) (by omega) rfl (As := [.int (I (v2 / 64))]) (st := [.int (I (v2)), .ref (gA g (8 + u0))]) rfl (Nat.le_of_ble_eq_true rfl) dX2_copyFrom_21 (kkP (fun C21 r21 hr21 h => ?_))
      refine r_iload_n hK dX2_copyFrom_24 rfl ?_
      refine r_bipush hK dX2_copyFrom_25 (by decide) ?_
      obtain ⟨hd27, h⟩ := wpO_dv h
      refine r_irem hK hd27 (by decide) dX2_copyFrom_27 ?_
      refine r_callV hK ck_X4_at im_X4_at sl_X4_at ml_RX2_21 (by omega) (c_X4_at (l := kL K) (g := g) (X := X) r21 (v2 % 64) hr21 C21 (wpO_bd h)) cls_4 (k := (27 + r21)) (by omega) (sh_page hr21) (As := [.int (I (v2 % 64))]) (st := [.int (I (v2)), .ref (gA g (8 + u0))]) rfl (Nat.le_of_ble_eq_true rfl) dX2_copyFrom_28 (kkI (fun C28 r28 h => ?_))
      obtain ⟨hb31, h⟩ := wpO_ix h
      refine r_iastore (k := (8 + u0)) hK (by omega) (sh_ib hu0) (by decide) hb31 dX2_copyFrom_31 (up_c (by omega)) ?_
      refine r_iinc hK dX2_copyFrom_32 (by rw [hN]; decide) rfl rfl (lv' := [some (.ref (gA g (6 + u0))), some (.ref (gA g 1)), some (.int (I (v2 + 1)))]) rfl ?_
      refine r_goto hK dX2_copyFrom_35 (t := 2) (by decide) ?_
      exact ih (v2 + 1) (up C28 (8 + u0) (v2).toNat (r28)) h
    · exact hk (v2) C h
set_option maxRecDepth 100000 in
set_option maxHeartbeats 4000000 in
theorem c_X2_copyFrom {l : Launch} {g : GT} {X : Mem} {Q : Mem → Int → Prop} (a0 : Nat) (ha0 : a0 < 2) (C : Mem) (h : wpO (f_X2_copyFrom a0 C) Q) : MetC l yX2_copyFrom cX2_copyFrom 3 none 2 g [.ref (gA g (6 + a0)), .ref (gA g 1)] (mrg C X) (QV (fun c => mrg c X) Q) := by
  refine met_at 1 (lv := [some (.ref (gA g (6 + a0))), some (.ref (gA g 1)), none]) (by decide) (Nat.le_of_ble_eq_true rfl) rfl rfl (fun K hK hN hr hQ => ?_)
  unfold f_X2_copyFrom at h
  refine r_iconst hK dX2_copyFrom_0 ?_
  refine r_istore_n hK dX2_copyFrom_1 (by rw [hN]; decide) rfl (lv' := [some (.ref (gA g (6 + a0))), some (.ref (gA g 1)), some (.int (I (0)))]) rfl ?_
  refine w_X2_copyFrom_2 hK hN hr hQ (by omega) a0 ha0 _ (fun v2_e2 C_e2 h => ?_) FU (0) C h
  refine r_aload_n hK dX2_copyFrom_38 rfl ?_
  refine r_aload_n hK dX2_copyFrom_39 rfl ?_
  refine r_getIN (k := 1) hK cls_6 fl_RX2_27 (by decide) (by omega) rfl rfl dX2_copyFrom_40 (mrg_c (by omega)) ?_
  refine r_put (k := (6 + a0)) hK cls_2 fl_RX2_31 (by decide) (by omega) (sh_img ha0) rfl rfl rfl rfl dX2_copyFrom_43 (up_c (by omega)) ?_
  refine r_aload_n hK dX2_copyFrom_46 rfl ?_
  refine r_aload_n hK dX2_copyFrom_47 rfl ?_
  refine r_getIN (k := 1) hK cls_6 fl_RX2_32 (by decide) (by omega) rfl rfl dX2_copyFrom_48 (mrg_c (by omega)) ?_
  refine r_put (k := (6 + a0)) hK cls_2 fl_RX2_35 (by decide) (by omega) (sh_img ha0) rfl rfl rfl rfl dX2_copyFrom_51 (up_c (by omega)) ?_
  refine r_aload_n hK dX2_copyFrom_54 rfl ?_
  refine r_iconst hK dX2_copyFrom_55 ?_
  refine r_put (k := (6 + a0)) hK cls_2 fl_RX2_36 (by decide) (by omega) (sh_img ha0) rfl rfl (by decide) (by decide) dX2_copyFrom_56 (up_c (by omega)) ?_
  exact r_return hK hr hQ dX2_copyFrom_59 ⟨(up (up (up C_e2 (6 + a0) 1 (C_e2 1 4)) (6 + a0) 2 ((up C_e2 (6 + a0) 1 (C_e2 1 4)) 1 5)) (6 + a0) 3 (1)), rfl, rfl, wpO_some h⟩
set_option maxRecDepth 100000 in
set_option maxHeartbeats 4000000 in
theorem w_X2_copyTo_2 {K : KT} {g : GT} {X : Mem} {dd : Nat} (hK : Kok K g cX2_copyTo RX2 dd) (hN : kN K = 3) (hr : (kMe K).sig.returnType = none) {Q : Mem → Int → Prop} (hQ : kQ K = MQ (kB K) (Qc g (QV (fun c => mrg c X) Q)) (kA K) (kS K) (kc K) (ks K) (gS g)) (hdd : 2 ≤ dd) (u0 : Nat) (hu0 : u0 < 2) (k : Int → Mem → Option (Mem × Int)) (hk : ∀ (v2 : Int) (C : Mem), wpO (k v2 C) Q → Wn K g (mrg C X) 38 [some (.ref (gA g (6 + u0))), some (.ref (gA g 1)), some (.int (I (v2)))] []) : ∀ (n : Nat) (v2 : Int) (C : Mem), wpO (f_X2_copyTo_2 u0 k n v2 C) Q → Wn K g (mrg C X) 2 [some (.ref (gA g (6 + u0))), some (.ref (gA g 1)), some (.int (I (v2)))] [] := by
  intro n
  induction n with
  | zero => intro v2 C h; exact (wpO_none h).elim
  | succ n ih =>
    intro v2 C h
    unfold f_X2_copyTo_2 at h
    refine r_iload_n hK dX2_copyTo_2 rfl ?_
    refine r_aload_n hK dX2_copyTo_3 rfl ?_
    refine r_getR (k := (6 + u0)) (k' := (8 + u0)) hK cls_2 fl_RX2_9 (by decide) (by omega) (sh_img hu0) rfl dX2_copyTo_4 ?_
    refine r_alen (k := (8 + u0)) hK (by omega) (sh_ib hu0) (by decide) dX2_copyTo_7 ?_
    refine r_icmp_ge hK dX2_copyTo_8 (t := 38) (by decide) (wpO_lt h) (fun h => ?_) (fun h => ?_)
    · refine r_aload_n hK dX2_copyTo_11 rfl ?_
      refine r_iload_n hK dX2_copyTo_12 rfl ?_
      refine r_bipush hK dX2_copyTo_13 (by decide) ?_
      obtain ⟨hd15, h⟩ := wpO_dv h
      refine r_idiv hK hd15 (by decide) dX2_copyTo_15 ?_
      refine r_callV hK ck_X6_pageOf im_X6_pageOf sl_X6_pageOf ml_RX2_15 (by omega) (c_X6_pageOf (l := kL K) (g := g) (X := X) (v2 / 64) C (wpO_bd h)) cls_6 (k := 1) (by omega) rfl (As := [.int (I (v2 / 64))]) (st := []) rfl (Nat.le_of_ble_eq_true rfl) dX2_copyTo_16 (kkP (fun C16 r16 hr16 h => ?_))
      refine r_iload_n hK dX2_copyTo_19 rfl ?_
      refine r_bipush hK dX2_copyTo_20 (by decide) ?_
      obtain ⟨hd22, h⟩ := wpO_dv h
      refine r_irem hK hd22 (by decide) dX2_copyTo_22 ?_
      refine r_aload_n hK dX2_copyTo_23 rfl ?_
      refine r_getR (k := (6 + u0)) (k' := (8 + u0)) hK cls_2 fl_RX2_9 (by decide) (by omega) (sh_img hu0) rfl dX2_copyTo_24 ?_
      refine r_iload_n hK dX2_copyTo_27 rfl ?_
      obtain ⟨hb28, h⟩ := wpO_ix h
      refine r_iaload (k := (8 + u0)) hK (by omega) (sh_ib hu0) (by decide) hb28 dX2_copyTo_28 (mrg_c (by omega)) ?_
      refine r_callV hK ck_X4_set im_X4_set sl_X4_set ml_RX2_40 (by omega) (c_X4_set (l := kL K) (g := g) (X := X) r16 (v2 % 64) (C16 (8 + u0) (v2).toNat) hr16 C16 (wpO_bd h)) cls_4 (k := (27 + r16)) (by omega) (sh_page hr16) (As := [.int (I (v2 % 64)), .int (I (C16 (8 + u0) (v2).toNat))]) (st := []) rfl (Nat.le_of_ble_eq_true rfl) dX2_copyTo_29 (kkV (fun C29 h => ?_))
      refine r_iinc hK dX2_copyTo_32 (by rw [hN]; decide) rfl rfl (lv' := [some (.ref (gA g (6 + u0))), some (.ref (gA g 1)), some (.int (I (v2 + 1)))]) rfl ?_
      refine r_goto hK dX2_copyTo_35 (t := 2) (by decide) ?_
      exact ih (v2 + 1) C29 h
    · exact hk (v2) C h
set_option maxRecDepth 100000 in
set_option maxHeartbeats 4000000 in
theorem c_X2_copyTo {l : Launch} {g : GT} {X : Mem} {Q : Mem → Int → Prop} (a0 : Nat) (ha0 : a0 < 2) (C : Mem) (h : wpO (f_X2_copyTo a0 C) Q) : MetC l yX2_copyTo cX2_copyTo 3 none 2 g [.ref (gA g (6 + a0)), .ref (gA g 1)] (mrg C X) (QV (fun c => mrg c X) Q) := by
  refine met_at 1 (lv := [some (.ref (gA g (6 + a0))), some (.ref (gA g 1)), none]) (by decide) (Nat.le_of_ble_eq_true rfl) rfl rfl (fun K hK hN hr hQ => ?_)
  unfold f_X2_copyTo at h
  refine r_iconst hK dX2_copyTo_0 ?_
  refine r_istore_n hK dX2_copyTo_1 (by rw [hN]; decide) rfl (lv' := [some (.ref (gA g (6 + a0))), some (.ref (gA g 1)), some (.int (I (0)))]) rfl ?_
  refine w_X2_copyTo_2 hK hN hr hQ (by omega) a0 ha0 _ (fun v2_e2 C_e2 h => ?_) FU (0) C h
  refine r_aload_n hK dX2_copyTo_38 rfl ?_
  refine r_aload_n hK dX2_copyTo_39 rfl ?_
  refine r_getI (k := (6 + a0)) hK cls_2 fl_RX2_31 (by decide) (by omega) (sh_img ha0) rfl dX2_copyTo_40 (mrg_c (by omega)) ?_
  refine r_putN (k := 1) hK cls_6 fl_RX2_27 (by decide) (by omega) rfl rfl rfl rfl rfl dX2_copyTo_43 (up_c (by omega)) ?_
  refine r_aload_n hK dX2_copyTo_46 rfl ?_
  refine r_aload_n hK dX2_copyTo_47 rfl ?_
  refine r_getI (k := (6 + a0)) hK cls_2 fl_RX2_35 (by decide) (by omega) (sh_img ha0) rfl dX2_copyTo_48 (mrg_c (by omega)) ?_
  refine r_putN (k := 1) hK cls_6 fl_RX2_32 (by decide) (by omega) rfl rfl rfl rfl rfl dX2_copyTo_51 (up_c (by omega)) ?_
  exact r_return hK hr hQ dX2_copyTo_54 ⟨(up (up C_e2 1 4 (C_e2 (6 + a0) 1)) 1 5 ((up C_e2 1 4 (C_e2 (6 + a0) 1)) (6 + a0) 2)), rfl, rfl, wpO_some h⟩

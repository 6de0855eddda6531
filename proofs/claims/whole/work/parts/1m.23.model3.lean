set_option maxRecDepth 100000 in
set_option maxHeartbeats 4000000 in
theorem w_X8_wrongNext_2 {K : KT} {g : GT} {Y : Mem} {dd : Nat} (hK : Kok K g cX8_wrongNext RX8 dd) (hN : kN K = 3) (hr : (kMe K).sig.returnType = (some .int)) {Q : Mem → Int → Prop} (hQ : kQ K = MQ (kB K) (Qc g (QI (fun c => mrg Y c) Q)) (kA K) (kS K) (kc K) (ks K) (gS g)) (hdd : 2 ≤ dd) (k : Int → Mem → Option (Mem × Int)) (hk : ∀ (v1 : Int) (C : Mem), wpO (k v1 C) Q → Wn K g (mrg Y C) 67 [some (.ref (gA g 95)), some (.int (I (v1))), none] []) : ∀ (n : Nat) (v1 : Int) (C : Mem), wpO (f_X8_wrongNext_2 k n v1 C) Q → Wn K g (mrg Y C) 2 [some (.ref (gA g 95)), some (.int (I (v1))), none] [] := by
  intro n
  induction n with
  | zero => intro v1 C h; exact (wpO_none h).elim
  | succ n ih =>
    intro v1 C h
    unfold f_X8_wrongNext_2 at h
    refine r_iload_n hK dX8_wrongNext_2 rfl ?_
    refine r_aload_n hK dX8_wrongNext_3 rfl ?_
    refine r_getI (k := 95) hK cls_8 fl_RX8_258 (by decide) (by omega) rfl rfl dX8_wrongNext_4 (mrg_x (by omega)) ?_
    refine r_icmp_ge hK dX8_wrongNext_7 (t := 67) (by decide) (wpO_lt h) (fun h => ?_) (fun h => ?_)
    · refine r_iload_n hK dX8_wrongNext_10 rfl ?_
      refine r_iconst hK dX8_wrongNext_11 ?_
      refine r_iadd hK dX8_wrongNext_12 ?_
      refine r_aload_n hK dX8_wrongNext_13 rfl ?_
      refine r_getI (k := 95) hK cls_8 fl_RX8_258 (by decide) (by omega) rfl rfl dX8_wrongNext_14 (mrg_x (by omega)) ?_
      refine r_jn (J := fun j34 => ∀ (s0_34 : Int), wpO (j34 s0_34) Q → Wn K g (mrg Y C) 34 [some (.ref (gA g 95)), some (.int (I (v1))), none] [.int (I (s0_34))]) h ?_ ?_
      · intro s0_34 h
        refine r_istore_n hK dX8_wrongNext_34 (by rw [hN]; decide) rfl (lv' := [some (.ref (gA g 95)), some (.int (I (v1))), some (.int (I (s0_34)))]) rfl ?_
        refine r_aload_n hK dX8_wrongNext_35 rfl ?_
        refine r_aload_n hK dX8_wrongNext_36 rfl ?_
        refine r_getR (k := 95) (k' := (109)) hK cls_8 fl_RX8_54 (by decide) (by omega) rfl rfl dX8_wrongNext_37 ?_
        refine r_iload_n hK dX8_wrongNext_40 rfl ?_
        obtain ⟨hb41, h⟩ := wpO_ix h
        refine r_iaload (k := (109)) hK (by omega) rfl (by decide) hb41 dX8_wrongNext_41 (mrg_x (by omega)) ?_
        refine r_iconst hK dX8_wrongNext_42 ?_
        refine r_callV hK ck_X8_as im_X8_as sl_X8_as ml_RX8_227 (by omega) (c_X8_as (l := kL K) (g := g) (Y := Y) (C (109) (v1).toNat) (2) C (wpO_bd h)) cls_8 (k := 95) (by omega) rfl (As := [.int (I (C (109) (v1).toNat)), .int (I (2))]) (st := []) rfl (Nat.le_of_ble_eq_true rfl) dX8_wrongNext_43 (kkI (fun C43 r43 h => ?_))
        refine r_iload_n hK dX8_wrongNext_46 rfl ?_
        refine r_icmp_eq hK dX8_wrongNext_47 (t := 61) (by decide) (wpO_eq h) (fun h => ?_) (fun h => ?_)
        · refine r_iinc hK dX8_wrongNext_61 (by rw [hN]; decide) rfl rfl (lv' := [some (.ref (gA g 95)), some (.int (I (v1 + 1))), some (.int (I (s0_34)))]) rfl ?_
          refine r_goto hK dX8_wrongNext_64 (t := 2) (by decide) ?_
          refine r_cut [true, true, false] (lv' := [some (.ref (gA g 95)), some (.int (I (v1 + 1))), none]) rfl ?_
          exact ih (v1 + 1) C43 h
        · refine r_sipush hK dX8_wrongNext_50 (by decide) ?_
          refine r_aload_n hK dX8_wrongNext_53 rfl ?_
          refine r_getR (k := 95) (k' := (109)) hK cls_8 fl_RX8_54 (by decide) (by omega) rfl rfl dX8_wrongNext_54 ?_
          refine r_iload_n hK dX8_wrongNext_57 rfl ?_
          obtain ⟨hb58, h⟩ := wpO_ix h
          refine r_iaload (k := (109)) hK (by omega) rfl (by decide) hb58 dX8_wrongNext_58 (mrg_x (by omega)) ?_
          refine r_iadd hK dX8_wrongNext_59 ?_
          exact r_ireturn hK hr hQ rfl dX8_wrongNext_60 ⟨C43, (600 + (C43 (109) (v1).toNat)), rfl, rfl, wpO_some h⟩
      · intro hj34 h
        refine r_icmp_ge hK dX8_wrongNext_17 (t := 33) (by decide) (wpO_lt h) (fun h => ?_) (fun h => ?_)
        · refine r_aload_n hK dX8_wrongNext_20 rfl ?_
          refine r_getR (k := 95) (k' := (109)) hK cls_8 fl_RX8_54 (by decide) (by omega) rfl rfl dX8_wrongNext_21 ?_
          refine r_iload_n hK dX8_wrongNext_24 rfl ?_
          refine r_iconst hK dX8_wrongNext_25 ?_
          refine r_iadd hK dX8_wrongNext_26 ?_
          obtain ⟨hb27, h⟩ := wpO_ix h
          refine r_iaload (k := (109)) hK (by omega) rfl (by decide) hb27 dX8_wrongNext_27 (mrg_x (by omega)) ?_
          refine r_iconst hK dX8_wrongNext_28 ?_
          refine r_iadd hK dX8_wrongNext_29 ?_
          refine r_goto hK dX8_wrongNext_30 (t := 34) (by decide) ?_
          exact hj34 ((C (109) (v1 + 1).toNat) + 1) h
        · refine r_iconst hK dX8_wrongNext_33 ?_
          exact hj34 (0) h
    · exact hk (v1) C h
set_option maxRecDepth 100000 in
set_option maxHeartbeats 4000000 in
theorem c_X8_wrongNext {l : Launch} {g : GT} {Y : Mem} {Q : Mem → Int → Prop} (C : Mem) (h : wpO (f_X8_wrongNext C) Q) : MetC l yX8_wrongNext cX8_wrongNext 3 (some .int) 2 g [.ref (gA g 95)] (mrg Y C) (QI (fun c => mrg Y c) Q) := by
  refine met_at 2 (lv := [some (.ref (gA g 95)), none, none]) (by decide) (Nat.le_of_ble_eq_true rfl) rfl rfl (fun K hK hN hr hQ => ?_)
  unfold f_X8_wrongNext at h
  refine r_iconst hK dX8_wrongNext_0 ?_
  refine r_istore_n hK dX8_wrongNext_1 (by rw [hN]; decide) rfl (lv' := [some (.ref (gA g 95)), some (.int (I (0))), none]) rfl ?_
  refine w_X8_wrongNext_2 hK hN hr hQ (by omega) _ (fun v1_e2 C_e2 h => ?_) FU (0) C h
  refine r_iconst hK dX8_wrongNext_67 ?_
  exact r_ireturn hK hr hQ rfl dX8_wrongNext_68 ⟨C_e2, 0, rfl, rfl, wpO_some h⟩
set_option maxRecDepth 100000 in
set_option maxHeartbeats 4000000 in
theorem w_X8_wrongFree_12 {K : KT} {g : GT} {Y : Mem} {dd : Nat} (hK : Kok K g cX8_wrongFree RX8 dd) (hN : kN K = 4) (hr : (kMe K).sig.returnType = (some .int)) {Q : Mem → Int → Prop} (hQ : kQ K = MQ (kB K) (Qc g (QI (fun c => mrg Y c) Q)) (kA K) (kS K) (kc K) (ks K) (gS g)) (hdd : 2 ≤ dd) (u1 : Int) (k : Int → Int → Mem → Option (Mem × Int)) (hk : ∀ (v2 : Int) (v3 : Int) (C : Mem), wpO (k v2 v3 C) Q → Wn K g (mrg Y C) 43 [some (.ref (gA g 95)), some (.int (I (u1))), some (.int (I (v2))), some (.int (I (v3)))] []) : ∀ (n : Nat) (v2 : Int) (v3 : Int) (C : Mem), wpO (f_X8_wrongFree_12 u1 k n v2 v3 C) Q → Wn K g (mrg Y C) 12 [some (.ref (gA g 95)), some (.int (I (u1))), some (.int (I (v2))), some (.int (I (v3)))] [] := by
  intro n
  induction n with
  | zero => intro v2 v3 C h; exact (wpO_none h).elim
  | succ n ih =>
    intro v2 v3 C h
    unfold f_X8_wrongFree_12 at h
    refine r_iload_n hK dX8_wrongFree_12 rfl ?_
    refine r_bipush hK dX8_wrongFree_13 (by decide) ?_
    refine r_icmp_ge hK dX8_wrongFree_15 (t := 43) (by decide) (wpO_lt h) (fun h => ?_) (fun h => ?_)
    · refine r_iload_n hK dX8_wrongFree_18 rfl ?_
      refine r_if_eq hK dX8_wrongFree_19 (t := 35) (by decide) (wpO_eq h) (fun h => ?_) (fun h => ?_)
      · refine r_iconst hK dX8_wrongFree_35 ?_
        refine r_istore_n hK dX8_wrongFree_36 (by rw [hN]; decide) rfl (lv' := [some (.ref (gA g 95)), some (.int (I (u1))), some (.int (I (0))), some (.int (I (v3)))]) rfl ?_
        refine r_iinc hK dX8_wrongFree_37 (by rw [hN]; decide) rfl rfl (lv' := [some (.ref (gA g 95)), some (.int (I (u1))), some (.int (I (0))), some (.int (I (v3 + 1)))]) rfl ?_
        refine r_goto hK dX8_wrongFree_40 (t := 12) (by decide) ?_
        exact ih (0) (v3 + 1) C h
      · refine r_aload_n hK dX8_wrongFree_22 rfl ?_
        refine r_iload_n hK dX8_wrongFree_23 rfl ?_
        refine r_iload_n hK dX8_wrongFree_24 rfl ?_
        refine r_callV hK ck_X8_as im_X8_as sl_X8_as ml_RX8_227 (by omega) (c_X8_as (l := kL K) (g := g) (Y := Y) (u1) (v3) C (wpO_bd h)) cls_8 (k := 95) (by omega) rfl (As := [.int (I (u1)), .int (I (v3))]) (st := []) rfl (Nat.le_of_ble_eq_true rfl) dX8_wrongFree_25 (kkI (fun C25 r25 h => ?_))
        refine r_if_ne hK dX8_wrongFree_28 (t := 35) (by decide) (wpO_eq h) (fun h => ?_) (fun h => ?_)
        · refine r_iconst hK dX8_wrongFree_31 ?_
          refine r_goto hK dX8_wrongFree_32 (t := 36) (by decide) ?_
          refine r_istore_n hK dX8_wrongFree_36 (by rw [hN]; decide) rfl (lv' := [some (.ref (gA g 95)), some (.int (I (u1))), some (.int (I (1))), some (.int (I (v3)))]) rfl ?_
          refine r_iinc hK dX8_wrongFree_37 (by rw [hN]; decide) rfl rfl (lv' := [some (.ref (gA g 95)), some (.int (I (u1))), some (.int (I (1))), some (.int (I (v3 + 1)))]) rfl ?_
          refine r_goto hK dX8_wrongFree_40 (t := 12) (by decide) ?_
          exact ih (1) (v3 + 1) C25 h
        · refine r_iconst hK dX8_wrongFree_35 ?_
          refine r_istore_n hK dX8_wrongFree_36 (by rw [hN]; decide) rfl (lv' := [some (.ref (gA g 95)), some (.int (I (u1))), some (.int (I (0))), some (.int (I (v3)))]) rfl ?_
          refine r_iinc hK dX8_wrongFree_37 (by rw [hN]; decide) rfl rfl (lv' := [some (.ref (gA g 95)), some (.int (I (u1))), some (.int (I (0))), some (.int (I (v3 + 1)))]) rfl ?_
          refine r_goto hK dX8_wrongFree_40 (t := 12) (by decide) ?_
          exact ih (0) (v3 + 1) C25 h
    · exact hk (v2) (v3) C h
set_option maxRecDepth 100000 in
set_option maxHeartbeats 4000000 in
theorem w_X8_wrongFree_2 {K : KT} {g : GT} {Y : Mem} {dd : Nat} (hK : Kok K g cX8_wrongFree RX8 dd) (hN : kN K = 4) (hr : (kMe K).sig.returnType = (some .int)) {Q : Mem → Int → Prop} (hQ : kQ K = MQ (kB K) (Qc g (QI (fun c => mrg Y c) Q)) (kA K) (kS K) (kc K) (ks K) (gS g)) (hdd : 2 ≤ dd) (k : Int → Mem → Option (Mem × Int)) (hk : ∀ (v1 : Int) (C : Mem), wpO (k v1 C) Q → Wn K g (mrg Y C) 68 [some (.ref (gA g 95)), some (.int (I (v1))), none, none] []) : ∀ (n : Nat) (v1 : Int) (C : Mem), wpO (f_X8_wrongFree_2 k n v1 C) Q → Wn K g (mrg Y C) 2 [some (.ref (gA g 95)), some (.int (I (v1))), none, none] [] := by
  intro n
  induction n with
  | zero => intro v1 C h; exact (wpO_none h).elim
  | succ n ih =>
    intro v1 C h
    unfold f_X8_wrongFree_2 at h
    refine r_iload_n hK dX8_wrongFree_2 rfl ?_
    refine r_bipush hK dX8_wrongFree_3 (by decide) ?_
    refine r_icmp_ge hK dX8_wrongFree_5 (t := 68) (by decide) (wpO_lt h) (fun h => ?_) (fun h => ?_)
    · refine r_iconst hK dX8_wrongFree_8 ?_
      refine r_istore_n hK dX8_wrongFree_9 (by rw [hN]; decide) rfl (lv' := [some (.ref (gA g 95)), some (.int (I (v1))), some (.int (I (1))), none]) rfl ?_
      refine r_iconst hK dX8_wrongFree_10 ?_
      refine r_istore_n hK dX8_wrongFree_11 (by rw [hN]; decide) rfl (lv' := [some (.ref (gA g 95)), some (.int (I (v1))), some (.int (I (1))), some (.int (I (0)))]) rfl ?_
      refine w_X8_wrongFree_12 hK hN hr hQ (by omega) (v1) _ (fun v2_e12 v3_e12 C_e12 h => ?_) FU (1) (0) C h
      refine r_aload_n hK dX8_wrongFree_43 rfl ?_
      refine r_getR (k := 95) (k' := (104)) hK cls_8 fl_RX8_38 (by decide) (by omega) rfl rfl dX8_wrongFree_44 ?_
      refine r_iload_n hK dX8_wrongFree_47 rfl ?_
      obtain ⟨hb48, h⟩ := wpO_ix h
      refine r_baload (k := (104)) hK (by omega) rfl (by decide) hb48 dX8_wrongFree_48 (mrg_x (by omega)) ?_
      refine r_if_ne hK dX8_wrongFree_49 (t := 62) (by decide) (wpO_eq h) (fun h => ?_) (fun h => ?_)
      · refine r_iload_n hK dX8_wrongFree_52 rfl ?_
        refine r_if_ne hK dX8_wrongFree_53 (t := 62) (by decide) (wpO_eq h) (fun h => ?_) (fun h => ?_)
        · refine r_sipush hK dX8_wrongFree_56 (by decide) ?_
          refine r_iload_n hK dX8_wrongFree_59 rfl ?_
          refine r_iadd hK dX8_wrongFree_60 ?_
          exact r_ireturn hK hr hQ rfl dX8_wrongFree_61 ⟨C_e12, (700 + v1), rfl, rfl, wpO_some h⟩
        · refine r_iinc hK dX8_wrongFree_62 (by rw [hN]; decide) rfl rfl (lv' := [some (.ref (gA g 95)), some (.int (I (v1 + 1))), some (.int (I (v2_e12))), some (.int (I (v3_e12)))]) rfl ?_
          refine r_goto hK dX8_wrongFree_65 (t := 2) (by decide) ?_
          refine r_cut [true, true, false, false] (lv' := [some (.ref (gA g 95)), some (.int (I (v1 + 1))), none, none]) rfl ?_
          exact ih (v1 + 1) C_e12 h
      · refine r_iinc hK dX8_wrongFree_62 (by rw [hN]; decide) rfl rfl (lv' := [some (.ref (gA g 95)), some (.int (I (v1 + 1))), some (.int (I (v2_e12))), some (.int (I (v3_e12)))]) rfl ?_
        refine r_goto hK dX8_wrongFree_65 (t := 2) (by decide) ?_
        refine r_cut [true, true, false, false] (lv' := [some (.ref (gA g 95)), some (.int (I (v1 + 1))), none, none]) rfl ?_
        exact ih (v1 + 1) C_e12 h
    · exact hk (v1) C h
set_option maxRecDepth 100000 in
set_option maxHeartbeats 4000000 in
theorem c_X8_wrongFree {l : Launch} {g : GT} {Y : Mem} {Q : Mem → Int → Prop} (C : Mem) (h : wpO (f_X8_wrongFree C) Q) : MetC l yX8_wrongFree cX8_wrongFree 4 (some .int) 2 g [.ref (gA g 95)] (mrg Y C) (QI (fun c => mrg Y c) Q) := by
  refine met_at 3 (lv := [some (.ref (gA g 95)), none, none, none]) (by decide) (Nat.le_of_ble_eq_true rfl) rfl rfl (fun K hK hN hr hQ => ?_)
  unfold f_X8_wrongFree at h
  refine r_iconst hK dX8_wrongFree_0 ?_
  refine r_istore_n hK dX8_wrongFree_1 (by rw [hN]; decide) rfl (lv' := [some (.ref (gA g 95)), some (.int (I (0))), none, none]) rfl ?_
  refine w_X8_wrongFree_2 hK hN hr hQ (by omega) _ (fun v1_e2 C_e2 h => ?_) FU (0) C h
  refine r_iconst hK dX8_wrongFree_68 ?_
  exact r_ireturn hK hr hQ rfl dX8_wrongFree_69 ⟨C_e2, 0, rfl, rfl, wpO_some h⟩
set_option maxRecDepth 100000 in
set_option maxHeartbeats 4000000 in
theorem c_X8_check {l : Launch} {g : GT} {Y : Mem} {Q : Mem → Int → Prop} (a1 : Int) (a2 : Int) (a3 : Int) (C : Mem) (h : wpO (f_X8_check a1 a2 a3 C) Q) : MetC l yX8_check cX8_check 5 (some .int) 6 g [.ref (gA g 95), .int (I (a1)), .int (I (a2)), .int (I (a3))] (mrg Y C) (QI (fun c => mrg Y c) Q) := by
  refine met_at 1 (lv := [some (.ref (gA g 95)), some (.int (I (a1))), some (.int (I (a2))), some (.int (I (a3))), none]) (by decide) (Nat.le_of_ble_eq_true rfl) rfl rfl (fun K hK hN hr hQ => ?_)
  unfold f_X8_check at h
  refine r_iload_n hK dX8_check_0 rfl ?_
  refine r_callS hK ck_X8_isPage sc_X8_isPage ml_RX8_218 (by omega) (c_X8_isPage (l := kL K) (g := g) (Y := Y) (a1) C (wpO_bd h)) (As := [.int (I (a1))]) (st := []) rfl (Nat.le_of_ble_eq_true rfl) dX8_check_1 (kkI (fun C1 r1 h => ?_))
  refine r_if_eq hK dX8_check_4 (t := 28) (by decide) (wpO_eq h) (fun h => ?_) (fun h => ?_)
  · refine r_iconst hK dX8_check_28 ?_
    exact r_ireturn hK hr hQ rfl dX8_check_29 ⟨C1, (-1), rfl, rfl, wpO_some h⟩
  · refine r_iload_n hK dX8_check_7 rfl ?_
    refine r_iconst hK dX8_check_8 ?_
    refine r_bipush hK dX8_check_9 (by decide) ?_
    refine r_callS hK ck_X8_in sc_X8_in ml_RX8_114 (by omega) (c_X8_in (l := kL K) (g := g) (Y := Y) (a2) (0) (63) C1 (wpO_bd h)) (As := [.int (I (a2)), .int (I (0)), .int (I (63))]) (st := []) rfl (Nat.le_of_ble_eq_true rfl) dX8_check_11 (kkI (fun C11 r11 h => ?_))
    refine r_if_eq hK dX8_check_14 (t := 28) (by decide) (wpO_eq h) (fun h => ?_) (fun h => ?_)
    · refine r_iconst hK dX8_check_28 ?_
      exact r_ireturn hK hr hQ rfl dX8_check_29 ⟨C11, (-1), rfl, rfl, wpO_some h⟩
    · refine r_iload_n hK dX8_check_17 rfl ?_
      refine r_iconst hK dX8_check_18 ?_
      refine r_sipush hK dX8_check_19 (by decide) ?_
      refine r_callS hK ck_X8_in sc_X8_in ml_RX8_114 (by omega) (c_X8_in (l := kL K) (g := g) (Y := Y) (a3) (0) (255) C11 (wpO_bd h)) (As := [.int (I (a3)), .int (I (0)), .int (I (255))]) (st := []) rfl (Nat.le_of_ble_eq_true rfl) dX8_check_22 (kkI (fun C22 r22 h => ?_))
      refine r_if_ne hK dX8_check_25 (t := 30) (by decide) (wpO_eq h) (fun h => ?_) (fun h => ?_)
      · refine r_iconst hK dX8_check_28 ?_
        exact r_ireturn hK hr hQ rfl dX8_check_29 ⟨C22, (-1), rfl, rfl, wpO_some h⟩
      · refine r_aload_n hK dX8_check_30 rfl ?_
        refine r_bipush hK dX8_check_31 (by decide) ?_
        refine r_iload_n hK dX8_check_33 rfl ?_
        refine r_imul hK dX8_check_34 ?_
        refine r_iload_n hK dX8_check_35 rfl ?_
        refine r_iadd hK dX8_check_36 ?_
        refine r_put (k := 95) hK cls_8 fl_RX8_221 (by decide) (by omega) rfl rfl rfl rfl rfl dX8_check_37 (up_x (by omega)) ?_
        refine r_aload_n hK dX8_check_40 rfl ?_
        refine r_iload_n hK dX8_check_41 rfl ?_
        refine r_put (k := 95) hK cls_8 fl_RX8_224 (by decide) (by omega) rfl rfl rfl rfl rfl dX8_check_42 (up_x (by omega)) ?_
        refine r_aload_n hK dX8_check_45 rfl ?_
        refine r_callV hK ck_X8_wrongDown im_X8_wrongDown sl_X8_wrongDown ml_RX8_268 (by omega) (c_X8_wrongDown (l := kL K) (g := g) (Y := Y) (up (up C22 95 16 ((64 * a1) + a2)) 95 17 (a3)) (wpO_bd h)) cls_8 (k := 95) (by omega) rfl (As := []) (st := []) rfl (Nat.le_of_ble_eq_true rfl) dX8_check_46 (kkI (fun C46 r46 h => ?_))
        refine r_istore hK dX8_check_49 (by rw [hN]; decide) rfl (lv' := [some (.ref (gA g 95)), some (.int (I (a1))), some (.int (I (a2))), some (.int (I (a3))), some (.int (I (r46)))]) rfl ?_
        refine r_iload hK dX8_check_51 rfl ?_
        refine r_jn (J := fun j65 => ∀ (s0_65 : Int) (C_65 : Mem), wpO (j65 s0_65 C_65) Q → Wn K g (mrg Y C_65) 65 [some (.ref (gA g 95)), none, none, none, none] [.int (I (s0_65))]) h ?_ ?_
        · intro s0_65 C_65 h
          refine r_istore hK dX8_check_65 (by rw [hN]; decide) rfl (lv' := [some (.ref (gA g 95)), none, none, none, some (.int (I (s0_65)))]) rfl ?_
          refine r_iload hK dX8_check_67 rfl ?_
          refine r_if_ne hK dX8_check_69 (t := 79) (by decide) (wpO_eq h) (fun h => ?_) (fun h => ?_)
          · refine r_aload_n hK dX8_check_72 rfl ?_
            refine r_callV hK ck_X8_wrongFree im_X8_wrongFree sl_X8_wrongFree ml_RX8_274 (by omega) (c_X8_wrongFree (l := kL K) (g := g) (Y := Y) C_65 (wpO_bd h)) cls_8 (k := 95) (by omega) rfl (As := []) (st := []) rfl (Nat.le_of_ble_eq_true rfl) dX8_check_73 (kkI (fun C73 r73 h => ?_))
            refine r_goto hK dX8_check_76 (t := 81) (by decide) ?_
            exact r_ireturn hK hr hQ rfl dX8_check_81 ⟨C73, r73, rfl, rfl, wpO_some h⟩
          · refine r_iload hK dX8_check_79 rfl ?_
            exact r_ireturn hK hr hQ rfl dX8_check_81 ⟨C_65, s0_65, rfl, rfl, wpO_some h⟩
        · intro hj65 h
          refine r_if_ne hK dX8_check_53 (t := 63) (by decide) (wpO_eq h) (fun h => ?_) (fun h => ?_)
          · refine r_aload_n hK dX8_check_56 rfl ?_
            refine r_callV hK ck_X8_wrongNext im_X8_wrongNext sl_X8_wrongNext ml_RX8_271 (by omega) (c_X8_wrongNext (l := kL K) (g := g) (Y := Y) C46 (wpO_bd h)) cls_8 (k := 95) (by omega) rfl (As := []) (st := []) rfl (Nat.le_of_ble_eq_true rfl) dX8_check_57 (kkI (fun C57 r57 h => ?_))
            refine r_goto hK dX8_check_60 (t := 65) (by decide) ?_
            refine r_cut [true, false, false, false, false] (lv' := [some (.ref (gA g 95)), none, none, none, none]) rfl ?_
            exact hj65 (r57) C57 h
          · refine r_iload hK dX8_check_63 rfl ?_
            refine r_cut [true, false, false, false, false] (lv' := [some (.ref (gA g 95)), none, none, none, none]) rfl ?_
            exact hj65 (r46) C46 h
set_option maxRecDepth 100000 in
set_option maxHeartbeats 4000000 in
theorem w_X8_usedAll_4 {K : KT} {g : GT} {Y : Mem} {dd : Nat} (hK : Kok K g cX8_usedAll RX8 dd) (hN : kN K = 3) (hr : (kMe K).sig.returnType = (some .int)) {Q : Mem → Int → Prop} (hQ : kQ K = MQ (kB K) (Qc g (QI (fun c => mrg Y c) Q)) (kA K) (kS K) (kc K) (ks K) (gS g)) (hdd : 4 ≤ dd) (k : Int → Int → Mem → Option (Mem × Int)) (hk : ∀ (v1 : Int) (v2 : Int) (C : Mem), wpO (k v1 v2 C) Q → Wn K g (mrg Y C) 24 [some (.ref (gA g 95)), some (.int (I (v1))), some (.int (I (v2)))] []) : ∀ (n : Nat) (v1 : Int) (v2 : Int) (C : Mem), wpO (f_X8_usedAll_4 k n v1 v2 C) Q → Wn K g (mrg Y C) 4 [some (.ref (gA g 95)), some (.int (I (v1))), some (.int (I (v2)))] [] := by
  intro n
  induction n with
  | zero => intro v1 v2 C h; exact (wpO_none h).elim
  | succ n ih =>
    intro v1 v2 C h
    unfold f_X8_usedAll_4 at h
    refine r_iload_n hK dX8_usedAll_4 rfl ?_
    refine r_bipush hK dX8_usedAll_5 (by decide) ?_
    refine r_icmp_ge hK dX8_usedAll_7 (t := 24) (by decide) (wpO_lt h) (fun h => ?_) (fun h => ?_)
    · refine r_iload_n hK dX8_usedAll_10 rfl ?_
      refine r_aload_n hK dX8_usedAll_11 rfl ?_
      refine r_iload_n hK dX8_usedAll_12 rfl ?_
      refine r_callV hK ck_X8_usedOf im_X8_usedOf sl_X8_usedOf ml_RX8_174 (by omega) (c_X8_usedOf (l := kL K) (g := g) (Y := Y) (v2) C (wpO_bd h)) cls_8 (k := 95) (by omega) rfl (As := [.int (I (v2))]) (st := [.int (I (v1))]) rfl (Nat.le_of_ble_eq_true rfl) dX8_usedAll_13 (kkI (fun C13 r13 h => ?_))
      refine r_iadd hK dX8_usedAll_16 ?_
      refine r_istore_n hK dX8_usedAll_17 (by rw [hN]; decide) rfl (lv' := [some (.ref (gA g 95)), some (.int (I (v1 + r13))), some (.int (I (v2)))]) rfl ?_
      refine r_iinc hK dX8_usedAll_18 (by rw [hN]; decide) rfl rfl (lv' := [some (.ref (gA g 95)), some (.int (I (v1 + r13))), some (.int (I (v2 + 1)))]) rfl ?_
      refine r_goto hK dX8_usedAll_21 (t := 4) (by decide) ?_
      exact ih (v1 + r13) (v2 + 1) C13 h
    · exact hk (v1) (v2) C h
set_option maxRecDepth 100000 in
set_option maxHeartbeats 4000000 in
theorem c_X8_usedAll {l : Launch} {g : GT} {Y : Mem} {Q : Mem → Int → Prop} (C : Mem) (h : wpO (f_X8_usedAll C) Q) : MetC l yX8_usedAll cX8_usedAll 3 (some .int) 4 g [.ref (gA g 95)] (mrg Y C) (QI (fun c => mrg Y c) Q) := by
  refine met_at 2 (lv := [some (.ref (gA g 95)), none, none]) (by decide) (Nat.le_of_ble_eq_true rfl) rfl rfl (fun K hK hN hr hQ => ?_)
  unfold f_X8_usedAll at h
  refine r_iconst hK dX8_usedAll_0 ?_
  refine r_istore_n hK dX8_usedAll_1 (by rw [hN]; decide) rfl (lv' := [some (.ref (gA g 95)), some (.int (I (0))), none]) rfl ?_
  refine r_iconst hK dX8_usedAll_2 ?_
  refine r_istore_n hK dX8_usedAll_3 (by rw [hN]; decide) rfl (lv' := [some (.ref (gA g 95)), some (.int (I (0))), some (.int (I (0)))]) rfl ?_
  refine w_X8_usedAll_4 hK hN hr hQ (by omega) _ (fun v1_e4 v2_e4 C_e4 h => ?_) FU (0) (0) C h
  refine r_iload_n hK dX8_usedAll_24 rfl ?_
  exact r_ireturn hK hr hQ rfl dX8_usedAll_25 ⟨C_e4, v1_e4, rfl, rfl, wpO_some h⟩
set_option maxRecDepth 100000 in
set_option maxHeartbeats 4000000 in
theorem w_X8_sorted_4 {K : KT} {g : GT} {Y : Mem} {dd : Nat} (hK : Kok K g cX8_sorted RX8 dd) (hN : kN K = 4) (hr : (kMe K).sig.returnType = (some .int)) {Q : Mem → Int → Prop} (hQ : kQ K = MQ (kB K) (Qc g (QI (fun c => mrg Y c) Q)) (kA K) (kS K) (kc K) (ks K) (gS g)) (hdd : 2 ≤ dd) (u1 : Int) (k : Int → Int → Mem → Option (Mem × Int)) (hk : ∀ (v2 : Int) (v3 : Int) (C : Mem), wpO (k v2 v3 C) Q → Wn K g (mrg Y C) 34 [some (.ref (gA g 95)), some (.int (I (u1))), some (.int (I (v2))), some (.int (I (v3)))] []) : ∀ (n : Nat) (v2 : Int) (v3 : Int) (C : Mem), wpO (f_X8_sorted_4 u1 k n v2 v3 C) Q → Wn K g (mrg Y C) 4 [some (.ref (gA g 95)), some (.int (I (u1))), some (.int (I (v2))), some (.int (I (v3)))] [] := by
  intro n
  induction n with
  | zero => intro v2 v3 C h; exact (wpO_none h).elim
  | succ n ih =>
    intro v2 v3 C h
    unfold f_X8_sorted_4 at h
    refine r_iload_n hK dX8_sorted_4 rfl ?_
    refine r_bipush hK dX8_sorted_5 (by decide) ?_
    refine r_icmp_ge hK dX8_sorted_7 (t := 34) (by decide) (wpO_lt h) (fun h => ?_) (fun h => ?_)
    · refine r_iload_n hK dX8_sorted_10 rfl ?_
      refine r_aload_n hK dX8_sorted_11 rfl ?_
      refine r_iload_n hK dX8_sorted_12 rfl ?_
      refine r_iconst hK dX8_sorted_13 ?_
      refine r_callV hK ck_X8_at im_X8_at sl_X8_at ml_RX8_69 (by omega) (c_X8_at (l := kL K) (g := g) (Y := Y) (v3) (0) C (wpO_bd h)) cls_8 (k := 95) (by omega) rfl (As := [.int (I (v3)), .int (I (0))]) (st := [.int (I (v2))]) rfl (Nat.le_of_ble_eq_true rfl) dX8_sorted_14 (kkI (fun C14 r14 h => ?_))
      refine r_iload_n hK dX8_sorted_17 rfl ?_
      refine r_icmp_ne hK dX8_sorted_18 (t := 25) (by decide) (wpO_eq h) (fun h => ?_) (fun h => ?_)
      · refine r_iconst hK dX8_sorted_21 ?_
        refine r_goto hK dX8_sorted_22 (t := 26) (by decide) ?_
        refine r_iadd hK dX8_sorted_26 ?_
        refine r_istore_n hK dX8_sorted_27 (by rw [hN]; decide) rfl (lv' := [some (.ref (gA g 95)), some (.int (I (u1))), some (.int (I (v2 + 1))), some (.int (I (v3)))]) rfl ?_
        refine r_iinc hK dX8_sorted_28 (by rw [hN]; decide) rfl rfl (lv' := [some (.ref (gA g 95)), some (.int (I (u1))), some (.int (I (v2 + 1))), some (.int (I (v3 + 1)))]) rfl ?_
        refine r_goto hK dX8_sorted_31 (t := 4) (by decide) ?_
        exact ih (v2 + 1) (v3 + 1) C14 h
      · refine r_iconst hK dX8_sorted_25 ?_
        refine r_iadd hK dX8_sorted_26 ?_
        refine r_istore_n hK dX8_sorted_27 (by rw [hN]; decide) rfl (lv' := [some (.ref (gA g 95)), some (.int (I (u1))), some (.int (I (v2 + 0))), some (.int (I (v3)))]) rfl ?_
        refine r_iinc hK dX8_sorted_28 (by rw [hN]; decide) rfl rfl (lv' := [some (.ref (gA g 95)), some (.int (I (u1))), some (.int (I (v2 + 0))), some (.int (I (v3 + 1)))]) rfl ?_
        refine r_goto hK dX8_sorted_31 (t := 4) (by decide) ?_
        exact ih (v2 + 0) (v3 + 1) C14 h
    · exact hk (v2) (v3) C h
set_option maxRecDepth 100000 in
set_option maxHeartbeats 4000000 in
theorem c_X8_sorted {l : Launch} {g : GT} {Y : Mem} {Q : Mem → Int → Prop} (a1 : Int) (C : Mem) (h : wpO (f_X8_sorted a1 C) Q) : MetC l yX8_sorted cX8_sorted 4 (some .int) 2 g [.ref (gA g 95), .int (I (a1))] (mrg Y C) (QI (fun c => mrg Y c) Q) := by
  refine met_at 2 (lv := [some (.ref (gA g 95)), some (.int (I (a1))), none, none]) (by decide) (Nat.le_of_ble_eq_true rfl) rfl rfl (fun K hK hN hr hQ => ?_)
  unfold f_X8_sorted at h
  refine r_iconst hK dX8_sorted_0 ?_
  refine r_istore_n hK dX8_sorted_1 (by rw [hN]; decide) rfl (lv' := [some (.ref (gA g 95)), some (.int (I (a1))), some (.int (I (0))), none]) rfl ?_
  refine r_iconst hK dX8_sorted_2 ?_
  refine r_istore_n hK dX8_sorted_3 (by rw [hN]; decide) rfl (lv' := [some (.ref (gA g 95)), some (.int (I (a1))), some (.int (I (0))), some (.int (I (0)))]) rfl ?_
  refine w_X8_sorted_4 hK hN hr hQ (by omega) (a1) _ (fun v2_e4 v3_e4 C_e4 h => ?_) FU (0) (0) C h
  refine r_iload_n hK dX8_sorted_34 rfl ?_
  exact r_ireturn hK hr hQ rfl dX8_sorted_35 ⟨C_e4, v2_e4, rfl, rfl, wpO_some h⟩
set_option maxRecDepth 100000 in
set_option maxHeartbeats 4000000 in
theorem w_X8_separators_4 {K : KT} {g : GT} {Y : Mem} {dd : Nat} (hK : Kok K g cX8_separators RX8 dd) (hN : kN K = 3) (hr : (kMe K).sig.returnType = (some .int)) {Q : Mem → Int → Prop} (hQ : kQ K = MQ (kB K) (Qc g (QI (fun c => mrg Y c) Q)) (kA K) (kS K) (kc K) (ks K) (gS g)) (hdd : 4 ≤ dd) (k : Int → Int → Mem → Option (Mem × Int)) (hk : ∀ (v1 : Int) (v2 : Int) (C : Mem), wpO (k v1 v2 C) Q → Wn K g (mrg Y C) 49 [some (.ref (gA g 95)), some (.int (I (v1))), some (.int (I (v2)))] []) : ∀ (n : Nat) (v1 : Int) (v2 : Int) (C : Mem), wpO (f_X8_separators_4 k n v1 v2 C) Q → Wn K g (mrg Y C) 4 [some (.ref (gA g 95)), some (.int (I (v1))), some (.int (I (v2)))] [] := by
  intro n
  induction n with
  | zero => intro v1 v2 C h; exact (wpO_none h).elim
  | succ n ih =>
    intro v1 v2 C h
    unfold f_X8_separators_4 at h
    refine r_iload_n hK dX8_separators_4 rfl ?_
    refine r_bipush hK dX8_separators_5 (by decide) ?_
    refine r_icmp_ge hK dX8_separators_7 (t := 49) (by decide) (wpO_lt h) (fun h => ?_) (fun h => ?_)
    · refine r_iload_n hK dX8_separators_10 rfl ?_
      refine r_aload_n hK dX8_separators_11 rfl ?_
      refine r_iload_n hK dX8_separators_12 rfl ?_
      refine r_iconst hK dX8_separators_13 ?_
      refine r_callV hK ck_X8_at im_X8_at sl_X8_at ml_RX8_69 (by omega) (c_X8_at (l := kL K) (g := g) (Y := Y) (v2) (0) C (wpO_bd h)) cls_8 (k := 95) (by omega) rfl (As := [.int (I (v2)), .int (I (0))]) (st := [.int (I (v1))]) rfl (Nat.le_of_ble_eq_true rfl) dX8_separators_14 (kkI (fun C14 r14 h => ?_))
      refine r_iconst hK dX8_separators_17 ?_
      refine r_icmp_ne hK dX8_separators_18 (t := 40) (by decide) (wpO_eq h) (fun h => ?_) (fun h => ?_)
      · refine r_aload_n hK dX8_separators_21 rfl ?_
        refine r_iload_n hK dX8_separators_22 rfl ?_
        refine r_callV hK ck_X8_usedOf im_X8_usedOf sl_X8_usedOf ml_RX8_174 (by omega) (c_X8_usedOf (l := kL K) (g := g) (Y := Y) (v2) C14 (wpO_bd h)) cls_8 (k := 95) (by omega) rfl (As := [.int (I (v2))]) (st := [.int (I (v1))]) rfl (Nat.le_of_ble_eq_true rfl) dX8_separators_23 (kkI (fun C23 r23 h => ?_))
        refine r_iconst hK dX8_separators_26 ?_
        refine r_isub hK dX8_separators_27 ?_
        refine r_iconst hK dX8_separators_28 ?_
        refine r_aload_n hK dX8_separators_29 rfl ?_
        refine r_iload_n hK dX8_separators_30 rfl ?_
        refine r_iconst hK dX8_separators_31 ?_
        refine r_callV hK ck_X8_at im_X8_at sl_X8_at ml_RX8_69 (by omega) (c_X8_at (l := kL K) (g := g) (Y := Y) (v2) (1) C23 (wpO_bd h)) cls_8 (k := 95) (by omega) rfl (As := [.int (I (v2)), .int (I (1))]) (st := [.int (I (2)), .int (I (r23 - 3)), .int (I (v1))]) rfl (Nat.le_of_ble_eq_true rfl) dX8_separators_32 (kkI (fun C32 r32 h => ?_))
        refine r_imul hK dX8_separators_35 ?_
        refine r_isub hK dX8_separators_36 ?_
        refine r_goto hK dX8_separators_37 (t := 41) (by decide) ?_
        refine r_iadd hK dX8_separators_41 ?_
        refine r_istore_n hK dX8_separators_42 (by rw [hN]; decide) rfl (lv' := [some (.ref (gA g 95)), some (.int (I (v1 + ((r23 - 3) - (2 * r32))))), some (.int (I (v2)))]) rfl ?_
        refine r_iinc hK dX8_separators_43 (by rw [hN]; decide) rfl rfl (lv' := [some (.ref (gA g 95)), some (.int (I (v1 + ((r23 - 3) - (2 * r32))))), some (.int (I (v2 + 1)))]) rfl ?_
        refine r_goto hK dX8_separators_46 (t := 4) (by decide) ?_
        exact ih (v1 + ((r23 - 3) - (2 * r32))) (v2 + 1) C32 h
      · refine r_iconst hK dX8_separators_40 ?_
        refine r_iadd hK dX8_separators_41 ?_
        refine r_istore_n hK dX8_separators_42 (by rw [hN]; decide) rfl (lv' := [some (.ref (gA g 95)), some (.int (I (v1 + 0))), some (.int (I (v2)))]) rfl ?_
        refine r_iinc hK dX8_separators_43 (by rw [hN]; decide) rfl rfl (lv' := [some (.ref (gA g 95)), some (.int (I (v1 + 0))), some (.int (I (v2 + 1)))]) rfl ?_
        refine r_goto hK dX8_separators_46 (t := 4) (by decide) ?_
        exact ih (v1 + 0) (v2 + 1) C14 h
    · exact hk (v1) (v2) C h
set_option maxRecDepth 100000 in
set_option maxHeartbeats 4000000 in
theorem c_X8_separators {l : Launch} {g : GT} {Y : Mem} {Q : Mem → Int → Prop} (C : Mem) (h : wpO (f_X8_separators C) Q) : MetC l yX8_separators cX8_separators 3 (some .int) 4 g [.ref (gA g 95)] (mrg Y C) (QI (fun c => mrg Y c) Q) := by
  refine met_at 2 (lv := [some (.ref (gA g 95)), none, none]) (by decide) (Nat.le_of_ble_eq_true rfl) rfl rfl (fun K hK hN hr hQ => ?_)
  unfold f_X8_separators at h
  refine r_iconst hK dX8_separators_0 ?_
  refine r_istore_n hK dX8_separators_1 (by rw [hN]; decide) rfl (lv' := [some (.ref (gA g 95)), some (.int (I (0))), none]) rfl ?_
  refine r_iconst hK dX8_separators_2 ?_
  refine r_istore_n hK dX8_separators_3 (by rw [hN]; decide) rfl (lv' := [some (.ref (gA g 95)), some (.int (I (0))), some (.int (I (0)))]) rfl ?_
  refine w_X8_separators_4 hK hN hr hQ (by omega) _ (fun v1_e4 v2_e4 C_e4 h => ?_) FU (0) (0) C h
  refine r_iload_n hK dX8_separators_49 rfl ?_
  exact r_ireturn hK hr hQ rfl dX8_separators_50 ⟨C_e4, v1_e4, rfl, rfl, wpO_some h⟩
set_option maxRecDepth 100000 in
set_option maxHeartbeats 4000000 in
theorem c_X8_count {l : Launch} {g : GT} {Y : Mem} {Q : Mem → Int → Prop} (a1 : Int) (C : Mem) (h : wpO (f_X8_count a1 C) Q) : MetC l yX8_count cX8_count 2 (some .int) 5 g [.ref (gA g 95), .int (I (a1))] (mrg Y C) (QI (fun c => mrg Y c) Q) := by
  refine met_at 0 (lv := [some (.ref (gA g 95)), some (.int (I (a1)))]) (by decide) (Nat.le_of_ble_eq_true rfl) rfl rfl (fun K hK hN hr hQ => ?_)
  unfold f_X8_count at h
  refine r_iload_n hK dX8_count_0 rfl ?_
  refine r_iconst hK dX8_count_1 ?_
  refine r_bipush hK dX8_count_2 (by decide) ?_
  refine r_callS hK ck_X8_in sc_X8_in ml_RX8_114 (by omega) (c_X8_in (l := kL K) (g := g) (Y := Y) (a1) (0) (7) C (wpO_bd h)) (As := [.int (I (a1)), .int (I (0)), .int (I (7))]) (st := []) rfl (Nat.le_of_ble_eq_true rfl) dX8_count_4 (kkI (fun C4 r4 h => ?_))
  refine r_if_ne hK dX8_count_7 (t := 12) (by decide) (wpO_eq h) (fun h => ?_) (fun h => ?_)
  · refine r_iconst hK dX8_count_10 ?_
    exact r_ireturn hK hr hQ rfl dX8_count_11 ⟨C4, (-1), rfl, rfl, wpO_some h⟩
  · refine r_iload_n hK dX8_count_12 rfl ?_
    obtain ⟨hr13, hA, hB⟩ := wpO_eq h
    have hr13 := hr13.1
    by_cases hc13_0 : (a1) = 0
    · have h := hA hc13_0
      refine r_tabIn hK dX8_count_13 hr13 hc13_0 (by decide) (by decide) rfl (t := 56) (by decide) ?_
      refine r_aload_n hK dX8_count_56 rfl ?_
      refine r_callV hK ck_X8_keys im_X8_keys sl_X8_keys ml_RX8_212 (by omega) (c_X8_keys (l := kL K) (g := g) (Y := Y) C4 (wpO_bd h)) cls_8 (k := 95) (by omega) rfl (As := []) (st := []) rfl (Nat.le_of_ble_eq_true rfl) dX8_count_57 (kkI (fun C57 r57 h => ?_))
      exact r_ireturn hK hr hQ rfl dX8_count_60 ⟨C57, r57, rfl, rfl, wpO_some h⟩
    · have h := hB hc13_0
      obtain ⟨hr13, hA, hB⟩ := wpO_eq h
      have hr13 := hr13.1
      by_cases hc13_1 : (a1) = 1
      · have h := hA hc13_1
        refine r_tabIn hK dX8_count_13 hr13 hc13_1 (by decide) (by decide) rfl (t := 61) (by decide) ?_
        refine r_aload_n hK dX8_count_61 rfl ?_
        refine r_getI (k := 95) hK cls_8 fl_RX8_13 (by decide) (by omega) rfl rfl dX8_count_62 (mrg_x (by omega)) ?_
        exact r_ireturn hK hr hQ rfl dX8_count_65 ⟨C4, (C4 95 2), rfl, rfl, wpO_some h⟩
      · have h := hB hc13_1
        obtain ⟨hr13, hA, hB⟩ := wpO_eq h
        have hr13 := hr13.1
        by_cases hc13_2 : (a1) = 2
        · have h := hA hc13_2
          refine r_tabIn hK dX8_count_13 hr13 hc13_2 (by decide) (by decide) rfl (t := 66) (by decide) ?_
          refine r_aload_n hK dX8_count_66 rfl ?_
          refine r_getI (k := 95) hK cls_8 fl_RX8_118 (by decide) (by omega) rfl rfl dX8_count_67 (mrg_x (by omega)) ?_
          exact r_ireturn hK hr hQ rfl dX8_count_70 ⟨C4, (C4 95 1), rfl, rfl, wpO_some h⟩
        · have h := hB hc13_2
          obtain ⟨hr13, hA, hB⟩ := wpO_eq h
          have hr13 := hr13.1
          by_cases hc13_3 : (a1) = 3
          · have h := hA hc13_3
            refine r_tabIn hK dX8_count_13 hr13 hc13_3 (by decide) (by decide) rfl (t := 71) (by decide) ?_
            refine r_aload_n hK dX8_count_71 rfl ?_
            refine r_callV hK ck_X8_freeMany im_X8_freeMany sl_X8_freeMany ml_RX8_140 (by omega) (c_X8_freeMany (l := kL K) (g := g) (Y := Y) C4 (wpO_bd h)) cls_8 (k := 95) (by omega) rfl (As := []) (st := []) rfl (Nat.le_of_ble_eq_true rfl) dX8_count_72 (kkI (fun C72 r72 h => ?_))
            exact r_ireturn hK hr hQ rfl dX8_count_75 ⟨C72, r72, rfl, rfl, wpO_some h⟩
          · have h := hB hc13_3
            obtain ⟨hr13, hA, hB⟩ := wpO_eq h
            have hr13 := hr13.1
            by_cases hc13_4 : (a1) = 4
            · have h := hA hc13_4
              refine r_tabIn hK dX8_count_13 hr13 hc13_4 (by decide) (by decide) rfl (t := 76) (by decide) ?_
              refine r_aload_n hK dX8_count_76 rfl ?_
              refine r_callV hK ck_X8_usedAll im_X8_usedAll sl_X8_usedAll ml_RX8_277 (by omega) (c_X8_usedAll (l := kL K) (g := g) (Y := Y) C4 (wpO_bd h)) cls_8 (k := 95) (by omega) rfl (As := []) (st := []) rfl (Nat.le_of_ble_eq_true rfl) dX8_count_77 (kkI (fun C77 r77 h => ?_))
              exact r_ireturn hK hr hQ rfl dX8_count_80 ⟨C77, r77, rfl, rfl, wpO_some h⟩
            · have h := hB hc13_4
              obtain ⟨hr13, hA, hB⟩ := wpO_eq h
              have hr13 := hr13.1
              by_cases hc13_5 : (a1) = 5
              · have h := hA hc13_5
                refine r_tabIn hK dX8_count_13 hr13 hc13_5 (by decide) (by decide) rfl (t := 81) (by decide) ?_
                refine r_aload_n hK dX8_count_81 rfl ?_
                refine r_iconst hK dX8_count_82 ?_
                refine r_callV hK ck_X8_sorted im_X8_sorted sl_X8_sorted ml_RX8_280 (by omega) (c_X8_sorted (l := kL K) (g := g) (Y := Y) (1) C4 (wpO_bd h)) cls_8 (k := 95) (by omega) rfl (As := [.int (I (1))]) (st := []) rfl (Nat.le_of_ble_eq_true rfl) dX8_count_83 (kkI (fun C83 r83 h => ?_))
                exact r_ireturn hK hr hQ rfl dX8_count_86 ⟨C83, r83, rfl, rfl, wpO_some h⟩
              · have h := hB hc13_5
                obtain ⟨hr13, hA, hB⟩ := wpO_eq h
                have hr13 := hr13.1
                by_cases hc13_6 : (a1) = 6
                · have h := hA hc13_6
                  refine r_tabIn hK dX8_count_13 hr13 hc13_6 (by decide) (by decide) rfl (t := 87) (by decide) ?_
                  refine r_aload_n hK dX8_count_87 rfl ?_
                  refine r_callV hK ck_X8_firstLeaf im_X8_firstLeaf sl_X8_firstLeaf ml_RX8_203 (by omega) (c_X8_firstLeaf (l := kL K) (g := g) (Y := Y) C4 (wpO_bd h)) cls_8 (k := 95) (by omega) rfl (As := []) (st := []) rfl (Nat.le_of_ble_eq_true rfl) dX8_count_88 (kkI (fun C88 r88 h => ?_))
                  exact r_ireturn hK hr hQ rfl dX8_count_91 ⟨C88, r88, rfl, rfl, wpO_some h⟩
                · have h := hB hc13_6
                  refine r_tabOut hK dX8_count_13 hr13 (by omega) (t := 92) (by decide) ?_
                  refine r_aload_n hK dX8_count_92 rfl ?_
                  refine r_callV hK ck_X8_separators im_X8_separators sl_X8_separators ml_RX8_283 (by omega) (c_X8_separators (l := kL K) (g := g) (Y := Y) C4 (wpO_bd h)) cls_8 (k := 95) (by omega) rfl (As := []) (st := []) rfl (Nat.le_of_ble_eq_true rfl) dX8_count_93 (kkI (fun C93 r93 h => ?_))
                  exact r_ireturn hK hr hQ rfl dX8_count_96 ⟨C93, r93, rfl, rfl, wpO_some h⟩
set_option maxRecDepth 100000 in
set_option maxHeartbeats 4000000 in
theorem w_X8_digest_6 {K : KT} {g : GT} {Y : Mem} {dd : Nat} (hK : Kok K g cX8_digest RX8 dd) (hN : kN K = 4) (hr : (kMe K).sig.returnType = (some .long)) {Q : Mem → Int → Prop} (hQ : kQ K = MQ (kB K) (Qc g (QL (fun c => mrg Y c) Q)) (kA K) (kS K) (kc K) (ks K) (gS g)) (hdd : 1 ≤ dd) (k : Int → Int → Mem → Option (Mem × Int)) (hk : ∀ (v1 : Int) (v3 : Int) (C : Mem), wpO (k v1 v3 C) Q → Wn K g (mrg Y C) 33 [some (.ref (gA g 95)), some (.long (LL (v1))), none, some (.int (I (v3)))] []) : ∀ (n : Nat) (v1 : Int) (v3 : Int) (C : Mem), wpO (f_X8_digest_6 k n v1 v3 C) Q → Wn K g (mrg Y C) 6 [some (.ref (gA g 95)), some (.long (LL (v1))), none, some (.int (I (v3)))] [] := by
  intro n
  induction n with
  | zero => intro v1 v3 C h; exact (wpO_none h).elim
  | succ n ih =>
    intro v1 v3 C h
    unfold f_X8_digest_6 at h
    refine r_iload_n hK dX8_digest_6 rfl ?_
    refine r_sipush hK dX8_digest_7 (by decide) ?_
    refine r_icmp_ge hK dX8_digest_10 (t := 33) (by decide) (wpO_lt h) (fun h => ?_) (fun h => ?_)
    · refine r_ldc2 hK kc_RX8_288 dX8_digest_13 ?_
      refine r_lload_n hK dX8_digest_16 rfl ?_
      refine r_lmul hK dX8_digest_17 ?_
      refine r_aload_n hK dX8_digest_18 rfl ?_
      refine r_getR (k := 95) (k' := (96)) hK cls_8 fl_RX8_7 (by decide) (by omega) rfl rfl dX8_digest_19 ?_
      refine r_iload_n hK dX8_digest_22 rfl ?_
      obtain ⟨hb23, h⟩ := wpO_ix h
      refine r_iaload (k := (96)) hK (by omega) rfl (by decide) hb23 dX8_digest_23 (mrg_x (by omega)) ?_
      obtain ⟨hg24, h⟩ := wpO_rg h
      refine r_i2l hK hg24.1 dX8_digest_24 ?_
      refine r_ladd hK dX8_digest_25 ?_
      refine r_lstore_n hK dX8_digest_26 (by rw [hN]; decide) rfl (lv' := [some (.ref (gA g 95)), some (.long (LL ((31 * v1) + (C (96) (v3).toNat)))), none, some (.int (I (v3)))]) rfl ?_
      refine r_iinc hK dX8_digest_27 (by rw [hN]; decide) rfl rfl (lv' := [some (.ref (gA g 95)), some (.long (LL ((31 * v1) + (C (96) (v3).toNat)))), none, some (.int (I (v3 + 1)))]) rfl ?_
      refine r_goto hK dX8_digest_30 (t := 6) (by decide) ?_
      exact ih ((31 * v1) + (C (96) (v3).toNat)) (v3 + 1) C h
    · exact hk (v1) (v3) C h
set_option maxRecDepth 100000 in
set_option maxHeartbeats 4000000 in
theorem c_X8_digest {l : Launch} {g : GT} {Y : Mem} {Q : Mem → Int → Prop} (C : Mem) (h : wpO (f_X8_digest C) Q) : MetC l yX8_digest cX8_digest 4 (some .long) 1 g [.ref (gA g 95)] (mrg Y C) (QL (fun c => mrg Y c) Q) := by
  refine met_at 3 (lv := [some (.ref (gA g 95)), none, none, none]) (by decide) (Nat.le_of_ble_eq_true rfl) rfl rfl (fun K hK hN hr hQ => ?_)
  unfold f_X8_digest at h
  refine r_ldc2 hK kc_RX8_286 dX8_digest_0 ?_
  refine r_lstore_n hK dX8_digest_3 (by rw [hN]; decide) rfl (lv' := [some (.ref (gA g 95)), some (.long (LL (17))), none, none]) rfl ?_
  refine r_iconst hK dX8_digest_4 ?_
  refine r_istore_n hK dX8_digest_5 (by rw [hN]; decide) rfl (lv' := [some (.ref (gA g 95)), some (.long (LL (17))), none, some (.int (I (0)))]) rfl ?_
  refine w_X8_digest_6 hK hN hr hQ (by omega) _ (fun v1_e6 v3_e6 C_e6 h => ?_) FU (17) (0) C h
  refine r_lload_n hK dX8_digest_33 rfl ?_
  exact r_lreturn hK hr hQ dX8_digest_34 ⟨C_e6, v1_e6, rfl, rfl, wpO_some h⟩
set_option maxRecDepth 100000 in
set_option maxHeartbeats 4000000 in
theorem w_X8_keep_13 {K : KT} {g : GT} {Y : Mem} {dd : Nat} (hK : Kok K g cX8_keep RX8 dd) (hN : kN K = 3) (hr : (kMe K).sig.returnType = (some .int)) {Q : Mem → Int → Prop} (hQ : kQ K = MQ (kB K) (Qc g (QI (fun c => mrg Y c) Q)) (kA K) (kS K) (kc K) (ks K) (gS g)) (hdd : 4 ≤ dd) (u1 : Int) (k : Int → Mem → Option (Mem × Int)) (hk : ∀ (v2 : Int) (C : Mem), wpO (k v2 C) Q → Wn K g (mrg Y C) 44 [some (.ref (gA g 95)), some (.int (I (u1))), some (.int (I (v2)))] []) : ∀ (n : Nat) (v2 : Int) (C : Mem), wpO (f_X8_keep_13 u1 k n v2 C) Q → Wn K g (mrg Y C) 13 [some (.ref (gA g 95)), some (.int (I (u1))), some (.int (I (v2)))] [] := by
  intro n
  induction n with
  | zero => intro v2 C h; exact (wpO_none h).elim
  | succ n ih =>
    intro v2 C h
    unfold f_X8_keep_13 at h
    refine r_iload_n hK dX8_keep_13 rfl ?_
    refine r_sipush hK dX8_keep_14 (by decide) ?_
    refine r_icmp_ge hK dX8_keep_17 (t := 44) (by decide) (wpO_lt h) (fun h => ?_) (fun h => ?_)
    · refine r_aload_n hK dX8_keep_20 rfl ?_
      refine r_getR (k := 95) (k' := (110)) hK cls_8 fl_RX8_57 (by decide) (by omega) rfl rfl dX8_keep_21 ?_
      refine r_sipush hK dX8_keep_24 (by decide) ?_
      refine r_iload_n hK dX8_keep_27 rfl ?_
      refine r_imul hK dX8_keep_28 ?_
      refine r_iload_n hK dX8_keep_29 rfl ?_
      refine r_iadd hK dX8_keep_30 ?_
      refine r_aload_n hK dX8_keep_31 rfl ?_
      refine r_getR (k := 95) (k' := (96)) hK cls_8 fl_RX8_7 (by decide) (by omega) rfl rfl dX8_keep_32 ?_
      refine r_iload_n hK dX8_keep_35 rfl ?_
      obtain ⟨hb36, h⟩ := wpO_ix h
      refine r_iaload (k := (96)) hK (by omega) rfl (by decide) hb36 dX8_keep_36 (mrg_x (by omega)) ?_
      obtain ⟨hb37, h⟩ := wpO_ix h
      refine r_iastore (k := (110)) hK (by omega) rfl (by decide) hb37 dX8_keep_37 (up_x (by omega)) ?_
      refine r_iinc hK dX8_keep_38 (by rw [hN]; decide) rfl rfl (lv' := [some (.ref (gA g 95)), some (.int (I (u1))), some (.int (I (v2 + 1)))]) rfl ?_
      refine r_goto hK dX8_keep_41 (t := 13) (by decide) ?_
      exact ih (v2 + 1) (up C (110) ((2048 * u1) + v2).toNat (C (96) (v2).toNat)) h
    · exact hk (v2) C h
set_option maxRecDepth 100000 in
set_option maxHeartbeats 4000000 in
theorem c_X8_keep {l : Launch} {g : GT} {Y : Mem} {Q : Mem → Int → Prop} (a1 : Int) (C : Mem) (h : wpO (f_X8_keep a1 C) Q) : MetC l yX8_keep cX8_keep 3 (some .int) 4 g [.ref (gA g 95), .int (I (a1))] (mrg Y C) (QI (fun c => mrg Y c) Q) := by
  refine met_at 1 (lv := [some (.ref (gA g 95)), some (.int (I (a1))), none]) (by decide) (Nat.le_of_ble_eq_true rfl) rfl rfl (fun K hK hN hr hQ => ?_)
  unfold f_X8_keep at h
  refine r_iload_n hK dX8_keep_0 rfl ?_
  refine r_iconst hK dX8_keep_1 ?_
  refine r_iconst hK dX8_keep_2 ?_
  refine r_callS hK ck_X8_in sc_X8_in ml_RX8_114 (by omega) (c_X8_in (l := kL K) (g := g) (Y := Y) (a1) (0) (1) C (wpO_bd h)) (As := [.int (I (a1)), .int (I (0)), .int (I (1))]) (st := []) rfl (Nat.le_of_ble_eq_true rfl) dX8_keep_3 (kkI (fun C3 r3 h => ?_))
  refine r_if_ne hK dX8_keep_6 (t := 11) (by decide) (wpO_eq h) (fun h => ?_) (fun h => ?_)
  · refine r_iconst hK dX8_keep_9 ?_
    exact r_ireturn hK hr hQ rfl dX8_keep_10 ⟨C3, (-1), rfl, rfl, wpO_some h⟩
  · refine r_iconst hK dX8_keep_11 ?_
    refine r_istore_n hK dX8_keep_12 (by rw [hN]; decide) rfl (lv' := [some (.ref (gA g 95)), some (.int (I (a1))), some (.int (I (0)))]) rfl ?_
    refine w_X8_keep_13 hK hN hr hQ (by omega) (a1) _ (fun v2_e13 C_e13 h => ?_) FU (0) C3 h
    refine r_aload_n hK dX8_keep_44 rfl ?_
    refine r_getR (k := 95) (k' := (111)) hK cls_8 fl_RX8_60 (by decide) (by omega) rfl rfl dX8_keep_45 ?_
    refine r_iload_n hK dX8_keep_48 rfl ?_
    refine r_aload_n hK dX8_keep_49 rfl ?_
    refine r_getI (k := 95) hK cls_8 fl_RX8_118 (by decide) (by omega) rfl rfl dX8_keep_50 (mrg_x (by omega)) ?_
    obtain ⟨hb53, h⟩ := wpO_ix h
    refine r_iastore (k := (111)) hK (by omega) rfl (by decide) hb53 dX8_keep_53 (up_x (by omega)) ?_
    refine r_aload_n hK dX8_keep_54 rfl ?_
    refine r_getR (k := 95) (k' := (112)) hK cls_8 fl_RX8_63 (by decide) (by omega) rfl rfl dX8_keep_55 ?_
    refine r_iload_n hK dX8_keep_58 rfl ?_
    refine r_aload_n hK dX8_keep_59 rfl ?_
    refine r_getI (k := 95) hK cls_8 fl_RX8_13 (by decide) (by omega) rfl rfl dX8_keep_60 (mrg_x (by omega)) ?_
    obtain ⟨hb63, h⟩ := wpO_ix h
    refine r_iastore (k := (112)) hK (by omega) rfl (by decide) hb63 dX8_keep_63 (up_x (by omega)) ?_
    refine r_aload_n hK dX8_keep_64 rfl ?_
    refine r_callV hK ck_X8_keys im_X8_keys sl_X8_keys ml_RX8_212 (by omega) (c_X8_keys (l := kL K) (g := g) (Y := Y) (up (up C_e13 (111) (a1).toNat (C_e13 95 1)) (112) (a1).toNat ((up C_e13 (111) (a1).toNat (C_e13 95 1)) 95 2)) (wpO_bd h)) cls_8 (k := 95) (by omega) rfl (As := []) (st := []) rfl (Nat.le_of_ble_eq_true rfl) dX8_keep_65 (kkI (fun C65 r65 h => ?_))
    exact r_ireturn hK hr hQ rfl dX8_keep_68 ⟨C65, r65, rfl, rfl, wpO_some h⟩
set_option maxRecDepth 100000 in
set_option maxHeartbeats 4000000 in
theorem w_X8_back_25 {K : KT} {g : GT} {Y : Mem} {dd : Nat} (hK : Kok K g cX8_back RX8 dd) (hN : kN K = 3) (hr : (kMe K).sig.returnType = (some .int)) {Q : Mem → Int → Prop} (hQ : kQ K = MQ (kB K) (Qc g (QI (fun c => mrg Y c) Q)) (kA K) (kS K) (kc K) (ks K) (gS g)) (hdd : 4 ≤ dd) (u1 : Int) (k : Int → Mem → Option (Mem × Int)) (hk : ∀ (v2 : Int) (C : Mem), wpO (k v2 C) Q → Wn K g (mrg Y C) 56 [some (.ref (gA g 95)), some (.int (I (u1))), some (.int (I (v2)))] []) : ∀ (n : Nat) (v2 : Int) (C : Mem), wpO (f_X8_back_25 u1 k n v2 C) Q → Wn K g (mrg Y C) 25 [some (.ref (gA g 95)), some (.int (I (u1))), some (.int (I (v2)))] [] := by
  intro n
  induction n with
  | zero => intro v2 C h; exact (wpO_none h).elim
  | succ n ih =>
    intro v2 C h
    unfold f_X8_back_25 at h
    refine r_iload_n hK dX8_back_25 rfl ?_
    refine r_sipush hK dX8_back_26 (by decide) ?_
    refine r_icmp_ge hK dX8_back_29 (t := 56) (by decide) (wpO_lt h) (fun h => ?_) (fun h => ?_)
    · refine r_aload_n hK dX8_back_32 rfl ?_
      refine r_getR (k := 95) (k' := (96)) hK cls_8 fl_RX8_7 (by decide) (by omega) rfl rfl dX8_back_33 ?_
      refine r_iload_n hK dX8_back_36 rfl ?_
      refine r_aload_n hK dX8_back_37 rfl ?_
      refine r_getR (k := 95) (k' := (110)) hK cls_8 fl_RX8_57 (by decide) (by omega) rfl rfl dX8_back_38 ?_
      refine r_sipush hK dX8_back_41 (by decide) ?_
      refine r_iload_n hK dX8_back_44 rfl ?_
      refine r_imul hK dX8_back_45 ?_
      refine r_iload_n hK dX8_back_46 rfl ?_
      refine r_iadd hK dX8_back_47 ?_
      obtain ⟨hb48, h⟩ := wpO_ix h
      refine r_iaload (k := (110)) hK (by omega) rfl (by decide) hb48 dX8_back_48 (mrg_x (by omega)) ?_
      obtain ⟨hb49, h⟩ := wpO_ix h
      refine r_iastore (k := (96)) hK (by omega) rfl (by decide) hb49 dX8_back_49 (up_x (by omega)) ?_
      refine r_iinc hK dX8_back_50 (by rw [hN]; decide) rfl rfl (lv' := [some (.ref (gA g 95)), some (.int (I (u1))), some (.int (I (v2 + 1)))]) rfl ?_
      refine r_goto hK dX8_back_53 (t := 25) (by decide) ?_
      exact ih (v2 + 1) (up C (96) (v2).toNat (C (110) ((2048 * u1) + v2).toNat)) h
    · exact hk (v2) C h
set_option maxRecDepth 100000 in
set_option maxHeartbeats 4000000 in
theorem c_X8_back {l : Launch} {g : GT} {Y : Mem} {Q : Mem → Int → Prop} (a1 : Int) (C : Mem) (h : wpO (f_X8_back a1 C) Q) : MetC l yX8_back cX8_back 3 (some .int) 4 g [.ref (gA g 95), .int (I (a1))] (mrg Y C) (QI (fun c => mrg Y c) Q) := by
  refine met_at 1 (lv := [some (.ref (gA g 95)), some (.int (I (a1))), none]) (by decide) (Nat.le_of_ble_eq_true rfl) rfl rfl (fun K hK hN hr hQ => ?_)
  unfold f_X8_back at h
  refine r_iload_n hK dX8_back_0 rfl ?_
  refine r_iconst hK dX8_back_1 ?_
  refine r_iconst hK dX8_back_2 ?_
  refine r_callS hK ck_X8_in sc_X8_in ml_RX8_114 (by omega) (c_X8_in (l := kL K) (g := g) (Y := Y) (a1) (0) (1) C (wpO_bd h)) (As := [.int (I (a1)), .int (I (0)), .int (I (1))]) (st := []) rfl (Nat.le_of_ble_eq_true rfl) dX8_back_3 (kkI (fun C3 r3 h => ?_))
  refine r_if_ne hK dX8_back_6 (t := 11) (by decide) (wpO_eq h) (fun h => ?_) (fun h => ?_)
  · refine r_iconst hK dX8_back_9 ?_
    exact r_ireturn hK hr hQ rfl dX8_back_10 ⟨C3, (-1), rfl, rfl, wpO_some h⟩
  · refine r_aload_n hK dX8_back_11 rfl ?_
    refine r_getR (k := 95) (k' := (112)) hK cls_8 fl_RX8_63 (by decide) (by omega) rfl rfl dX8_back_12 ?_
    refine r_iload_n hK dX8_back_15 rfl ?_
    obtain ⟨hb16, h⟩ := wpO_ix h
    refine r_iaload (k := (112)) hK (by omega) rfl (by decide) hb16 dX8_back_16 (mrg_x (by omega)) ?_
    refine r_if_ne hK dX8_back_17 (t := 23) (by decide) (wpO_eq h) (fun h => ?_) (fun h => ?_)
    · refine r_bipush hK dX8_back_20 (by decide) ?_
      exact r_ireturn hK hr hQ rfl dX8_back_22 ⟨C3, (-2), rfl, rfl, wpO_some h⟩
    · refine r_iconst hK dX8_back_23 ?_
      refine r_istore_n hK dX8_back_24 (by rw [hN]; decide) rfl (lv' := [some (.ref (gA g 95)), some (.int (I (a1))), some (.int (I (0)))]) rfl ?_
      refine w_X8_back_25 hK hN hr hQ (by omega) (a1) _ (fun v2_e25 C_e25 h => ?_) FU (0) C3 h
      refine r_aload_n hK dX8_back_56 rfl ?_
      refine r_aload_n hK dX8_back_57 rfl ?_
      refine r_getR (k := 95) (k' := (111)) hK cls_8 fl_RX8_60 (by decide) (by omega) rfl rfl dX8_back_58 ?_
      refine r_iload_n hK dX8_back_61 rfl ?_
      obtain ⟨hb62, h⟩ := wpO_ix h
      refine r_iaload (k := (111)) hK (by omega) rfl (by decide) hb62 dX8_back_62 (mrg_x (by omega)) ?_
      refine r_put (k := 95) hK cls_8 fl_RX8_118 (by decide) (by omega) rfl rfl rfl rfl rfl dX8_back_63 (up_x (by omega)) ?_
      refine r_aload_n hK dX8_back_66 rfl ?_
      refine r_aload_n hK dX8_back_67 rfl ?_
      refine r_getR (k := 95) (k' := (112)) hK cls_8 fl_RX8_63 (by decide) (by omega) rfl rfl dX8_back_68 ?_
      refine r_iload_n hK dX8_back_71 rfl ?_
      obtain ⟨hb72, h⟩ := wpO_ix h
      refine r_iaload (k := (112)) hK (by omega) rfl (by decide) hb72 dX8_back_72 (mrg_x (by omega)) ?_
      refine r_put (k := 95) hK cls_8 fl_RX8_13 (by decide) (by omega) rfl rfl rfl rfl rfl dX8_back_73 (up_x (by omega)) ?_
      refine r_aload_n hK dX8_back_76 rfl ?_
      refine r_callV hK ck_X8_keys im_X8_keys sl_X8_keys ml_RX8_212 (by omega) (c_X8_keys (l := kL K) (g := g) (Y := Y) (up (up C_e25 95 1 (C_e25 (111) (a1).toNat)) 95 2 ((up C_e25 95 1 (C_e25 (111) (a1).toNat)) (112) (a1).toNat)) (wpO_bd h)) cls_8 (k := 95) (by omega) rfl (As := []) (st := []) rfl (Nat.le_of_ble_eq_true rfl) dX8_back_77 (kkI (fun C77 r77 h => ?_))
      exact r_ireturn hK hr hQ rfl dX8_back_80 ⟨C77, r77, rfl, rfl, wpO_some h⟩
set_option maxRecDepth 100000 in
set_option maxHeartbeats 4000000 in
theorem c_X8_type {l : Launch} {g : GT} {Y : Mem} {Q : Mem → Int → Prop} (a1 : Int) (C : Mem) (h : wpO (f_X8_type a1 C) Q) : MetC l yX8_type cX8_type 2 (some .int) 2 g [.ref (gA g 95), .int (I (a1))] (mrg Y C) (QI (fun c => mrg Y c) Q) := by
  refine met_at 0 (lv := [some (.ref (gA g 95)), some (.int (I (a1)))]) (by decide) (Nat.le_of_ble_eq_true rfl) rfl rfl (fun K hK hN hr hQ => ?_)
  unfold f_X8_type at h
  refine r_iload_n hK dX8_type_0 rfl ?_
  refine r_iconst hK dX8_type_1 ?_
  refine r_sipush hK dX8_type_2 (by decide) ?_
  refine r_callS hK ck_X8_in sc_X8_in ml_RX8_114 (by omega) (c_X8_in (l := kL K) (g := g) (Y := Y) (a1) (0) (255) C (wpO_bd h)) (As := [.int (I (a1)), .int (I (0)), .int (I (255))]) (st := []) rfl (Nat.le_of_ble_eq_true rfl) dX8_type_5 (kkI (fun C5 r5 h => ?_))
  refine r_if_ne hK dX8_type_8 (t := 13) (by decide) (wpO_eq h) (fun h => ?_) (fun h => ?_)
  · refine r_iconst hK dX8_type_11 ?_
    exact r_ireturn hK hr hQ rfl dX8_type_12 ⟨C5, (-1), rfl, rfl, wpO_some h⟩
  · refine r_aload_n hK dX8_type_13 rfl ?_
    refine r_getI (k := 95) hK cls_8 fl_RX8_290 (by decide) (by omega) rfl rfl dX8_type_14 (mrg_x (by omega)) ?_
    refine r_bipush hK dX8_type_17 (by decide) ?_
    refine r_icmp_ne hK dX8_type_19 (t := 25) (by decide) (wpO_eq h) (fun h => ?_) (fun h => ?_)
    · refine r_bipush hK dX8_type_22 (by decide) ?_
      exact r_ireturn hK hr hQ rfl dX8_type_24 ⟨C5, (-3), rfl, rfl, wpO_some h⟩
    · refine r_aload_n hK dX8_type_25 rfl ?_
      refine r_getR (k := 95) (k' := (113)) hK cls_8 fl_RX8_66 (by decide) (by omega) rfl rfl dX8_type_26 ?_
      refine r_aload_n hK dX8_type_29 rfl ?_
      refine r_getI (k := 95) hK cls_8 fl_RX8_290 (by decide) (by omega) rfl rfl dX8_type_30 (mrg_x (by omega)) ?_
      refine r_iload_n hK dX8_type_33 rfl ?_
      obtain ⟨hb34, h⟩ := wpO_ix h
      refine r_iastore (k := (113)) hK (by omega) rfl (by decide) hb34 dX8_type_34 (up_x (by omega)) ?_
      refine r_aload_n hK dX8_type_35 rfl ?_
      refine r_dup hK dX8_type_36 rfl ?_
      refine r_getI (k := 95) hK cls_8 fl_RX8_290 (by decide) (by omega) rfl rfl dX8_type_37 (mrg_x (by omega)) ?_
      refine r_iconst hK dX8_type_40 ?_
      refine r_iadd hK dX8_type_41 ?_
      refine r_put (k := 95) hK cls_8 fl_RX8_290 (by decide) (by omega) rfl rfl rfl rfl rfl dX8_type_42 (up_x (by omega)) ?_
      refine r_aload_n hK dX8_type_45 rfl ?_
      refine r_getI (k := 95) hK cls_8 fl_RX8_290 (by decide) (by omega) rfl rfl dX8_type_46 (mrg_x (by omega)) ?_
      exact r_ireturn hK hr hQ rfl dX8_type_49 ⟨(up (up C5 (113) (C5 95 30).toNat (a1)) 95 30 (((up C5 (113) (C5 95 30).toNat (a1)) 95 30) + 1)), ((up (up C5 (113) (C5 95 30).toNat (a1)) 95 30 (((up C5 (113) (C5 95 30).toNat (a1)) 95 30) + 1)) 95 30), rfl, rfl, wpO_some h⟩
set_option maxRecDepth 100000 in
set_option maxHeartbeats 4000000 in
theorem c_X8_clear {l : Launch} {g : GT} {Y : Mem} {Q : Mem → Int → Prop} (C : Mem) (h : wpO (f_X8_clear C) Q) : MetC l yX8_clear cX8_clear 2 (some .int) 1 g [.ref (gA g 95)] (mrg Y C) (QI (fun c => mrg Y c) Q) := by
  refine met_at 1 (lv := [some (.ref (gA g 95)), none]) (by decide) (Nat.le_of_ble_eq_true rfl) rfl rfl (fun K hK hN hr hQ => ?_)
  unfold f_X8_clear at h
  refine r_aload_n hK dX8_clear_0 rfl ?_
  refine r_getI (k := 95) hK cls_8 fl_RX8_290 (by decide) (by omega) rfl rfl dX8_clear_1 (mrg_x (by omega)) ?_
  refine r_istore_n hK dX8_clear_4 (by rw [hN]; decide) rfl (lv' := [some (.ref (gA g 95)), some (.int (I (C 95 30)))]) rfl ?_
  refine r_aload_n hK dX8_clear_5 rfl ?_
  refine r_iconst hK dX8_clear_6 ?_
  refine r_put (k := 95) hK cls_8 fl_RX8_290 (by decide) (by omega) rfl rfl rfl rfl rfl dX8_clear_7 (up_x (by omega)) ?_
  refine r_iload_n hK dX8_clear_10 rfl ?_
  exact r_ireturn hK hr hQ rfl dX8_clear_11 ⟨(up C 95 30 (0)), (C 95 30), rfl, rfl, wpO_some h⟩
set_option maxRecDepth 100000 in
set_option maxHeartbeats 4000000 in
theorem c_X8_times {l : Launch} {g : GT} {Y : Mem} {Q : Mem → Int → Prop} (a1 : Int) (C : Mem) (h : wpO (f_X8_times a1 C) Q) : MetC l yX8_times cX8_times 2 (some .int) 2 g [.ref (gA g 95), .int (I (a1))] (mrg Y C) (QI (fun c => mrg Y c) Q) := by
  refine met_at 0 (lv := [some (.ref (gA g 95)), some (.int (I (a1)))]) (by decide) (Nat.le_of_ble_eq_true rfl) rfl rfl (fun K hK hN hr hQ => ?_)
  unfold f_X8_times at h
  refine r_iload_n hK dX8_times_0 rfl ?_
  refine r_iconst hK dX8_times_1 ?_
  refine r_iconst hK dX8_times_2 ?_
  refine r_callS hK ck_X8_in sc_X8_in ml_RX8_114 (by omega) (c_X8_in (l := kL K) (g := g) (Y := Y) (a1) (0) (3) C (wpO_bd h)) (As := [.int (I (a1)), .int (I (0)), .int (I (3))]) (st := []) rfl (Nat.le_of_ble_eq_true rfl) dX8_times_3 (kkI (fun C3 r3 h => ?_))
  refine r_if_ne hK dX8_times_6 (t := 11) (by decide) (wpO_eq h) (fun h => ?_) (fun h => ?_)
  · refine r_iconst hK dX8_times_9 ?_
    exact r_ireturn hK hr hQ rfl dX8_times_10 ⟨C3, (-1), rfl, rfl, wpO_some h⟩
  · refine r_iload_n hK dX8_times_11 rfl ?_
    refine r_if_ne hK dX8_times_12 (t := 22) (by decide) (wpO_eq h) (fun h => ?_) (fun h => ?_)
    · refine r_aload_n hK dX8_times_15 rfl ?_
      refine r_getI (k := 95) hK cls_8 fl_RX8_290 (by decide) (by omega) rfl rfl dX8_times_16 (mrg_x (by omega)) ?_
      refine r_goto hK dX8_times_19 (t := 50) (by decide) ?_
      exact r_ireturn hK hr hQ rfl dX8_times_50 ⟨C3, (C3 95 30), rfl, rfl, wpO_some h⟩
    · refine r_iload_n hK dX8_times_22 rfl ?_
      refine r_iconst hK dX8_times_23 ?_
      refine r_icmp_ne hK dX8_times_24 (t := 34) (by decide) (wpO_eq h) (fun h => ?_) (fun h => ?_)
      · refine r_aload_n hK dX8_times_27 rfl ?_
        refine r_getI (k := 95) hK cls_8 fl_RX8_156 (by decide) (by omega) rfl rfl dX8_times_28 (mrg_x (by omega)) ?_
        refine r_goto hK dX8_times_31 (t := 50) (by decide) ?_
        exact r_ireturn hK hr hQ rfl dX8_times_50 ⟨C3, (C3 95 3), rfl, rfl, wpO_some h⟩
      · refine r_iload_n hK dX8_times_34 rfl ?_
        refine r_iconst hK dX8_times_35 ?_
        refine r_icmp_ne hK dX8_times_36 (t := 46) (by decide) (wpO_eq h) (fun h => ?_) (fun h => ?_)
        · refine r_aload_n hK dX8_times_39 rfl ?_
          refine r_getI (k := 95) hK cls_8 fl_RX8_181 (by decide) (by omega) rfl rfl dX8_times_40 (mrg_x (by omega)) ?_
          refine r_goto hK dX8_times_43 (t := 50) (by decide) ?_
          exact r_ireturn hK hr hQ rfl dX8_times_50 ⟨C3, (C3 95 4), rfl, rfl, wpO_some h⟩
        · refine r_aload_n hK dX8_times_46 rfl ?_
          refine r_getI (k := 95) hK cls_8 fl_RX8_184 (by decide) (by omega) rfl rfl dX8_times_47 (mrg_x (by omega)) ?_
          exact r_ireturn hK hr hQ rfl dX8_times_50 ⟨C3, (C3 95 5), rfl, rfl, wpO_some h⟩
set_option maxRecDepth 100000 in
set_option maxHeartbeats 4000000 in
theorem c_X8_here {l : Launch} {g : GT} {Y : Mem} {Q : Mem → Int → Prop} (C : Mem) (h : wpO (f_X8_here C) Q) : MetC l yX8_here cX8_here 1 (some .int) 1 g [.ref (gA g 95)] (mrg Y C) (QI (fun c => mrg Y c) Q) := by
  refine met_at 0 (lv := [some (.ref (gA g 95))]) (by decide) (Nat.le_of_ble_eq_true rfl) rfl rfl (fun K hK hN hr hQ => ?_)
  unfold f_X8_here at h
  refine r_aload_n hK dX8_here_0 rfl ?_
  refine r_getI (k := 95) hK cls_8 fl_RX8_293 (by decide) (by omega) rfl rfl dX8_here_1 (mrg_x (by omega)) ?_
  refine r_aload_n hK dX8_here_4 rfl ?_
  refine r_getI (k := 95) hK cls_8 fl_RX8_290 (by decide) (by omega) rfl rfl dX8_here_5 (mrg_x (by omega)) ?_
  refine r_icmp_ge hK dX8_here_8 (t := 23) (by decide) (wpO_lt h) (fun h => ?_) (fun h => ?_)
  · refine r_aload_n hK dX8_here_11 rfl ?_
    refine r_getR (k := 95) (k' := (113)) hK cls_8 fl_RX8_66 (by decide) (by omega) rfl rfl dX8_here_12 ?_
    refine r_aload_n hK dX8_here_15 rfl ?_
    refine r_getI (k := 95) hK cls_8 fl_RX8_293 (by decide) (by omega) rfl rfl dX8_here_16 (mrg_x (by omega)) ?_
    obtain ⟨hb19, h⟩ := wpO_ix h
    refine r_iaload (k := (113)) hK (by omega) rfl (by decide) hb19 dX8_here_19 (mrg_x (by omega)) ?_
    refine r_goto hK dX8_here_20 (t := 25) (by decide) ?_
    exact r_ireturn hK hr hQ rfl dX8_here_25 ⟨C, (C (113) (C 95 31).toNat), rfl, rfl, wpO_some h⟩
  · refine r_bipush hK dX8_here_23 (by decide) ?_
    exact r_ireturn hK hr hQ rfl dX8_here_25 ⟨C, (-9), rfl, rfl, wpO_some h⟩
set_option maxRecDepth 100000 in
set_option maxHeartbeats 4000000 in
theorem w_X8_skip_0 {K : KT} {g : GT} {Y : Mem} {dd : Nat} (hK : Kok K g cX8_skip RX8 dd) (hN : kN K = 1) (hr : (kMe K).sig.returnType = none) {Q : Mem → Int → Prop} (hQ : kQ K = MQ (kB K) (Qc g (QV (fun c => mrg Y c) Q)) (kA K) (kS K) (kc K) (ks K) (gS g)) (hdd : 2 ≤ dd) (k : Mem → Option (Mem × Int)) (hk : ∀ (C : Mem), wpO (k C) Q → Wn K g (mrg Y C) 22 [some (.ref (gA g 95))] []) : ∀ (n : Nat) (C : Mem), wpO (f_X8_skip_0 k n C) Q → Wn K g (mrg Y C) 0 [some (.ref (gA g 95))] [] := by
  intro n
  induction n with
  | zero => intro C h; exact (wpO_none h).elim
  | succ n ih =>
    intro C h
    unfold f_X8_skip_0 at h
    refine r_aload_n hK dX8_skip_0 rfl ?_
    refine r_callV hK ck_X8_here im_X8_here sl_X8_here ml_RX8_296 (by omega) (c_X8_here (l := kL K) (g := g) (Y := Y) C (wpO_bd h)) cls_8 (k := 95) (by omega) rfl (As := []) (st := []) rfl (Nat.le_of_ble_eq_true rfl) dX8_skip_1 (kkI (fun C1 r1 h => ?_))
    refine r_bipush hK dX8_skip_4 (by decide) ?_
    refine r_icmp_ne hK dX8_skip_6 (t := 22) (by decide) (wpO_eq h) (fun h => ?_) (fun h => ?_)
    · refine r_aload_n hK dX8_skip_9 rfl ?_
      refine r_dup hK dX8_skip_10 rfl ?_
      refine r_getI (k := 95) hK cls_8 fl_RX8_293 (by decide) (by omega) rfl rfl dX8_skip_11 (mrg_x (by omega)) ?_
      refine r_iconst hK dX8_skip_14 ?_
      refine r_iadd hK dX8_skip_15 ?_
      refine r_put (k := 95) hK cls_8 fl_RX8_293 (by decide) (by omega) rfl rfl rfl rfl rfl dX8_skip_16 (up_x (by omega)) ?_
      refine r_goto hK dX8_skip_19 (t := 0) (by decide) ?_
      exact ih (up C1 95 31 ((C1 95 31) + 1)) h
    · exact hk C1 h
set_option maxRecDepth 100000 in
set_option maxHeartbeats 4000000 in
theorem c_X8_skip {l : Launch} {g : GT} {Y : Mem} {Q : Mem → Int → Prop} (C : Mem) (h : wpO (f_X8_skip C) Q) : MetC l yX8_skip cX8_skip 1 none 2 g [.ref (gA g 95)] (mrg Y C) (QV (fun c => mrg Y c) Q) := by
  refine met_at 0 (lv := [some (.ref (gA g 95))]) (by decide) (Nat.le_of_ble_eq_true rfl) rfl rfl (fun K hK hN hr hQ => ?_)
  unfold f_X8_skip at h
  refine w_X8_skip_0 hK hN hr hQ (by omega) _ (fun C_e0 h => ?_) FU C h
  exact r_return hK hr hQ dX8_skip_22 ⟨C_e0, rfl, rfl, wpO_some h⟩
set_option maxRecDepth 100000 in
set_option maxHeartbeats 4000000 in
theorem w_X8_lettersHere_2 {K : KT} {g : GT} {Y : Mem} {dd : Nat} (hK : Kok K g cX8_lettersHere RX8 dd) (hN : kN K = 2) (hr : (kMe K).sig.returnType = (some .int)) {Q : Mem → Int → Prop} (hQ : kQ K = MQ (kB K) (Qc g (QI (fun c => mrg Y c) Q)) (kA K) (kS K) (kc K) (ks K) (gS g)) (hdd : 2 ≤ dd) (k : Int → Mem → Option (Mem × Int)) (hk : ∀ (v1 : Int) (C : Mem), wpO (k v1 C) Q → Wn K g (mrg Y C) 42 [some (.ref (gA g 95)), some (.int (I (v1)))] []) : ∀ (n : Nat) (v1 : Int) (C : Mem), wpO (f_X8_lettersHere_2 k n v1 C) Q → Wn K g (mrg Y C) 2 [some (.ref (gA g 95)), some (.int (I (v1)))] [] := by
  intro n
  induction n with
  | zero => intro v1 C h; exact (wpO_none h).elim
  | succ n ih =>
    intro v1 C h
    unfold f_X8_lettersHere_2 at h
    refine r_aload_n hK dX8_lettersHere_2 rfl ?_
    refine r_getI (k := 95) hK cls_8 fl_RX8_293 (by decide) (by omega) rfl rfl dX8_lettersHere_3 (mrg_x (by omega)) ?_
    refine r_iload_n hK dX8_lettersHere_6 rfl ?_
    refine r_iadd hK dX8_lettersHere_7 ?_
    refine r_aload_n hK dX8_lettersHere_8 rfl ?_
    refine r_getI (k := 95) hK cls_8 fl_RX8_290 (by decide) (by omega) rfl rfl dX8_lettersHere_9 (mrg_x (by omega)) ?_
    refine r_icmp_ge hK dX8_lettersHere_12 (t := 42) (by decide) (wpO_lt h) (fun h => ?_) (fun h => ?_)
    · refine r_aload_n hK dX8_lettersHere_15 rfl ?_
      refine r_getR (k := 95) (k' := (113)) hK cls_8 fl_RX8_66 (by decide) (by omega) rfl rfl dX8_lettersHere_16 ?_
      refine r_aload_n hK dX8_lettersHere_19 rfl ?_
      refine r_getI (k := 95) hK cls_8 fl_RX8_293 (by decide) (by omega) rfl rfl dX8_lettersHere_20 (mrg_x (by omega)) ?_
      refine r_iload_n hK dX8_lettersHere_23 rfl ?_
      refine r_iadd hK dX8_lettersHere_24 ?_
      obtain ⟨hb25, h⟩ := wpO_ix h
      refine r_iaload (k := (113)) hK (by omega) rfl (by decide) hb25 dX8_lettersHere_25 (mrg_x (by omega)) ?_
      refine r_bipush hK dX8_lettersHere_26 (by decide) ?_
      refine r_bipush hK dX8_lettersHere_28 (by decide) ?_
      refine r_callS hK ck_X8_in sc_X8_in ml_RX8_114 (by omega) (c_X8_in (l := kL K) (g := g) (Y := Y) (C (113) ((C 95 31) + v1).toNat) (97) (122) C (wpO_bd h)) (As := [.int (I (C (113) ((C 95 31) + v1).toNat)), .int (I (97)), .int (I (122))]) (st := []) rfl (Nat.le_of_ble_eq_true rfl) dX8_lettersHere_30 (kkI (fun C30 r30 h => ?_))
      refine r_if_eq hK dX8_lettersHere_33 (t := 42) (by decide) (wpO_eq h) (fun h => ?_) (fun h => ?_)
      · exact hk (v1) C30 h
      · refine r_iinc hK dX8_lettersHere_36 (by rw [hN]; decide) rfl rfl (lv' := [some (.ref (gA g 95)), some (.int (I (v1 + 1)))]) rfl ?_
        refine r_goto hK dX8_lettersHere_39 (t := 2) (by decide) ?_
        exact ih (v1 + 1) C30 h
    · exact hk (v1) C h
set_option maxRecDepth 100000 in
set_option maxHeartbeats 4000000 in
theorem c_X8_lettersHere {l : Launch} {g : GT} {Y : Mem} {Q : Mem → Int → Prop} (C : Mem) (h : wpO (f_X8_lettersHere C) Q) : MetC l yX8_lettersHere cX8_lettersHere 2 (some .int) 2 g [.ref (gA g 95)] (mrg Y C) (QI (fun c => mrg Y c) Q) := by
  refine met_at 1 (lv := [some (.ref (gA g 95)), none]) (by decide) (Nat.le_of_ble_eq_true rfl) rfl rfl (fun K hK hN hr hQ => ?_)
  unfold f_X8_lettersHere at h
  refine r_iconst hK dX8_lettersHere_0 ?_
  refine r_istore_n hK dX8_lettersHere_1 (by rw [hN]; decide) rfl (lv' := [some (.ref (gA g 95)), some (.int (I (0)))]) rfl ?_
  refine w_X8_lettersHere_2 hK hN hr hQ (by omega) _ (fun v1_e2 C_e2 h => ?_) FU (0) C h
  refine r_iload_n hK dX8_lettersHere_42 rfl ?_
  exact r_ireturn hK hr hQ rfl dX8_lettersHere_43 ⟨C_e2, v1_e2, rfl, rfl, wpO_some h⟩
set_option maxRecDepth 100000 in
set_option maxHeartbeats 4000000 in
theorem w_X8_number_9 {K : KT} {g : GT} {Y : Mem} {dd : Nat} (hK : Kok K g cX8_number RX8 dd) (hN : kN K = 5) (hr : (kMe K).sig.returnType = (some .boolean)) {Q : Mem → Int → Prop} (hQ : kQ K = MQ (kB K) (Qc g (QI (fun c => mrg Y c) Q)) (kA K) (kS K) (kc K) (ks K) (gS g)) (hdd : 3 ≤ dd) (u1 : Int) (u2 : Int) (k : Int → Int → Mem → Option (Mem × Int)) (hk : ∀ (v3 : Int) (v4 : Int) (C : Mem), wpO (k v3 v4 C) Q → Wn K g (mrg Y C) 81 [some (.ref (gA g 95)), some (.int (I (u1))), some (.int (I (u2))), some (.int (I (v3))), some (.int (I (v4)))] []) : ∀ (n : Nat) (v3 : Int) (v4 : Int) (C : Mem), wpO (f_X8_number_9 u1 u2 k n v3 v4 C) Q → Wn K g (mrg Y C) 9 [some (.ref (gA g 95)), some (.int (I (u1))), some (.int (I (u2))), some (.int (I (v3))), some (.int (I (v4)))] [] := by
  intro n
  induction n with
  | zero => intro v3 v4 C h; exact (wpO_none h).elim
  | succ n ih =>
    intro v3 v4 C h
    unfold f_X8_number_9 at h
    refine r_aload_n hK dX8_number_9 rfl ?_
    refine r_getI (k := 95) hK cls_8 fl_RX8_293 (by decide) (by omega) rfl rfl dX8_number_10 (mrg_x (by omega)) ?_
    refine r_iload_n hK dX8_number_13 rfl ?_
    refine r_iadd hK dX8_number_14 ?_
    refine r_aload_n hK dX8_number_15 rfl ?_
    refine r_getI (k := 95) hK cls_8 fl_RX8_290 (by decide) (by omega) rfl rfl dX8_number_16 (mrg_x (by omega)) ?_
    refine r_icmp_ge hK dX8_number_19 (t := 81) (by decide) (wpO_lt h) (fun h => ?_) (fun h => ?_)
    · refine r_aload_n hK dX8_number_22 rfl ?_
      refine r_getR (k := 95) (k' := (113)) hK cls_8 fl_RX8_66 (by decide) (by omega) rfl rfl dX8_number_23 ?_
      refine r_aload_n hK dX8_number_26 rfl ?_
      refine r_getI (k := 95) hK cls_8 fl_RX8_293 (by decide) (by omega) rfl rfl dX8_number_27 (mrg_x (by omega)) ?_
      refine r_iload_n hK dX8_number_30 rfl ?_
      refine r_iadd hK dX8_number_31 ?_
      obtain ⟨hb32, h⟩ := wpO_ix h
      refine r_iaload (k := (113)) hK (by omega) rfl (by decide) hb32 dX8_number_32 (mrg_x (by omega)) ?_
      refine r_bipush hK dX8_number_33 (by decide) ?_
      refine r_bipush hK dX8_number_35 (by decide) ?_
      refine r_callS hK ck_X8_in sc_X8_in ml_RX8_114 (by omega) (c_X8_in (l := kL K) (g := g) (Y := Y) (C (113) ((C 95 31) + v3).toNat) (48) (57) C (wpO_bd h)) (As := [.int (I (C (113) ((C 95 31) + v3).toNat)), .int (I (48)), .int (I (57))]) (st := []) rfl (Nat.le_of_ble_eq_true rfl) dX8_number_37 (kkI (fun C37 r37 h => ?_))
      refine r_if_eq hK dX8_number_40 (t := 81) (by decide) (wpO_eq h) (fun h => ?_) (fun h => ?_)
      · exact hk (v3) (v4) C37 h
      · refine r_iload_n hK dX8_number_43 rfl ?_
        refine r_iconst hK dX8_number_44 ?_
        refine r_icmp_ge hK dX8_number_45 (t := 71) (by decide) (wpO_lt h) (fun h => ?_) (fun h => ?_)
        · refine r_bipush hK dX8_number_48 (by decide) ?_
          refine r_iload hK dX8_number_50 rfl ?_
          refine r_imul hK dX8_number_52 ?_
          refine r_aload_n hK dX8_number_53 rfl ?_
          refine r_getR (k := 95) (k' := (113)) hK cls_8 fl_RX8_66 (by decide) (by omega) rfl rfl dX8_number_54 ?_
          refine r_aload_n hK dX8_number_57 rfl ?_
          refine r_getI (k := 95) hK cls_8 fl_RX8_293 (by decide) (by omega) rfl rfl dX8_number_58 (mrg_x (by omega)) ?_
          refine r_iload_n hK dX8_number_61 rfl ?_
          refine r_iadd hK dX8_number_62 ?_
          obtain ⟨hb63, h⟩ := wpO_ix h
          refine r_iaload (k := (113)) hK (by omega) rfl (by decide) hb63 dX8_number_63 (mrg_x (by omega)) ?_
          refine r_iadd hK dX8_number_64 ?_
          refine r_bipush hK dX8_number_65 (by decide) ?_
          refine r_isub hK dX8_number_67 ?_
          refine r_goto hK dX8_number_68 (t := 73) (by decide) ?_
          refine r_istore hK dX8_number_73 (by rw [hN]; decide) rfl (lv' := [some (.ref (gA g 95)), some (.int (I (u1))), some (.int (I (u2))), some (.int (I (v3))), some (.int (I (((10 * v4) + (C37 (113) ((C37 95 31) + v3).toNat)) - 48)))]) rfl ?_
          refine r_iinc hK dX8_number_75 (by rw [hN]; decide) rfl rfl (lv' := [some (.ref (gA g 95)), some (.int (I (u1))), some (.int (I (u2))), some (.int (I (v3 + 1))), some (.int (I (((10 * v4) + (C37 (113) ((C37 95 31) + v3).toNat)) - 48)))]) rfl ?_
          refine r_goto hK dX8_number_78 (t := 9) (by decide) ?_
          exact ih (v3 + 1) (((10 * v4) + (C37 (113) ((C37 95 31) + v3).toNat)) - 48) C37 h
        · refine r_iload hK dX8_number_71 rfl ?_
          refine r_istore hK dX8_number_73 (by rw [hN]; decide) rfl (lv' := [some (.ref (gA g 95)), some (.int (I (u1))), some (.int (I (u2))), some (.int (I (v3))), some (.int (I (v4)))]) rfl ?_
          refine r_iinc hK dX8_number_75 (by rw [hN]; decide) rfl rfl (lv' := [some (.ref (gA g 95)), some (.int (I (u1))), some (.int (I (u2))), some (.int (I (v3 + 1))), some (.int (I (v4)))]) rfl ?_
          refine r_goto hK dX8_number_78 (t := 9) (by decide) ?_
          exact ih (v3 + 1) (v4) C37 h
    · exact hk (v3) (v4) C h
set_option maxRecDepth 100000 in
set_option maxHeartbeats 4000000 in
theorem c_X8_number {l : Launch} {g : GT} {Y : Mem} {Q : Mem → Int → Prop} (a1 : Int) (a2 : Int) (C : Mem) (h : wpO (f_X8_number a1 a2 C) Q) : MetC l yX8_number cX8_number 5 (some .boolean) 3 g [.ref (gA g 95), .int (I (a1)), .int (I (a2))] (mrg Y C) (QI (fun c => mrg Y c) Q) := by
  refine met_at 2 (lv := [some (.ref (gA g 95)), some (.int (I (a1))), some (.int (I (a2))), none, none]) (by decide) (Nat.le_of_ble_eq_true rfl) rfl rfl (fun K hK hN hr hQ => ?_)
  unfold f_X8_number at h
  refine r_aload_n hK dX8_number_0 rfl ?_
  refine r_callV hK ck_X8_skip im_X8_skip sl_X8_skip ml_RX8_299 (by omega) (c_X8_skip (l := kL K) (g := g) (Y := Y) C (wpO_bd h)) cls_8 (k := 95) (by omega) rfl (As := []) (st := []) rfl (Nat.le_of_ble_eq_true rfl) dX8_number_1 (kkV (fun C1 h => ?_))
  refine r_iconst hK dX8_number_4 ?_
  refine r_istore_n hK dX8_number_5 (by rw [hN]; decide) rfl (lv' := [some (.ref (gA g 95)), some (.int (I (a1))), some (.int (I (a2))), some (.int (I (0))), none]) rfl ?_
  refine r_iconst hK dX8_number_6 ?_
  refine r_istore hK dX8_number_7 (by rw [hN]; decide) rfl (lv' := [some (.ref (gA g 95)), some (.int (I (a1))), some (.int (I (a2))), some (.int (I (0))), some (.int (I (0)))]) rfl ?_
  refine w_X8_number_9 hK hN hr hQ (by omega) (a1) (a2) _ (fun v3_e9 v4_e9 C_e9 h => ?_) FU (0) (0) C1 h
  refine r_iload_n hK dX8_number_81 rfl ?_
  refine r_iconst hK dX8_number_82 ?_
  refine r_iconst hK dX8_number_83 ?_
  refine r_callS hK ck_X8_in sc_X8_in ml_RX8_114 (by omega) (c_X8_in (l := kL K) (g := g) (Y := Y) (v3_e9) (1) (5) C_e9 (wpO_bd h)) (As := [.int (I (v3_e9)), .int (I (1)), .int (I (5))]) (st := []) rfl (Nat.le_of_ble_eq_true rfl) dX8_number_84 (kkI (fun C84 r84 h => ?_))
  refine r_if_eq hK dX8_number_87 (t := 114) (by decide) (wpO_eq h) (fun h => ?_) (fun h => ?_)
  · refine r_iconst hK dX8_number_114 ?_
    exact r_ireturn hK hr hQ (nar_b (by decide)) dX8_number_115 ⟨C84, 0, rfl, rfl, wpO_some h⟩
  · refine r_iload_n hK dX8_number_90 rfl ?_
    refine r_iconst hK dX8_number_91 ?_
    refine r_jn (J := fun j104 => ∀ (C_104 : Mem), wpO (j104 C_104) Q → Wn K g (mrg Y C_104) 104 [some (.ref (gA g 95)), some (.int (I (a1))), some (.int (I (a2))), some (.int (I (v3_e9))), some (.int (I (v4_e9)))] []) h ?_ ?_
    · intro C_104 h
      refine r_iload hK dX8_number_104 rfl ?_
      refine r_iload_n hK dX8_number_106 rfl ?_
      refine r_iload_n hK dX8_number_107 rfl ?_
      refine r_callS hK ck_X8_in sc_X8_in ml_RX8_114 (by omega) (c_X8_in (l := kL K) (g := g) (Y := Y) (v4_e9) (a1) (a2) C_104 (wpO_bd h)) (As := [.int (I (v4_e9)), .int (I (a1)), .int (I (a2))]) (st := []) rfl (Nat.le_of_ble_eq_true rfl) dX8_number_108 (kkI (fun C108 r108 h => ?_))
      refine r_if_ne hK dX8_number_111 (t := 116) (by decide) (wpO_eq h) (fun h => ?_) (fun h => ?_)
      · refine r_iconst hK dX8_number_114 ?_
        exact r_ireturn hK hr hQ (nar_b (by decide)) dX8_number_115 ⟨C108, 0, rfl, rfl, wpO_some h⟩
      · refine r_aload_n hK dX8_number_116 rfl ?_
        refine r_iload hK dX8_number_117 rfl ?_
        refine r_put (k := 95) hK cls_8 fl_RX8_302 (by decide) (by omega) rfl rfl rfl rfl rfl dX8_number_119 (up_x (by omega)) ?_
        refine r_aload_n hK dX8_number_122 rfl ?_
        refine r_dup hK dX8_number_123 rfl ?_
        refine r_getI (k := 95) hK cls_8 fl_RX8_293 (by decide) (by omega) rfl rfl dX8_number_124 (mrg_x (by omega)) ?_
        refine r_iload_n hK dX8_number_127 rfl ?_
        refine r_iadd hK dX8_number_128 ?_
        refine r_put (k := 95) hK cls_8 fl_RX8_293 (by decide) (by omega) rfl rfl rfl rfl rfl dX8_number_129 (up_x (by omega)) ?_
        refine r_iconst hK dX8_number_132 ?_
        exact r_ireturn hK hr hQ (nar_b (by decide)) dX8_number_133 ⟨(up (up C108 95 32 (v4_e9)) 95 31 (((up C108 95 32 (v4_e9)) 95 31) + v3_e9)), 1, rfl, rfl, wpO_some h⟩
    · intro hj104 h
      refine r_icmp_le hK dX8_number_92 (t := 104) (by decide) (wpO_lt h) (fun h => ?_) (fun h => ?_)
      · refine r_aload_n hK dX8_number_95 rfl ?_
        refine r_callV hK ck_X8_here im_X8_here sl_X8_here ml_RX8_296 (by omega) (c_X8_here (l := kL K) (g := g) (Y := Y) C84 (wpO_bd h)) cls_8 (k := 95) (by omega) rfl (As := []) (st := []) rfl (Nat.le_of_ble_eq_true rfl) dX8_number_96 (kkI (fun C96 r96 h => ?_))
        refine r_bipush hK dX8_number_99 (by decide) ?_
        refine r_icmp_eq hK dX8_number_101 (t := 114) (by decide) (wpO_eq h) (fun h => ?_) (fun h => ?_)
        · refine r_iconst hK dX8_number_114 ?_
          exact r_ireturn hK hr hQ (nar_b (by decide)) dX8_number_115 ⟨C96, 0, rfl, rfl, wpO_some h⟩
        · exact hj104 C96 h
      · exact hj104 C84 h
set_option maxRecDepth 100000 in
set_option maxHeartbeats 4000000 in
theorem c_X8_ends {l : Launch} {g : GT} {Y : Mem} {Q : Mem → Int → Prop} (C : Mem) (h : wpO (f_X8_ends C) Q) : MetC l yX8_ends cX8_ends 1 (some .boolean) 3 g [.ref (gA g 95)] (mrg Y C) (QI (fun c => mrg Y c) Q) := by
  refine met_at 0 (lv := [some (.ref (gA g 95))]) (by decide) (Nat.le_of_ble_eq_true rfl) rfl rfl (fun K hK hN hr hQ => ?_)
  unfold f_X8_ends at h
  refine r_aload_n hK dX8_ends_0 rfl ?_
  refine r_callV hK ck_X8_skip im_X8_skip sl_X8_skip ml_RX8_299 (by omega) (c_X8_skip (l := kL K) (g := g) (Y := Y) C (wpO_bd h)) cls_8 (k := 95) (by omega) rfl (As := []) (st := []) rfl (Nat.le_of_ble_eq_true rfl) dX8_ends_1 (kkV (fun C1 h => ?_))
  refine r_aload_n hK dX8_ends_4 rfl ?_
  refine r_callV hK ck_X8_here im_X8_here sl_X8_here ml_RX8_296 (by omega) (c_X8_here (l := kL K) (g := g) (Y := Y) C1 (wpO_bd h)) cls_8 (k := 95) (by omega) rfl (As := []) (st := []) rfl (Nat.le_of_ble_eq_true rfl) dX8_ends_5 (kkI (fun C5 r5 h => ?_))
  refine r_bipush hK dX8_ends_8 (by decide) ?_
  refine r_icmp_eq hK dX8_ends_10 (t := 15) (by decide) (wpO_eq h) (fun h => ?_) (fun h => ?_)
  · refine r_aload_n hK dX8_ends_15 rfl ?_
    refine r_dup hK dX8_ends_16 rfl ?_
    refine r_getI (k := 95) hK cls_8 fl_RX8_293 (by decide) (by omega) rfl rfl dX8_ends_17 (mrg_x (by omega)) ?_
    refine r_iconst hK dX8_ends_20 ?_
    refine r_iadd hK dX8_ends_21 ?_
    refine r_put (k := 95) hK cls_8 fl_RX8_293 (by decide) (by omega) rfl rfl rfl rfl rfl dX8_ends_22 (up_x (by omega)) ?_
    refine r_iconst hK dX8_ends_25 ?_
    exact r_ireturn hK hr hQ (nar_b (by decide)) dX8_ends_26 ⟨(up C5 95 31 ((C5 95 31) + 1)), 1, rfl, rfl, wpO_some h⟩
  · refine r_iconst hK dX8_ends_13 ?_
    exact r_ireturn hK hr hQ (nar_b (by decide)) dX8_ends_14 ⟨C5, 0, rfl, rfl, wpO_some h⟩
set_option maxRecDepth 100000 in
set_option maxHeartbeats 4000000 in
theorem w_X8_readsKey_28 {K : KT} {g : GT} {Y : Mem} {dd : Nat} (hK : Kok K g cX8_readsKey RX8 dd) (hN : kN K = 3) (hr : (kMe K).sig.returnType = (some .boolean)) {Q : Mem → Int → Prop} (hQ : kQ K = MQ (kB K) (Qc g (QI (fun c => mrg Y c) Q)) (kA K) (kS K) (kc K) (ks K) (gS g)) (hdd : 3 ≤ dd) (u1 : Int) (k : Int → Mem → Option (Mem × Int)) (hk : ∀ (v2 : Int) (C : Mem), wpO (k v2 C) Q → Wn K g (mrg Y C) 56 [some (.ref (gA g 95)), some (.int (I (u1))), some (.int (I (v2)))] []) : ∀ (n : Nat) (v2 : Int) (C : Mem), wpO (f_X8_readsKey_28 u1 k n v2 C) Q → Wn K g (mrg Y C) 28 [some (.ref (gA g 95)), some (.int (I (u1))), some (.int (I (v2)))] [] := by
  intro n
  induction n with
  | zero => intro v2 C h; exact (wpO_none h).elim
  | succ n ih =>
    intro v2 C h
    unfold f_X8_readsKey_28 at h
    refine r_iload_n hK dX8_readsKey_28 rfl ?_
    refine r_iload_n hK dX8_readsKey_29 rfl ?_
    refine r_icmp_ge hK dX8_readsKey_30 (t := 56) (by decide) (wpO_lt h) (fun h => ?_) (fun h => ?_)
    · refine r_aload_n hK dX8_readsKey_33 rfl ?_
      refine r_getR (k := 95) (k' := (101)) hK cls_8 fl_RX8_29 (by decide) (by omega) rfl rfl dX8_readsKey_34 ?_
      refine r_iload_n hK dX8_readsKey_37 rfl ?_
      refine r_aload_n hK dX8_readsKey_38 rfl ?_
      refine r_getR (k := 95) (k' := (113)) hK cls_8 fl_RX8_66 (by decide) (by omega) rfl rfl dX8_readsKey_39 ?_
      refine r_aload_n hK dX8_readsKey_42 rfl ?_
      refine r_getI (k := 95) hK cls_8 fl_RX8_293 (by decide) (by omega) rfl rfl dX8_readsKey_43 (mrg_x (by omega)) ?_
      refine r_iload_n hK dX8_readsKey_46 rfl ?_
      refine r_iadd hK dX8_readsKey_47 ?_
      obtain ⟨hb48, h⟩ := wpO_ix h
      refine r_iaload (k := (113)) hK (by omega) rfl (by decide) hb48 dX8_readsKey_48 (mrg_x (by omega)) ?_
      obtain ⟨hb49, h⟩ := wpO_ix h
      refine r_iastore (k := (101)) hK (by omega) rfl (by decide) hb49 dX8_readsKey_49 (up_x (by omega)) ?_
      refine r_iinc hK dX8_readsKey_50 (by rw [hN]; decide) rfl rfl (lv' := [some (.ref (gA g 95)), some (.int (I (u1))), some (.int (I (v2 + 1)))]) rfl ?_
      refine r_goto hK dX8_readsKey_53 (t := 28) (by decide) ?_
      exact ih (v2 + 1) (up C (101) (v2).toNat (C (113) ((C 95 31) + v2).toNat)) h
    · exact hk (v2) C h
set_option maxRecDepth 100000 in
set_option maxHeartbeats 4000000 in
theorem c_X8_readsKey {l : Launch} {g : GT} {Y : Mem} {Q : Mem → Int → Prop} (C : Mem) (h : wpO (f_X8_readsKey C) Q) : MetC l yX8_readsKey cX8_readsKey 3 (some .boolean) 3 g [.ref (gA g 95)] (mrg Y C) (QI (fun c => mrg Y c) Q) := by
  refine met_at 2 (lv := [some (.ref (gA g 95)), none, none]) (by decide) (Nat.le_of_ble_eq_true rfl) rfl rfl (fun K hK hN hr hQ => ?_)
  unfold f_X8_readsKey at h
  refine r_aload_n hK dX8_readsKey_0 rfl ?_
  refine r_callV hK ck_X8_skip im_X8_skip sl_X8_skip ml_RX8_299 (by omega) (c_X8_skip (l := kL K) (g := g) (Y := Y) C (wpO_bd h)) cls_8 (k := 95) (by omega) rfl (As := []) (st := []) rfl (Nat.le_of_ble_eq_true rfl) dX8_readsKey_1 (kkV (fun C1 h => ?_))
  refine r_aload_n hK dX8_readsKey_4 rfl ?_
  refine r_callV hK ck_X8_lettersHere im_X8_lettersHere sl_X8_lettersHere ml_RX8_305 (by omega) (c_X8_lettersHere (l := kL K) (g := g) (Y := Y) C1 (wpO_bd h)) cls_8 (k := 95) (by omega) rfl (As := []) (st := []) rfl (Nat.le_of_ble_eq_true rfl) dX8_readsKey_5 (kkI (fun C5 r5 h => ?_))
  refine r_istore_n hK dX8_readsKey_8 (by rw [hN]; decide) rfl (lv' := [some (.ref (gA g 95)), some (.int (I (r5))), none]) rfl ?_
  refine r_iload_n hK dX8_readsKey_9 rfl ?_
  refine r_iconst hK dX8_readsKey_10 ?_
  refine r_bipush hK dX8_readsKey_11 (by decide) ?_
  refine r_callS hK ck_X8_in sc_X8_in ml_RX8_114 (by omega) (c_X8_in (l := kL K) (g := g) (Y := Y) (r5) (1) (8) C5 (wpO_bd h)) (As := [.int (I (r5)), .int (I (1)), .int (I (8))]) (st := []) rfl (Nat.le_of_ble_eq_true rfl) dX8_readsKey_13 (kkI (fun C13 r13 h => ?_))
  refine r_if_ne hK dX8_readsKey_16 (t := 21) (by decide) (wpO_eq h) (fun h => ?_) (fun h => ?_)
  · refine r_iconst hK dX8_readsKey_19 ?_
    exact r_ireturn hK hr hQ (nar_b (by decide)) dX8_readsKey_20 ⟨C13, 0, rfl, rfl, wpO_some h⟩
  · refine r_aload_n hK dX8_readsKey_21 rfl ?_
    refine r_iload_n hK dX8_readsKey_22 rfl ?_
    refine r_put (k := 95) hK cls_8 fl_RX8_111 (by decide) (by omega) rfl rfl rfl rfl rfl dX8_readsKey_23 (up_x (by omega)) ?_
    refine r_iconst hK dX8_readsKey_26 ?_
    refine r_istore_n hK dX8_readsKey_27 (by rw [hN]; decide) rfl (lv' := [some (.ref (gA g 95)), some (.int (I (r5))), some (.int (I (0)))]) rfl ?_
    refine w_X8_readsKey_28 hK hN hr hQ (by omega) (r5) _ (fun v2_e28 C_e28 h => ?_) FU (0) (up C13 95 12 (r5)) h
    refine r_aload_n hK dX8_readsKey_56 rfl ?_
    refine r_dup hK dX8_readsKey_57 rfl ?_
    refine r_getI (k := 95) hK cls_8 fl_RX8_293 (by decide) (by omega) rfl rfl dX8_readsKey_58 (mrg_x (by omega)) ?_
    refine r_iload_n hK dX8_readsKey_61 rfl ?_
    refine r_iadd hK dX8_readsKey_62 ?_
    refine r_put (k := 95) hK cls_8 fl_RX8_293 (by decide) (by omega) rfl rfl rfl rfl rfl dX8_readsKey_63 (up_x (by omega)) ?_
    refine r_iconst hK dX8_readsKey_66 ?_
    exact r_ireturn hK hr hQ (nar_b (by decide)) dX8_readsKey_67 ⟨(up C_e28 95 31 ((C_e28 95 31) + r5)), 1, rfl, rfl, wpO_some h⟩
set_option maxRecDepth 100000 in
set_option maxHeartbeats 4000000 in
theorem c_X8_letterAt {l : Launch} {g : GT} {Y : Mem} {Q : Mem → Int → Prop} (a1 : Int) (C : Mem) (h : wpO (f_X8_letterAt a1 C) Q) : MetC l yX8_letterAt cX8_letterAt 2 (some .int) 1 g [.ref (gA g 95), .int (I (a1))] (mrg Y C) (QI (fun c => mrg Y c) Q) := by
  refine met_at 0 (lv := [some (.ref (gA g 95)), some (.int (I (a1)))]) (by decide) (Nat.le_of_ble_eq_true rfl) rfl rfl (fun K hK hN hr hQ => ?_)
  unfold f_X8_letterAt at h
  refine r_aload_n hK dX8_letterAt_0 rfl ?_
  refine r_getR (k := 95) (k' := (113)) hK cls_8 fl_RX8_66 (by decide) (by omega) rfl rfl dX8_letterAt_1 ?_
  refine r_aload_n hK dX8_letterAt_4 rfl ?_
  refine r_getI (k := 95) hK cls_8 fl_RX8_293 (by decide) (by omega) rfl rfl dX8_letterAt_5 (mrg_x (by omega)) ?_
  refine r_iload_n hK dX8_letterAt_8 rfl ?_
  refine r_iadd hK dX8_letterAt_9 ?_
  obtain ⟨hb10, h⟩ := wpO_ix h
  refine r_iaload (k := (113)) hK (by omega) rfl (by decide) hb10 dX8_letterAt_10 (mrg_x (by omega)) ?_
  exact r_ireturn hK hr hQ rfl dX8_letterAt_11 ⟨C, (C (113) ((C 95 31) + a1).toNat), rfl, rfl, wpO_some h⟩
set_option maxRecDepth 100000 in
set_option maxHeartbeats 4000000 in
theorem c_X8_commandHere {l : Launch} {g : GT} {Y : Mem} {Q : Mem → Int → Prop} (C : Mem) (h : wpO (f_X8_commandHere C) Q) : MetC l yX8_commandHere cX8_commandHere 2 (some .int) 3 g [.ref (gA g 95)] (mrg Y C) (QI (fun c => mrg Y c) Q) := by
  refine met_at 1 (lv := [some (.ref (gA g 95)), none]) (by decide) (Nat.le_of_ble_eq_true rfl) rfl rfl (fun K hK hN hr hQ => ?_)
  unfold f_X8_commandHere at h
  refine r_aload_n hK dX8_commandHere_0 rfl ?_
  refine r_callV hK ck_X8_lettersHere im_X8_lettersHere sl_X8_lettersHere ml_RX8_305 (by omega) (c_X8_lettersHere (l := kL K) (g := g) (Y := Y) C (wpO_bd h)) cls_8 (k := 95) (by omega) rfl (As := []) (st := []) rfl (Nat.le_of_ble_eq_true rfl) dX8_commandHere_1 (kkI (fun C1 r1 h => ?_))
  refine r_istore_n hK dX8_commandHere_4 (by rw [hN]; decide) rfl (lv' := [some (.ref (gA g 95)), some (.int (I (r1)))]) rfl ?_
  refine r_iload_n hK dX8_commandHere_5 rfl ?_
  refine r_iconst hK dX8_commandHere_6 ?_
  refine r_icmp_ne hK dX8_commandHere_7 (t := 46) (by decide) (wpO_eq h) (fun h => ?_) (fun h => ?_)
  · refine r_aload_n hK dX8_commandHere_10 rfl ?_
    refine r_iconst hK dX8_commandHere_11 ?_
    refine r_callV hK ck_X8_letterAt im_X8_letterAt sl_X8_letterAt ml_RX8_308 (by omega) (c_X8_letterAt (l := kL K) (g := g) (Y := Y) (0) C1 (wpO_bd h)) cls_8 (k := 95) (by omega) rfl (As := [.int (I (0))]) (st := []) rfl (Nat.le_of_ble_eq_true rfl) dX8_commandHere_12 (kkI (fun C12 r12 h => ?_))
    refine r_bipush hK dX8_commandHere_15 (by decide) ?_
    refine r_icmp_ne hK dX8_commandHere_17 (t := 44) (by decide) (wpO_eq h) (fun h => ?_) (fun h => ?_)
    · refine r_aload_n hK dX8_commandHere_20 rfl ?_
      refine r_iconst hK dX8_commandHere_21 ?_
      refine r_callV hK ck_X8_letterAt im_X8_letterAt sl_X8_letterAt ml_RX8_308 (by omega) (c_X8_letterAt (l := kL K) (g := g) (Y := Y) (1) C12 (wpO_bd h)) cls_8 (k := 95) (by omega) rfl (As := [.int (I (1))]) (st := []) rfl (Nat.le_of_ble_eq_true rfl) dX8_commandHere_22 (kkI (fun C22 r22 h => ?_))
      refine r_bipush hK dX8_commandHere_25 (by decide) ?_
      refine r_icmp_ne hK dX8_commandHere_27 (t := 44) (by decide) (wpO_eq h) (fun h => ?_) (fun h => ?_)
      · refine r_aload_n hK dX8_commandHere_30 rfl ?_
        refine r_iconst hK dX8_commandHere_31 ?_
        refine r_callV hK ck_X8_letterAt im_X8_letterAt sl_X8_letterAt ml_RX8_308 (by omega) (c_X8_letterAt (l := kL K) (g := g) (Y := Y) (2) C22 (wpO_bd h)) cls_8 (k := 95) (by omega) rfl (As := [.int (I (2))]) (st := []) rfl (Nat.le_of_ble_eq_true rfl) dX8_commandHere_32 (kkI (fun C32 r32 h => ?_))
        refine r_bipush hK dX8_commandHere_35 (by decide) ?_
        refine r_icmp_ne hK dX8_commandHere_37 (t := 44) (by decide) (wpO_eq h) (fun h => ?_) (fun h => ?_)
        · refine r_iconst hK dX8_commandHere_40 ?_
          refine r_goto hK dX8_commandHere_41 (t := 45) (by decide) ?_
          exact r_ireturn hK hr hQ rfl dX8_commandHere_45 ⟨C32, 1, rfl, rfl, wpO_some h⟩
        · refine r_iconst hK dX8_commandHere_44 ?_
          exact r_ireturn hK hr hQ rfl dX8_commandHere_45 ⟨C32, 0, rfl, rfl, wpO_some h⟩
      · refine r_iconst hK dX8_commandHere_44 ?_
        exact r_ireturn hK hr hQ rfl dX8_commandHere_45 ⟨C22, 0, rfl, rfl, wpO_some h⟩
    · refine r_iconst hK dX8_commandHere_44 ?_
      exact r_ireturn hK hr hQ rfl dX8_commandHere_45 ⟨C12, 0, rfl, rfl, wpO_some h⟩
  · refine r_iload_n hK dX8_commandHere_46 rfl ?_
    refine r_iconst hK dX8_commandHere_47 ?_
    refine r_icmp_eq hK dX8_commandHere_48 (t := 53) (by decide) (wpO_eq h) (fun h => ?_) (fun h => ?_)
    · refine r_aload_n hK dX8_commandHere_53 rfl ?_
      refine r_iconst hK dX8_commandHere_54 ?_
      refine r_callV hK ck_X8_letterAt im_X8_letterAt sl_X8_letterAt ml_RX8_308 (by omega) (c_X8_letterAt (l := kL K) (g := g) (Y := Y) (0) C1 (wpO_bd h)) cls_8 (k := 95) (by omega) rfl (As := [.int (I (0))]) (st := []) rfl (Nat.le_of_ble_eq_true rfl) dX8_commandHere_55 (kkI (fun C55 r55 h => ?_))
      refine r_bipush hK dX8_commandHere_58 (by decide) ?_
      refine r_jn (J := fun j95 => ∀ (C_95 : Mem), wpO (j95 C_95) Q → Wn K g (mrg Y C_95) 95 [some (.ref (gA g 95)), none] []) h ?_ ?_
      · intro C_95 h
        refine r_aload_n hK dX8_commandHere_95 rfl ?_
        refine r_iconst hK dX8_commandHere_96 ?_
        refine r_callV hK ck_X8_letterAt im_X8_letterAt sl_X8_letterAt ml_RX8_308 (by omega) (c_X8_letterAt (l := kL K) (g := g) (Y := Y) (0) C_95 (wpO_bd h)) cls_8 (k := 95) (by omega) rfl (As := [.int (I (0))]) (st := []) rfl (Nat.le_of_ble_eq_true rfl) dX8_commandHere_97 (kkI (fun C97 r97 h => ?_))
        refine r_bipush hK dX8_commandHere_100 (by decide) ?_
        refine r_icmp_ne hK dX8_commandHere_102 (t := 139) (by decide) (wpO_eq h) (fun h => ?_) (fun h => ?_)
        · refine r_aload_n hK dX8_commandHere_105 rfl ?_
          refine r_iconst hK dX8_commandHere_106 ?_
          refine r_callV hK ck_X8_letterAt im_X8_letterAt sl_X8_letterAt ml_RX8_308 (by omega) (c_X8_letterAt (l := kL K) (g := g) (Y := Y) (1) C97 (wpO_bd h)) cls_8 (k := 95) (by omega) rfl (As := [.int (I (1))]) (st := []) rfl (Nat.le_of_ble_eq_true rfl) dX8_commandHere_107 (kkI (fun C107 r107 h => ?_))
          refine r_bipush hK dX8_commandHere_110 (by decide) ?_
          refine r_icmp_ne hK dX8_commandHere_112 (t := 139) (by decide) (wpO_eq h) (fun h => ?_) (fun h => ?_)
          · refine r_aload_n hK dX8_commandHere_115 rfl ?_
            refine r_iconst hK dX8_commandHere_116 ?_
            refine r_callV hK ck_X8_letterAt im_X8_letterAt sl_X8_letterAt ml_RX8_308 (by omega) (c_X8_letterAt (l := kL K) (g := g) (Y := Y) (2) C107 (wpO_bd h)) cls_8 (k := 95) (by omega) rfl (As := [.int (I (2))]) (st := []) rfl (Nat.le_of_ble_eq_true rfl) dX8_commandHere_117 (kkI (fun C117 r117 h => ?_))
            refine r_bipush hK dX8_commandHere_120 (by decide) ?_
            refine r_icmp_ne hK dX8_commandHere_122 (t := 139) (by decide) (wpO_eq h) (fun h => ?_) (fun h => ?_)
            · refine r_aload_n hK dX8_commandHere_125 rfl ?_
              refine r_iconst hK dX8_commandHere_126 ?_
              refine r_callV hK ck_X8_letterAt im_X8_letterAt sl_X8_letterAt ml_RX8_308 (by omega) (c_X8_letterAt (l := kL K) (g := g) (Y := Y) (3) C117 (wpO_bd h)) cls_8 (k := 95) (by omega) rfl (As := [.int (I (3))]) (st := []) rfl (Nat.le_of_ble_eq_true rfl) dX8_commandHere_127 (kkI (fun C127 r127 h => ?_))
              refine r_bipush hK dX8_commandHere_130 (by decide) ?_
              refine r_icmp_ne hK dX8_commandHere_132 (t := 139) (by decide) (wpO_eq h) (fun h => ?_) (fun h => ?_)
              · refine r_iconst hK dX8_commandHere_135 ?_
                refine r_goto hK dX8_commandHere_136 (t := 140) (by decide) ?_
                exact r_ireturn hK hr hQ rfl dX8_commandHere_140 ⟨C127, 3, rfl, rfl, wpO_some h⟩
              · refine r_iconst hK dX8_commandHere_139 ?_
                exact r_ireturn hK hr hQ rfl dX8_commandHere_140 ⟨C127, 0, rfl, rfl, wpO_some h⟩
            · refine r_iconst hK dX8_commandHere_139 ?_
              exact r_ireturn hK hr hQ rfl dX8_commandHere_140 ⟨C117, 0, rfl, rfl, wpO_some h⟩
          · refine r_iconst hK dX8_commandHere_139 ?_
            exact r_ireturn hK hr hQ rfl dX8_commandHere_140 ⟨C107, 0, rfl, rfl, wpO_some h⟩
        · refine r_iconst hK dX8_commandHere_139 ?_
          exact r_ireturn hK hr hQ rfl dX8_commandHere_140 ⟨C97, 0, rfl, rfl, wpO_some h⟩
      · intro hj95 h
        refine r_icmp_ne hK dX8_commandHere_60 (t := 95) (by decide) (wpO_eq h) (fun h => ?_) (fun h => ?_)
        · refine r_aload_n hK dX8_commandHere_63 rfl ?_
          refine r_iconst hK dX8_commandHere_64 ?_
          refine r_callV hK ck_X8_letterAt im_X8_letterAt sl_X8_letterAt ml_RX8_308 (by omega) (c_X8_letterAt (l := kL K) (g := g) (Y := Y) (1) C55 (wpO_bd h)) cls_8 (k := 95) (by omega) rfl (As := [.int (I (1))]) (st := []) rfl (Nat.le_of_ble_eq_true rfl) dX8_commandHere_65 (kkI (fun C65 r65 h => ?_))
          refine r_bipush hK dX8_commandHere_68 (by decide) ?_
          refine r_icmp_ne hK dX8_commandHere_70 (t := 95) (by decide) (wpO_eq h) (fun h => ?_) (fun h => ?_)
          · refine r_aload_n hK dX8_commandHere_73 rfl ?_
            refine r_iconst hK dX8_commandHere_74 ?_
            refine r_callV hK ck_X8_letterAt im_X8_letterAt sl_X8_letterAt ml_RX8_308 (by omega) (c_X8_letterAt (l := kL K) (g := g) (Y := Y) (2) C65 (wpO_bd h)) cls_8 (k := 95) (by omega) rfl (As := [.int (I (2))]) (st := []) rfl (Nat.le_of_ble_eq_true rfl) dX8_commandHere_75 (kkI (fun C75 r75 h => ?_))
            refine r_bipush hK dX8_commandHere_78 (by decide) ?_
            refine r_icmp_ne hK dX8_commandHere_80 (t := 95) (by decide) (wpO_eq h) (fun h => ?_) (fun h => ?_)
            · refine r_aload_n hK dX8_commandHere_83 rfl ?_
              refine r_iconst hK dX8_commandHere_84 ?_
              refine r_callV hK ck_X8_letterAt im_X8_letterAt sl_X8_letterAt ml_RX8_308 (by omega) (c_X8_letterAt (l := kL K) (g := g) (Y := Y) (3) C75 (wpO_bd h)) cls_8 (k := 95) (by omega) rfl (As := [.int (I (3))]) (st := []) rfl (Nat.le_of_ble_eq_true rfl) dX8_commandHere_85 (kkI (fun C85 r85 h => ?_))
              refine r_bipush hK dX8_commandHere_88 (by decide) ?_
              refine r_icmp_ne hK dX8_commandHere_90 (t := 95) (by decide) (wpO_eq h) (fun h => ?_) (fun h => ?_)
              · refine r_iconst hK dX8_commandHere_93 ?_
                exact r_ireturn hK hr hQ rfl dX8_commandHere_94 ⟨C85, 2, rfl, rfl, wpO_some h⟩
              · refine r_cut [true, false] (lv' := [some (.ref (gA g 95)), none]) rfl ?_
                exact hj95 C85 h
            · refine r_cut [true, false] (lv' := [some (.ref (gA g 95)), none]) rfl ?_
              exact hj95 C75 h
          · refine r_cut [true, false] (lv' := [some (.ref (gA g 95)), none]) rfl ?_
            exact hj95 C65 h
        · refine r_cut [true, false] (lv' := [some (.ref (gA g 95)), none]) rfl ?_
          exact hj95 C55 h
    · refine r_iconst hK dX8_commandHere_51 ?_
      exact r_ireturn hK hr hQ rfl dX8_commandHere_52 ⟨C1, 0, rfl, rfl, wpO_some h⟩
set_option maxRecDepth 100000 in
set_option maxHeartbeats 4000000 in
theorem c_X8_readsLoad {l : Launch} {g : GT} {Y : Mem} {Q : Mem → Int → Prop} (C : Mem) (h : wpO (f_X8_readsLoad C) Q) : MetC l yX8_readsLoad cX8_readsLoad 2 (some .boolean) 4 g [.ref (gA g 95)] (mrg Y C) (QI (fun c => mrg Y c) Q) := by
  refine met_at 1 (lv := [some (.ref (gA g 95)), none]) (by decide) (Nat.le_of_ble_eq_true rfl) rfl rfl (fun K hK hN hr hQ => ?_)
  unfold f_X8_readsLoad at h
  refine r_aload_n hK dX8_readsLoad_0 rfl ?_
  refine r_iconst hK dX8_readsLoad_1 ?_
  refine r_sipush hK dX8_readsLoad_2 (by decide) ?_
  refine r_callV hK ck_X8_number im_X8_number sl_X8_number ml_RX8_311 (by omega) (c_X8_number (l := kL K) (g := g) (Y := Y) (0) (17575) C (wpO_bd h)) cls_8 (k := 95) (by omega) rfl (As := [.int (I (0)), .int (I (17575))]) (st := []) rfl (Nat.le_of_ble_eq_true rfl) dX8_readsLoad_5 (kkI (fun C5 r5 h => ?_))
  refine r_if_ne hK dX8_readsLoad_8 (t := 13) (by decide) (wpO_eq h) (fun h => ?_) (fun h => ?_)
  · refine r_iconst hK dX8_readsLoad_11 ?_
    exact r_ireturn hK hr hQ (nar_b (by decide)) dX8_readsLoad_12 ⟨C5, 0, rfl, rfl, wpO_some h⟩
  · refine r_aload_n hK dX8_readsLoad_13 rfl ?_
    refine r_aload_n hK dX8_readsLoad_14 rfl ?_
    refine r_getI (k := 95) hK cls_8 fl_RX8_302 (by decide) (by omega) rfl rfl dX8_readsLoad_15 (mrg_x (by omega)) ?_
    refine r_put (k := 95) hK cls_8 fl_RX8_314 (by decide) (by omega) rfl rfl rfl rfl rfl dX8_readsLoad_18 (up_x (by omega)) ?_
    refine r_aload_n hK dX8_readsLoad_21 rfl ?_
    refine r_iconst hK dX8_readsLoad_22 ?_
    refine r_bipush hK dX8_readsLoad_23 (by decide) ?_
    refine r_callV hK ck_X8_number im_X8_number sl_X8_number ml_RX8_311 (by omega) (c_X8_number (l := kL K) (g := g) (Y := Y) (1) (99) (up C5 95 33 (C5 95 32)) (wpO_bd h)) cls_8 (k := 95) (by omega) rfl (As := [.int (I (1)), .int (I (99))]) (st := []) rfl (Nat.le_of_ble_eq_true rfl) dX8_readsLoad_25 (kkI (fun C25 r25 h => ?_))
    refine r_if_ne hK dX8_readsLoad_28 (t := 33) (by decide) (wpO_eq h) (fun h => ?_) (fun h => ?_)
    · refine r_iconst hK dX8_readsLoad_31 ?_
      exact r_ireturn hK hr hQ (nar_b (by decide)) dX8_readsLoad_32 ⟨C25, 0, rfl, rfl, wpO_some h⟩
    · refine r_aload_n hK dX8_readsLoad_33 rfl ?_
      refine r_aload_n hK dX8_readsLoad_34 rfl ?_
      refine r_getI (k := 95) hK cls_8 fl_RX8_302 (by decide) (by omega) rfl rfl dX8_readsLoad_35 (mrg_x (by omega)) ?_
      refine r_put (k := 95) hK cls_8 fl_RX8_317 (by decide) (by omega) rfl rfl rfl rfl rfl dX8_readsLoad_38 (up_x (by omega)) ?_
      refine r_aload_n hK dX8_readsLoad_41 rfl ?_
      refine r_callV hK ck_X8_skip im_X8_skip sl_X8_skip ml_RX8_299 (by omega) (c_X8_skip (l := kL K) (g := g) (Y := Y) (up C25 95 34 (C25 95 32)) (wpO_bd h)) cls_8 (k := 95) (by omega) rfl (As := []) (st := []) rfl (Nat.le_of_ble_eq_true rfl) dX8_readsLoad_42 (kkV (fun C42 h => ?_))
      refine r_aload_n hK dX8_readsLoad_45 rfl ?_
      refine r_getI (k := 95) hK cls_8 fl_RX8_293 (by decide) (by omega) rfl rfl dX8_readsLoad_46 (mrg_x (by omega)) ?_
      refine r_istore_n hK dX8_readsLoad_49 (by rw [hN]; decide) rfl (lv' := [some (.ref (gA g 95)), some (.int (I (C42 95 31)))]) rfl ?_
      refine r_aload_n hK dX8_readsLoad_50 rfl ?_
      refine r_iconst hK dX8_readsLoad_51 ?_
      refine r_bipush hK dX8_readsLoad_52 (by decide) ?_
      refine r_callV hK ck_X8_number im_X8_number sl_X8_number ml_RX8_311 (by omega) (c_X8_number (l := kL K) (g := g) (Y := Y) (1) (60) C42 (wpO_bd h)) cls_8 (k := 95) (by omega) rfl (As := [.int (I (1)), .int (I (60))]) (st := []) rfl (Nat.le_of_ble_eq_true rfl) dX8_readsLoad_54 (kkI (fun C54 r54 h => ?_))
      refine r_if_ne hK dX8_readsLoad_57 (t := 62) (by decide) (wpO_eq h) (fun h => ?_) (fun h => ?_)
      · refine r_iconst hK dX8_readsLoad_60 ?_
        exact r_ireturn hK hr hQ (nar_b (by decide)) dX8_readsLoad_61 ⟨C54, 0, rfl, rfl, wpO_some h⟩
      · refine r_aload_n hK dX8_readsLoad_62 rfl ?_
        refine r_getI (k := 95) hK cls_8 fl_RX8_314 (by decide) (by omega) rfl rfl dX8_readsLoad_63 (mrg_x (by omega)) ?_
        refine r_aload_n hK dX8_readsLoad_66 rfl ?_
        refine r_getI (k := 95) hK cls_8 fl_RX8_317 (by decide) (by omega) rfl rfl dX8_readsLoad_67 (mrg_x (by omega)) ?_
        refine r_aload_n hK dX8_readsLoad_70 rfl ?_
        refine r_getI (k := 95) hK cls_8 fl_RX8_302 (by decide) (by omega) rfl rfl dX8_readsLoad_71 (mrg_x (by omega)) ?_
        refine r_callS hK ck_X8_isLoad sc_X8_isLoad ml_RX8_193 (by omega) (c_X8_isLoad (l := kL K) (g := g) (Y := Y) (C54 95 33) (C54 95 34) (C54 95 32) C54 (wpO_bd h)) (As := [.int (I (C54 95 33)), .int (I (C54 95 34)), .int (I (C54 95 32))]) (st := []) rfl (Nat.le_of_ble_eq_true rfl) dX8_readsLoad_74 (kkI (fun C74 r74 h => ?_))
        refine r_if_ne hK dX8_readsLoad_77 (t := 87) (by decide) (wpO_eq h) (fun h => ?_) (fun h => ?_)
        · refine r_aload_n hK dX8_readsLoad_80 rfl ?_
          refine r_iload_n hK dX8_readsLoad_81 rfl ?_
          refine r_put (k := 95) hK cls_8 fl_RX8_293 (by decide) (by omega) rfl rfl rfl rfl rfl dX8_readsLoad_82 (up_x (by omega)) ?_
          refine r_iconst hK dX8_readsLoad_85 ?_
          exact r_ireturn hK hr hQ (nar_b (by decide)) dX8_readsLoad_86 ⟨(up C74 95 31 (C42 95 31)), 0, rfl, rfl, wpO_some h⟩
        · refine r_iconst hK dX8_readsLoad_87 ?_
          exact r_ireturn hK hr hQ (nar_b (by decide)) dX8_readsLoad_88 ⟨C74, 1, rfl, rfl, wpO_some h⟩
set_option maxRecDepth 100000 in
set_option maxHeartbeats 4000000 in
theorem c_X8_readsRest {l : Launch} {g : GT} {Y : Mem} {Q : Mem → Int → Prop} (a1 : Int) (C : Mem) (h : wpO (f_X8_readsRest a1 C) Q) : MetC l yX8_readsRest cX8_readsRest 2 (some .boolean) 5 g [.ref (gA g 95), .int (I (a1))] (mrg Y C) (QI (fun c => mrg Y c) Q) := by
  refine met_at 0 (lv := [some (.ref (gA g 95)), some (.int (I (a1)))]) (by decide) (Nat.le_of_ble_eq_true rfl) rfl rfl (fun K hK hN hr hQ => ?_)
  unfold f_X8_readsRest at h
  refine r_iload_n hK dX8_readsRest_0 rfl ?_
  refine r_iconst hK dX8_readsRest_1 ?_
  refine r_icmp_ne hK dX8_readsRest_2 (t := 10) (by decide) (wpO_eq h) (fun h => ?_) (fun h => ?_)
  · refine r_aload_n hK dX8_readsRest_5 rfl ?_
    refine r_callV hK ck_X8_readsLoad im_X8_readsLoad sl_X8_readsLoad ml_RX8_320 (by omega) (c_X8_readsLoad (l := kL K) (g := g) (Y := Y) C (wpO_bd h)) cls_8 (k := 95) (by omega) rfl (As := []) (st := []) rfl (Nat.le_of_ble_eq_true rfl) dX8_readsRest_6 (kkI (fun C6 r6 h => ?_))
    obtain ⟨hbo9, h⟩ := wpO_bo h
    exact r_ireturn hK hr hQ (nar_b hbo9) dX8_readsRest_9 ⟨C6, r6, rfl, rfl, wpO_some h⟩
  · refine r_aload_n hK dX8_readsRest_10 rfl ?_
    refine r_callV hK ck_X8_readsKey im_X8_readsKey sl_X8_readsKey ml_RX8_324 (by omega) (c_X8_readsKey (l := kL K) (g := g) (Y := Y) C (wpO_bd h)) cls_8 (k := 95) (by omega) rfl (As := []) (st := []) rfl (Nat.le_of_ble_eq_true rfl) dX8_readsRest_11 (kkI (fun C11 r11 h => ?_))
    refine r_if_eq hK dX8_readsRest_14 (t := 37) (by decide) (wpO_eq h) (fun h => ?_) (fun h => ?_)
    · refine r_iconst hK dX8_readsRest_37 ?_
      exact r_ireturn hK hr hQ (nar_b (by decide)) dX8_readsRest_38 ⟨C11, 0, rfl, rfl, wpO_some h⟩
    · refine r_iload_n hK dX8_readsRest_17 rfl ?_
      refine r_iconst hK dX8_readsRest_18 ?_
      refine r_icmp_eq hK dX8_readsRest_19 (t := 33) (by decide) (wpO_eq h) (fun h => ?_) (fun h => ?_)
      · refine r_iconst hK dX8_readsRest_33 ?_
        refine r_goto hK dX8_readsRest_34 (t := 38) (by decide) ?_
        exact r_ireturn hK hr hQ (nar_b (by decide)) dX8_readsRest_38 ⟨C11, 1, rfl, rfl, wpO_some h⟩
      · refine r_aload_n hK dX8_readsRest_22 rfl ?_
        refine r_iconst hK dX8_readsRest_23 ?_
        refine r_sipush hK dX8_readsRest_24 (by decide) ?_
        refine r_callV hK ck_X8_number im_X8_number sl_X8_number ml_RX8_311 (by omega) (c_X8_number (l := kL K) (g := g) (Y := Y) (0) (255) C11 (wpO_bd h)) cls_8 (k := 95) (by omega) rfl (As := [.int (I (0)), .int (I (255))]) (st := []) rfl (Nat.le_of_ble_eq_true rfl) dX8_readsRest_27 (kkI (fun C27 r27 h => ?_))
        refine r_if_eq hK dX8_readsRest_30 (t := 37) (by decide) (wpO_eq h) (fun h => ?_) (fun h => ?_)
        · refine r_iconst hK dX8_readsRest_37 ?_
          exact r_ireturn hK hr hQ (nar_b (by decide)) dX8_readsRest_38 ⟨C27, 0, rfl, rfl, wpO_some h⟩
        · refine r_iconst hK dX8_readsRest_33 ?_
          refine r_goto hK dX8_readsRest_34 (t := 38) (by decide) ?_
          exact r_ireturn hK hr hQ (nar_b (by decide)) dX8_readsRest_38 ⟨C27, 1, rfl, rfl, wpO_some h⟩
set_option maxRecDepth 100000 in
set_option maxHeartbeats 4000000 in
theorem c_X8_readsCommand {l : Launch} {g : GT} {Y : Mem} {Q : Mem → Int → Prop} (C : Mem) (h : wpO (f_X8_readsCommand C) Q) : MetC l yX8_readsCommand cX8_readsCommand 2 (some .int) 6 g [.ref (gA g 95)] (mrg Y C) (QI (fun c => mrg Y c) Q) := by
  refine met_at 1 (lv := [some (.ref (gA g 95)), none]) (by decide) (Nat.le_of_ble_eq_true rfl) rfl rfl (fun K hK hN hr hQ => ?_)
  unfold f_X8_readsCommand at h
  refine r_aload_n hK dX8_readsCommand_0 rfl ?_
  refine r_callV hK ck_X8_commandHere im_X8_commandHere sl_X8_commandHere ml_RX8_327 (by omega) (c_X8_commandHere (l := kL K) (g := g) (Y := Y) C (wpO_bd h)) cls_8 (k := 95) (by omega) rfl (As := []) (st := []) rfl (Nat.le_of_ble_eq_true rfl) dX8_readsCommand_1 (kkI (fun C1 r1 h => ?_))
  refine r_istore_n hK dX8_readsCommand_4 (by rw [hN]; decide) rfl (lv' := [some (.ref (gA g 95)), some (.int (I (r1)))]) rfl ?_
  refine r_iload_n hK dX8_readsCommand_5 rfl ?_
  refine r_if_ne hK dX8_readsCommand_6 (t := 11) (by decide) (wpO_eq h) (fun h => ?_) (fun h => ?_)
  · refine r_iconst hK dX8_readsCommand_9 ?_
    exact r_ireturn hK hr hQ rfl dX8_readsCommand_10 ⟨C1, 0, rfl, rfl, wpO_some h⟩
  · refine r_aload_n hK dX8_readsCommand_11 rfl ?_
    refine r_dup hK dX8_readsCommand_12 rfl ?_
    refine r_getI (k := 95) hK cls_8 fl_RX8_293 (by decide) (by omega) rfl rfl dX8_readsCommand_13 (mrg_x (by omega)) ?_
    refine r_iload_n hK dX8_readsCommand_16 rfl ?_
    refine r_iconst hK dX8_readsCommand_17 ?_
    refine r_jn (J := fun j26 => ∀ (s2_26 : Int), wpO (j26 s2_26) Q → Wn K g (mrg Y C1) 26 [some (.ref (gA g 95)), some (.int (I (r1)))] [.int (I (s2_26)), .int (I (C1 95 31)), .ref (gA g 95)]) h ?_ ?_
    · intro s2_26 h
      refine r_iadd hK dX8_readsCommand_26 ?_
      refine r_put (k := 95) hK cls_8 fl_RX8_293 (by decide) (by omega) rfl rfl rfl rfl rfl dX8_readsCommand_27 (up_x (by omega)) ?_
      refine r_aload_n hK dX8_readsCommand_30 rfl ?_
      refine r_iload_n hK dX8_readsCommand_31 rfl ?_
      refine r_callV hK ck_X8_readsRest im_X8_readsRest sl_X8_readsRest ml_RX8_330 (by omega) (c_X8_readsRest (l := kL K) (g := g) (Y := Y) (r1) (up C1 95 31 ((C1 95 31) + s2_26)) (wpO_bd h)) cls_8 (k := 95) (by omega) rfl (As := [.int (I (r1))]) (st := []) rfl (Nat.le_of_ble_eq_true rfl) dX8_readsCommand_32 (kkI (fun C32 r32 h => ?_))
      refine r_if_eq hK dX8_readsCommand_35 (t := 49) (by decide) (wpO_eq h) (fun h => ?_) (fun h => ?_)
      · refine r_iconst hK dX8_readsCommand_49 ?_
        exact r_ireturn hK hr hQ rfl dX8_readsCommand_50 ⟨C32, 0, rfl, rfl, wpO_some h⟩
      · refine r_aload_n hK dX8_readsCommand_38 rfl ?_
        refine r_callV hK ck_X8_ends im_X8_ends sl_X8_ends ml_RX8_333 (by omega) (c_X8_ends (l := kL K) (g := g) (Y := Y) C32 (wpO_bd h)) cls_8 (k := 95) (by omega) rfl (As := []) (st := []) rfl (Nat.le_of_ble_eq_true rfl) dX8_readsCommand_39 (kkI (fun C39 r39 h => ?_))
        refine r_if_eq hK dX8_readsCommand_42 (t := 49) (by decide) (wpO_eq h) (fun h => ?_) (fun h => ?_)
        · refine r_iconst hK dX8_readsCommand_49 ?_
          exact r_ireturn hK hr hQ rfl dX8_readsCommand_50 ⟨C39, 0, rfl, rfl, wpO_some h⟩
        · refine r_iload_n hK dX8_readsCommand_45 rfl ?_
          refine r_goto hK dX8_readsCommand_46 (t := 50) (by decide) ?_
          exact r_ireturn hK hr hQ rfl dX8_readsCommand_50 ⟨C39, r1, rfl, rfl, wpO_some h⟩
    · intro hj26 h
      refine r_icmp_ne hK dX8_readsCommand_18 (t := 25) (by decide) (wpO_eq h) (fun h => ?_) (fun h => ?_)
      · refine r_iconst hK dX8_readsCommand_21 ?_
        refine r_goto hK dX8_readsCommand_22 (t := 26) (by decide) ?_
        exact hj26 (3) h
      · refine r_iconst hK dX8_readsCommand_25 ?_
        exact hj26 (4) h
set_option maxRecDepth 100000 in
set_option maxHeartbeats 4000000 in
theorem c_X8_does {l : Launch} {g : GT} {Y : Mem} {Q : Mem → Int → Prop} (a1 : Int) (C : Mem) (h : wpO (f_X8_does a1 C) Q) : MetC l yX8_does cX8_does 2 (some .boolean) 6 g [.ref (gA g 95), .int (I (a1))] (mrg Y C) (QI (fun c => mrg Y c) Q) := by
  refine met_at 0 (lv := [some (.ref (gA g 95)), some (.int (I (a1)))]) (by decide) (Nat.le_of_ble_eq_true rfl) rfl rfl (fun K hK hN hr hQ => ?_)
  unfold f_X8_does at h
  refine r_iload_n hK dX8_does_0 rfl ?_
  refine r_iconst hK dX8_does_1 ?_
  refine r_icmp_ne hK dX8_does_2 (t := 24) (by decide) (wpO_eq h) (fun h => ?_) (fun h => ?_)
  · refine r_aload_n hK dX8_does_5 rfl ?_
    refine r_aload_n hK dX8_does_6 rfl ?_
    refine r_getI (k := 95) hK cls_8 fl_RX8_302 (by decide) (by omega) rfl rfl dX8_does_7 (mrg_x (by omega)) ?_
    refine r_callV hK ck_X8_putKey im_X8_putKey sl_X8_putKey ml_RX8_168 (by omega) (c_X8_putKey (l := kL K) (g := g) (Y := Y) (C 95 32) C (wpO_bd h)) cls_8 (k := 95) (by omega) rfl (As := [.int (I (C 95 32))]) (st := []) rfl (Nat.le_of_ble_eq_true rfl) dX8_does_10 (kkI (fun C10 r10 h => ?_))
    refine r_bipush hK dX8_does_13 (by decide) ?_
    refine r_icmp_eq hK dX8_does_15 (t := 22) (by decide) (wpO_eq h) (fun h => ?_) (fun h => ?_)
    · refine r_iconst hK dX8_does_22 ?_
      exact r_ireturn hK hr hQ (nar_b (by decide)) dX8_does_23 ⟨C10, 0, rfl, rfl, wpO_some h⟩
    · refine r_iconst hK dX8_does_18 ?_
      refine r_goto hK dX8_does_19 (t := 23) (by decide) ?_
      exact r_ireturn hK hr hQ (nar_b (by decide)) dX8_does_23 ⟨C10, 1, rfl, rfl, wpO_some h⟩
  · refine r_iload_n hK dX8_does_24 rfl ?_
    refine r_iconst hK dX8_does_25 ?_
    refine r_icmp_ne hK dX8_does_26 (t := 46) (by decide) (wpO_eq h) (fun h => ?_) (fun h => ?_)
    · refine r_aload_n hK dX8_does_29 rfl ?_
      refine r_callV hK ck_X8_takeKey im_X8_takeKey sl_X8_takeKey ml_RX8_187 (by omega) (c_X8_takeKey (l := kL K) (g := g) (Y := Y) C (wpO_bd h)) cls_8 (k := 95) (by omega) rfl (As := []) (st := []) rfl (Nat.le_of_ble_eq_true rfl) dX8_does_30 (kkI (fun C30 r30 h => ?_))
      refine r_bipush hK dX8_does_33 (by decide) ?_
      refine r_icmp_eq hK dX8_does_35 (t := 42) (by decide) (wpO_eq h) (fun h => ?_) (fun h => ?_)
      · refine r_iconst hK dX8_does_42 ?_
        refine r_goto hK dX8_does_43 (t := 70) (by decide) ?_
        exact r_ireturn hK hr hQ (nar_b (by decide)) dX8_does_70 ⟨C30, 0, rfl, rfl, wpO_some h⟩
      · refine r_iconst hK dX8_does_38 ?_
        refine r_goto hK dX8_does_39 (t := 70) (by decide) ?_
        exact r_ireturn hK hr hQ (nar_b (by decide)) dX8_does_70 ⟨C30, 1, rfl, rfl, wpO_some h⟩
    · refine r_aload_n hK dX8_does_46 rfl ?_
      refine r_aload_n hK dX8_does_47 rfl ?_
      refine r_getI (k := 95) hK cls_8 fl_RX8_314 (by decide) (by omega) rfl rfl dX8_does_48 (mrg_x (by omega)) ?_
      refine r_aload_n hK dX8_does_51 rfl ?_
      refine r_getI (k := 95) hK cls_8 fl_RX8_317 (by decide) (by omega) rfl rfl dX8_does_52 (mrg_x (by omega)) ?_
      refine r_aload_n hK dX8_does_55 rfl ?_
      refine r_getI (k := 95) hK cls_8 fl_RX8_302 (by decide) (by omega) rfl rfl dX8_does_56 (mrg_x (by omega)) ?_
      refine r_callV hK ck_X8_loads im_X8_loads sl_X8_loads ml_RX8_196 (by omega) (c_X8_loads (l := kL K) (g := g) (Y := Y) (C 95 33) (C 95 34) (C 95 32) C (wpO_bd h)) cls_8 (k := 95) (by omega) rfl (As := [.int (I (C 95 33)), .int (I (C 95 34)), .int (I (C 95 32))]) (st := []) rfl (Nat.le_of_ble_eq_true rfl) dX8_does_59 (kkI (fun C59 r59 h => ?_))
      refine r_if_le hK dX8_does_62 (t := 69) (by decide) (wpO_lt h) (fun h => ?_) (fun h => ?_)
      · refine r_iconst hK dX8_does_65 ?_
        refine r_goto hK dX8_does_66 (t := 70) (by decide) ?_
        exact r_ireturn hK hr hQ (nar_b (by decide)) dX8_does_70 ⟨C59, 1, rfl, rfl, wpO_some h⟩
      · refine r_iconst hK dX8_does_69 ?_
        exact r_ireturn hK hr hQ (nar_b (by decide)) dX8_does_70 ⟨C59, 0, rfl, rfl, wpO_some h⟩
set_option maxRecDepth 100000 in
set_option maxHeartbeats 4000000 in
theorem w_X8_run_9 {K : KT} {g : GT} {Y : Mem} {dd : Nat} (hK : Kok K g cX8_run RX8 dd) (hN : kN K = 2) (hr : (kMe K).sig.returnType = (some .int)) {Q : Mem → Int → Prop} (hQ : kQ K = MQ (kB K) (Qc g (QI (fun c => mrg Y c) Q)) (kA K) (kS K) (kc K) (ks K) (gS g)) (hdd : 7 ≤ dd) (k : Mem → Option (Mem × Int)) (hk : ∀ (C : Mem), wpO (k C) Q → Wn K g (mrg Y C) 42 [some (.ref (gA g 95)), none] []) : ∀ (n : Nat) (C : Mem), wpO (f_X8_run_9 k n C) Q → Wn K g (mrg Y C) 9 [some (.ref (gA g 95)), none] [] := by
  intro n
  induction n with
  | zero => intro C h; exact (wpO_none h).elim
  | succ n ih =>
    intro C h
    unfold f_X8_run_9 at h
    refine r_aload_n hK dX8_run_9 rfl ?_
    refine r_getI (k := 95) hK cls_8 fl_RX8_293 (by decide) (by omega) rfl rfl dX8_run_10 (mrg_x (by omega)) ?_
    refine r_aload_n hK dX8_run_13 rfl ?_
    refine r_getI (k := 95) hK cls_8 fl_RX8_290 (by decide) (by omega) rfl rfl dX8_run_14 (mrg_x (by omega)) ?_
    refine r_icmp_ge hK dX8_run_17 (t := 42) (by decide) (wpO_lt h) (fun h => ?_) (fun h => ?_)
    · refine r_aload_n hK dX8_run_20 rfl ?_
      refine r_callV hK ck_X8_readsCommand im_X8_readsCommand sl_X8_readsCommand ml_RX8_336 (by omega) (c_X8_readsCommand (l := kL K) (g := g) (Y := Y) C (wpO_bd h)) cls_8 (k := 95) (by omega) rfl (As := []) (st := []) rfl (Nat.le_of_ble_eq_true rfl) dX8_run_21 (kkI (fun C21 r21 h => ?_))
      refine r_if_ne hK dX8_run_24 (t := 35) (by decide) (wpO_eq h) (fun h => ?_) (fun h => ?_)
      · refine r_bipush hK dX8_run_27 (by decide) ?_
        refine r_aload_n hK dX8_run_29 rfl ?_
        refine r_getI (k := 95) hK cls_8 fl_RX8_293 (by decide) (by omega) rfl rfl dX8_run_30 (mrg_x (by omega)) ?_
        refine r_isub hK dX8_run_33 ?_
        exact r_ireturn hK hr hQ rfl dX8_run_34 ⟨C21, ((-10) - (C21 95 31)), rfl, rfl, wpO_some h⟩
      · refine r_aload_n hK dX8_run_35 rfl ?_
        refine r_callV hK ck_X8_skip im_X8_skip sl_X8_skip ml_RX8_299 (by omega) (c_X8_skip (l := kL K) (g := g) (Y := Y) C21 (wpO_bd h)) cls_8 (k := 95) (by omega) rfl (As := []) (st := []) rfl (Nat.le_of_ble_eq_true rfl) dX8_run_36 (kkV (fun C36 h => ?_))
        refine r_goto hK dX8_run_39 (t := 9) (by decide) ?_
        exact ih C36 h
    · exact hk C h
set_option maxRecDepth 100000 in
set_option maxHeartbeats 4000000 in
theorem w_X8_run_53 {K : KT} {g : GT} {Y : Mem} {dd : Nat} (hK : Kok K g cX8_run RX8 dd) (hN : kN K = 2) (hr : (kMe K).sig.returnType = (some .int)) {Q : Mem → Int → Prop} (hQ : kQ K = MQ (kB K) (Qc g (QI (fun c => mrg Y c) Q)) (kA K) (kS K) (kc K) (ks K) (gS g)) (hdd : 7 ≤ dd) (k : Int → Mem → Option (Mem × Int)) (hk : ∀ (v1 : Int) (C : Mem), wpO (k v1 C) Q → Wn K g (mrg Y C) 90 [some (.ref (gA g 95)), some (.int (I (v1)))] []) : ∀ (n : Nat) (v1 : Int) (C : Mem), wpO (f_X8_run_53 k n v1 C) Q → Wn K g (mrg Y C) 53 [some (.ref (gA g 95)), some (.int (I (v1)))] [] := by
  intro n
  induction n with
  | zero => intro v1 C h; exact (wpO_none h).elim
  | succ n ih =>
    intro v1 C h
    unfold f_X8_run_53 at h
    refine r_aload_n hK dX8_run_53 rfl ?_
    refine r_getI (k := 95) hK cls_8 fl_RX8_293 (by decide) (by omega) rfl rfl dX8_run_54 (mrg_x (by omega)) ?_
    refine r_aload_n hK dX8_run_57 rfl ?_
    refine r_getI (k := 95) hK cls_8 fl_RX8_290 (by decide) (by omega) rfl rfl dX8_run_58 (mrg_x (by omega)) ?_
    refine r_icmp_ge hK dX8_run_61 (t := 90) (by decide) (wpO_lt h) (fun h => ?_) (fun h => ?_)
    · refine r_iload_n hK dX8_run_64 rfl ?_
      refine r_aload_n hK dX8_run_65 rfl ?_
      refine r_aload_n hK dX8_run_66 rfl ?_
      refine r_callV hK ck_X8_readsCommand im_X8_readsCommand sl_X8_readsCommand ml_RX8_336 (by omega) (c_X8_readsCommand (l := kL K) (g := g) (Y := Y) C (wpO_bd h)) cls_8 (k := 95) (by omega) rfl (As := []) (st := [.ref (gA g 95), .int (I (v1))]) rfl (Nat.le_of_ble_eq_true rfl) dX8_run_67 (kkI (fun C67 r67 h => ?_))
      refine r_callV hK ck_X8_does im_X8_does sl_X8_does ml_RX8_339 (by omega) (c_X8_does (l := kL K) (g := g) (Y := Y) (r67) C67 (wpO_bd h)) cls_8 (k := 95) (by omega) rfl (As := [.int (I (r67))]) (st := [.int (I (v1))]) rfl (Nat.le_of_ble_eq_true rfl) dX8_run_70 (kkI (fun C70 r70 h => ?_))
      refine r_jn (J := fun j81 => ∀ (s1_81 : Int), wpO (j81 s1_81) Q → Wn K g (mrg Y C70) 81 [some (.ref (gA g 95)), none] [.int (I (s1_81)), .int (I (v1))]) h ?_ ?_
      · intro s1_81 h
        refine r_iadd hK dX8_run_81 ?_
        refine r_istore_n hK dX8_run_82 (by rw [hN]; decide) rfl (lv' := [some (.ref (gA g 95)), some (.int (I (v1 + s1_81)))]) rfl ?_
        refine r_aload_n hK dX8_run_83 rfl ?_
        refine r_callV hK ck_X8_skip im_X8_skip sl_X8_skip ml_RX8_299 (by omega) (c_X8_skip (l := kL K) (g := g) (Y := Y) C70 (wpO_bd h)) cls_8 (k := 95) (by omega) rfl (As := []) (st := []) rfl (Nat.le_of_ble_eq_true rfl) dX8_run_84 (kkV (fun C84 h => ?_))
        refine r_goto hK dX8_run_87 (t := 53) (by decide) ?_
        exact ih (v1 + s1_81) C84 h
      · intro hj81 h
        refine r_if_eq hK dX8_run_73 (t := 80) (by decide) (wpO_eq h) (fun h => ?_) (fun h => ?_)
        · refine r_iconst hK dX8_run_80 ?_
          refine r_cut [true, false] (lv' := [some (.ref (gA g 95)), none]) rfl ?_
          exact hj81 (0) h
        · refine r_iconst hK dX8_run_76 ?_
          refine r_goto hK dX8_run_77 (t := 81) (by decide) ?_
          refine r_cut [true, false] (lv' := [some (.ref (gA g 95)), none]) rfl ?_
          exact hj81 (1) h
    · exact hk (v1) C h
set_option maxRecDepth 100000 in
set_option maxHeartbeats 4000000 in
theorem c_X8_run {l : Launch} {g : GT} {Y : Mem} {Q : Mem → Int → Prop} (C : Mem) (h : wpO (f_X8_run C) Q) : MetC l yX8_run cX8_run 2 (some .int) 7 g [.ref (gA g 95)] (mrg Y C) (QI (fun c => mrg Y c) Q) := by
  refine met_at 1 (lv := [some (.ref (gA g 95)), none]) (by decide) (Nat.le_of_ble_eq_true rfl) rfl rfl (fun K hK hN hr hQ => ?_)
  unfold f_X8_run at h
  refine r_aload_n hK dX8_run_0 rfl ?_
  refine r_iconst hK dX8_run_1 ?_
  refine r_put (k := 95) hK cls_8 fl_RX8_293 (by decide) (by omega) rfl rfl rfl rfl rfl dX8_run_2 (up_x (by omega)) ?_
  refine r_aload_n hK dX8_run_5 rfl ?_
  refine r_callV hK ck_X8_skip im_X8_skip sl_X8_skip ml_RX8_299 (by omega) (c_X8_skip (l := kL K) (g := g) (Y := Y) (up C 95 31 (0)) (wpO_bd h)) cls_8 (k := 95) (by omega) rfl (As := []) (st := []) rfl (Nat.le_of_ble_eq_true rfl) dX8_run_6 (kkV (fun C6 h => ?_))
  refine w_X8_run_9 hK hN hr hQ (by omega) _ (fun C_e9 h => ?_) FU C6 h
  refine r_aload_n hK dX8_run_42 rfl ?_
  refine r_iconst hK dX8_run_43 ?_
  refine r_put (k := 95) hK cls_8 fl_RX8_293 (by decide) (by omega) rfl rfl rfl rfl rfl dX8_run_44 (up_x (by omega)) ?_
  refine r_aload_n hK dX8_run_47 rfl ?_
  refine r_callV hK ck_X8_skip im_X8_skip sl_X8_skip ml_RX8_299 (by omega) (c_X8_skip (l := kL K) (g := g) (Y := Y) (up C_e9 95 31 (0)) (wpO_bd h)) cls_8 (k := 95) (by omega) rfl (As := []) (st := []) rfl (Nat.le_of_ble_eq_true rfl) dX8_run_48 (kkV (fun C48 h => ?_))
  refine r_iconst hK dX8_run_51 ?_
  refine r_istore_n hK dX8_run_52 (by rw [hN]; decide) rfl (lv' := [some (.ref (gA g 95)), some (.int (I (0)))]) rfl ?_
  refine w_X8_run_53 hK hN hr hQ (by omega) _ (fun v1_e53 C_e53 h => ?_) FU (0) C48 h
  refine r_aload_n hK dX8_run_90 rfl ?_
  refine r_iconst hK dX8_run_91 ?_
  refine r_put (k := 95) hK cls_8 fl_RX8_290 (by decide) (by omega) rfl rfl rfl rfl rfl dX8_run_92 (up_x (by omega)) ?_
  refine r_iload_n hK dX8_run_95 rfl ?_
  exact r_ireturn hK hr hQ rfl dX8_run_96 ⟨(up C_e53 95 30 (0)), v1_e53, rfl, rfl, wpO_some h⟩

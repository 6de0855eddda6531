set_option maxRecDepth 100000 in
set_option maxHeartbeats 4000000 in
theorem c_X1_comeTo {l : Launch} {g : GT} {X : Mem} {Q : Mem → Int → Prop} (a1 : Int) (C : Mem) (h : wpO (f_X1_comeTo a1 C) Q) : MetC l yX1_comeTo cX1_comeTo 2 none 1 g [.ref (gA g 3), .int (I (a1))] (mrg C X) (QV (fun c => mrg c X) Q) := by
  refine met_at 0 (lv := [some (.ref (gA g 3)), some (.int (I (a1)))]) (by decide) (Nat.le_of_ble_eq_true rfl) rfl rfl (fun K hK hN hr hQ => ?_)
  unfold f_X1_comeTo at h
  refine r_iload_n hK dX1_comeTo_0 rfl ?_
  refine r_if_lt hK dX1_comeTo_1 (t := 20) (by decide) (wpO_lt h) (fun h => ?_) (fun h => ?_)
  · exact r_return hK hr hQ dX1_comeTo_20 ⟨C, rfl, rfl, wpO_some h⟩
  · refine r_iload_n hK dX1_comeTo_4 rfl ?_
    refine r_aload_n hK dX1_comeTo_5 rfl ?_
    refine r_getR (k := 3) (k' := (23)) hK cls_1 fl_RX1_9 (by decide) (by omega) rfl rfl dX1_comeTo_6 ?_
    refine r_alen (k := (23)) hK (by omega) rfl (by decide) dX1_comeTo_9 ?_
    refine r_icmp_ge hK dX1_comeTo_10 (t := 20) (by decide) (wpO_lt h) (fun h => ?_) (fun h => ?_)
    · refine r_aload_n hK dX1_comeTo_13 rfl ?_
      refine r_getR (k := 3) (k' := (23)) hK cls_1 fl_RX1_9 (by decide) (by omega) rfl rfl dX1_comeTo_14 ?_
      refine r_iload_n hK dX1_comeTo_17 rfl ?_
      refine r_iconst hK dX1_comeTo_18 ?_
      obtain ⟨hb19, h⟩ := wpO_ix h
      refine r_bastore (k := (23)) hK (by omega) rfl (by decide) hb19 (by decide) dX1_comeTo_19 (up_c (by omega)) ?_
      exact r_return hK hr hQ dX1_comeTo_20 ⟨(up C (23) (a1).toNat (1)), rfl, rfl, wpO_some h⟩
    · exact r_return hK hr hQ dX1_comeTo_20 ⟨C, rfl, rfl, wpO_some h⟩
set_option maxRecDepth 100000 in
set_option maxHeartbeats 4000000 in
theorem c_X1_isLast {l : Launch} {g : GT} {X : Mem} {Q : Mem → Int → Prop} (a1 : Int) (C : Mem) (h : wpO (f_X1_isLast a1 C) Q) : MetC l yX1_isLast cX1_isLast 2 (some .boolean) 1 g [.ref (gA g 3), .int (I (a1))] (mrg C X) (QI (fun c => mrg c X) Q) := by
  refine met_at 0 (lv := [some (.ref (gA g 3)), some (.int (I (a1)))]) (by decide) (Nat.le_of_ble_eq_true rfl) rfl rfl (fun K hK hN hr hQ => ?_)
  unfold f_X1_isLast at h
  refine r_iload_n hK dX1_isLast_0 rfl ?_
  refine r_aload_n hK dX1_isLast_1 rfl ?_
  refine r_getR (k := 3) (k' := 1) hK cls_1 fl_RX1_26 (by decide) (by omega) rfl rfl dX1_isLast_2 ?_
  refine r_getIN (k := 1) hK cls_6 fl_RX1_81 (by decide) (by omega) rfl rfl dX1_isLast_5 (mrg_c (by omega)) ?_
  refine r_iconst hK dX1_isLast_8 ?_
  refine r_isub hK dX1_isLast_9 ?_
  refine r_icmp_lt hK dX1_isLast_10 (t := 17) (by decide) (wpO_lt h) (fun h => ?_) (fun h => ?_)
  · refine r_iconst hK dX1_isLast_17 ?_
    exact r_ireturn hK hr hQ (nar_b (by decide)) dX1_isLast_18 ⟨C, 0, rfl, rfl, wpO_some h⟩
  · refine r_iconst hK dX1_isLast_13 ?_
    refine r_goto hK dX1_isLast_14 (t := 18) (by decide) ?_
    exact r_ireturn hK hr hQ (nar_b (by decide)) dX1_isLast_18 ⟨C, 1, rfl, rfl, wpO_some h⟩
set_option maxRecDepth 100000 in
set_option maxHeartbeats 4000000 in
theorem w_X1_isReadable_43 {K : KT} {g : GT} {X : Mem} {dd : Nat} (hK : Kok K g cX1_isReadable RX1 dd) (hN : kN K = 5) (hr : (kMe K).sig.returnType = (some .boolean)) {Q : Mem → Int → Prop} (hQ : kQ K = MQ (kB K) (Qc g (QI (fun c => mrg c X) Q)) (kA K) (kS K) (kc K) (ks K) (gS g)) (hdd : 2 ≤ dd) (u0 : Nat) (u1 : Int) (u2 : Int) (u3 : Int) (hu0 : u0 < 34) (k : Int → Mem → Option (Mem × Int)) (hk : ∀ (v4 : Int) (C : Mem), wpO (k v4 C) Q → Wn K g (mrg C X) 71 [some (.ref (gA g (27 + u0))), some (.int (I (u1))), some (.int (I (u2))), some (.int (I (u3))), some (.int (I (v4)))] []) : ∀ (n : Nat) (v4 : Int) (C : Mem), wpO (f_X1_isReadable_43 u0 u1 u2 u3 k n v4 C) Q → Wn K g (mrg C X) 43 [some (.ref (gA g (27 + u0))), some (.int (I (u1))), some (.int (I (u2))), some (.int (I (u3))), some (.int (I (v4)))] [] := by
  intro n
  induction n with
  | zero => intro v4 C h; exact (wpO_none h).elim
  | succ n ih =>
    intro v4 C h
    unfold f_X1_isReadable_43 at h
    refine r_iload hK dX1_isReadable_43 rfl ?_
    refine r_iload_n hK dX1_isReadable_45 rfl ?_
    refine r_icmp_gt hK dX1_isReadable_46 (t := 71) (by decide) (wpO_lt h) (fun h => ?_) (fun h => ?_)
    · exact hk (v4) C h
    · refine r_aload_n hK dX1_isReadable_49 rfl ?_
      refine r_iload_n hK dX1_isReadable_50 rfl ?_
      refine r_iload hK dX1_isReadable_51 rfl ?_
      refine r_iadd hK dX1_isReadable_53 ?_
      refine r_callV hK ck_X4_at im_X4_at sl_X4_at ml_RX1_101 (by omega) (c_X4_at (l := kL K) (g := g) (X := X) u0 (u1 + v4) hu0 C (wpO_bd h)) cls_4 (k := (27 + u0)) (by omega) (sh_page hu0) (As := [.int (I (u1 + v4))]) (st := []) rfl (Nat.le_of_ble_eq_true rfl) dX1_isReadable_54 (kkI (fun C54 r54 h => ?_))
      refine r_callSN hK ck_X7_isLetter sc_X7_isLetter ml_RX1_108 (by omega) (c_X7_isLetter (l := kL K) (g := g) (X := X) (r54) C54 (wpO_bd h)) (As := [.int (I (r54))]) (st := []) rfl (Nat.le_of_ble_eq_true rfl) dX1_isReadable_57 (kkI (fun C57 r57 h => ?_))
      refine r_if_ne hK dX1_isReadable_60 (t := 65) (by decide) (wpO_eq h) (fun h => ?_) (fun h => ?_)
      · refine r_iconst hK dX1_isReadable_63 ?_
        exact r_ireturn hK hr hQ (nar_b (by decide)) dX1_isReadable_64 ⟨C57, 0, rfl, rfl, wpO_some h⟩
      · refine r_iinc hK dX1_isReadable_65 (by rw [hN]; decide) rfl rfl (lv' := [some (.ref (gA g (27 + u0))), some (.int (I (u1))), some (.int (I (u2))), some (.int (I (u3))), some (.int (I (v4 + 1)))]) rfl ?_
        refine r_goto hK dX1_isReadable_68 (t := 43) (by decide) ?_
        exact ih (v4 + 1) C57 h
set_option maxRecDepth 100000 in
set_option maxHeartbeats 4000000 in
theorem w_X1_isReadable_4 {K : KT} {g : GT} {X : Mem} {dd : Nat} (hK : Kok K g cX1_isReadable RX1 dd) (hN : kN K = 5) (hr : (kMe K).sig.returnType = (some .boolean)) {Q : Mem → Int → Prop} (hQ : kQ K = MQ (kB K) (Qc g (QI (fun c => mrg c X) Q)) (kA K) (kS K) (kc K) (ks K) (gS g)) (hdd : 2 ≤ dd) (u0 : Nat) (hu0 : u0 < 34) (k : Int → Int → Mem → Option (Mem × Int)) (hk : ∀ (v1 : Int) (v2 : Int) (C : Mem), wpO (k v1 v2 C) Q → Wn K g (mrg C X) 83 [some (.ref (gA g (27 + u0))), some (.int (I (v1))), some (.int (I (v2))), none, none] []) : ∀ (n : Nat) (v1 : Int) (v2 : Int) (C : Mem), wpO (f_X1_isReadable_4 u0 k n v1 v2 C) Q → Wn K g (mrg C X) 4 [some (.ref (gA g (27 + u0))), some (.int (I (v1))), some (.int (I (v2))), none, none] [] := by
  intro n
  induction n with
  | zero => intro v1 v2 C h; exact (wpO_none h).elim
  | succ n ih =>
    intro v1 v2 C h
    unfold f_X1_isReadable_4 at h
    refine r_iload_n hK dX1_isReadable_4 rfl ?_
    refine r_aload_n hK dX1_isReadable_5 rfl ?_
    refine r_callV hK ck_X4_entries im_X4_entries sl_X4_entries ml_RX1_72 (by omega) (c_X4_entries (l := kL K) (g := g) (X := X) u0 hu0 C (wpO_bd h)) cls_4 (k := (27 + u0)) (by omega) (sh_page hu0) (As := []) (st := [.int (I (v2))]) rfl (Nat.le_of_ble_eq_true rfl) dX1_isReadable_6 (kkI (fun C6 r6 h => ?_))
    refine r_icmp_ge hK dX1_isReadable_9 (t := 83) (by decide) (wpO_lt h) (fun h => ?_) (fun h => ?_)
    · refine r_aload_n hK dX1_isReadable_12 rfl ?_
      refine r_iload_n hK dX1_isReadable_13 rfl ?_
      refine r_callV hK ck_X4_at im_X4_at sl_X4_at ml_RX1_101 (by omega) (c_X4_at (l := kL K) (g := g) (X := X) u0 (v1) hu0 C6 (wpO_bd h)) cls_4 (k := (27 + u0)) (by omega) (sh_page hu0) (As := [.int (I (v1))]) (st := []) rfl (Nat.le_of_ble_eq_true rfl) dX1_isReadable_14 (kkI (fun C14 r14 h => ?_))
      refine r_istore_n hK dX1_isReadable_17 (by rw [hN]; decide) rfl (lv' := [some (.ref (gA g (27 + u0))), some (.int (I (v1))), some (.int (I (v2))), some (.int (I (r14))), none]) rfl ?_
      refine r_iload_n hK dX1_isReadable_18 rfl ?_
      refine r_iconst hK dX1_isReadable_19 ?_
      refine r_bipush hK dX1_isReadable_20 (by decide) ?_
      refine r_callSN hK ck_X7_isWithin sc_X7_isWithin ml_RX1_104 (by omega) (c_X7_isWithin (l := kL K) (g := g) (X := X) (r14) (1) (8) C14 (wpO_bd h)) (As := [.int (I (r14)), .int (I (1)), .int (I (8))]) (st := []) rfl (Nat.le_of_ble_eq_true rfl) dX1_isReadable_22 (kkI (fun C22 r22 h => ?_))
      refine r_if_eq hK dX1_isReadable_25 (t := 38) (by decide) (wpO_eq h) (fun h => ?_) (fun h => ?_)
      · refine r_iconst hK dX1_isReadable_38 ?_
        exact r_ireturn hK hr hQ (nar_b (by decide)) dX1_isReadable_39 ⟨C22, 0, rfl, rfl, wpO_some h⟩
      · refine r_iload_n hK dX1_isReadable_28 rfl ?_
        refine r_iload_n hK dX1_isReadable_29 rfl ?_
        refine r_iadd hK dX1_isReadable_30 ?_
        refine r_iconst hK dX1_isReadable_31 ?_
        refine r_iadd hK dX1_isReadable_32 ?_
        refine r_bipush hK dX1_isReadable_33 (by decide) ?_
        refine r_icmp_le hK dX1_isReadable_35 (t := 40) (by decide) (wpO_lt h) (fun h => ?_) (fun h => ?_)
        · refine r_iconst hK dX1_isReadable_38 ?_
          exact r_ireturn hK hr hQ (nar_b (by decide)) dX1_isReadable_39 ⟨C22, 0, rfl, rfl, wpO_some h⟩
        · refine r_iconst hK dX1_isReadable_40 ?_
          refine r_istore hK dX1_isReadable_41 (by rw [hN]; decide) rfl (lv' := [some (.ref (gA g (27 + u0))), some (.int (I (v1))), some (.int (I (v2))), some (.int (I (r14))), some (.int (I (1)))]) rfl ?_
          refine w_X1_isReadable_43 hK hN hr hQ (by omega) u0 (v1) (v2) (r14) hu0 _ (fun v4_e43 C_e43 h => ?_) FU (1) C22 h
          refine r_iload_n hK dX1_isReadable_71 rfl ?_
          refine r_iload_n hK dX1_isReadable_72 rfl ?_
          refine r_iconst hK dX1_isReadable_73 ?_
          refine r_iadd hK dX1_isReadable_74 ?_
          refine r_iadd hK dX1_isReadable_75 ?_
          refine r_istore_n hK dX1_isReadable_76 (by rw [hN]; decide) rfl (lv' := [some (.ref (gA g (27 + u0))), some (.int (I (v1 + (r14 + 2)))), some (.int (I (v2))), some (.int (I (r14))), some (.int (I (v4_e43)))]) rfl ?_
          refine r_iinc hK dX1_isReadable_77 (by rw [hN]; decide) rfl rfl (lv' := [some (.ref (gA g (27 + u0))), some (.int (I (v1 + (r14 + 2)))), some (.int (I (v2 + 1))), some (.int (I (r14))), some (.int (I (v4_e43)))]) rfl ?_
          refine r_goto hK dX1_isReadable_80 (t := 4) (by decide) ?_
          refine r_cut [true, true, true, false, false] (lv' := [some (.ref (gA g (27 + u0))), some (.int (I (v1 + (r14 + 2)))), some (.int (I (v2 + 1))), none, none]) rfl ?_
          exact ih (v1 + (r14 + 2)) (v2 + 1) C_e43 h
    · exact hk (v1) (v2) C6 h
set_option maxRecDepth 100000 in
set_option maxHeartbeats 4000000 in
theorem w_X1_isReadable_85 {K : KT} {g : GT} {X : Mem} {dd : Nat} (hK : Kok K g cX1_isReadable RX1 dd) (hN : kN K = 5) (hr : (kMe K).sig.returnType = (some .boolean)) {Q : Mem → Int → Prop} (hQ : kQ K = MQ (kB K) (Qc g (QI (fun c => mrg c X) Q)) (kA K) (kS K) (kc K) (ks K) (gS g)) (hdd : 2 ≤ dd) (u0 : Nat) (hu0 : u0 < 34) (k : Int → Mem → Option (Mem × Int)) (hk : ∀ (v2 : Int) (C : Mem), wpO (k v2 C) Q → Wn K g (mrg C X) 105 [some (.ref (gA g (27 + u0))), none, some (.int (I (v2))), none, none] []) : ∀ (n : Nat) (v2 : Int) (C : Mem), wpO (f_X1_isReadable_85 u0 k n v2 C) Q → Wn K g (mrg C X) 85 [some (.ref (gA g (27 + u0))), none, some (.int (I (v2))), none, none] [] := by
  intro n
  induction n with
  | zero => intro v2 C h; exact (wpO_none h).elim
  | succ n ih =>
    intro v2 C h
    unfold f_X1_isReadable_85 at h
    refine r_iload_n hK dX1_isReadable_85 rfl ?_
    refine r_bipush hK dX1_isReadable_86 (by decide) ?_
    refine r_icmp_ge hK dX1_isReadable_88 (t := 105) (by decide) (wpO_lt h) (fun h => ?_) (fun h => ?_)
    · refine r_aload_n hK dX1_isReadable_91 rfl ?_
      refine r_iload_n hK dX1_isReadable_92 rfl ?_
      refine r_callV hK ck_X4_at im_X4_at sl_X4_at ml_RX1_101 (by omega) (c_X4_at (l := kL K) (g := g) (X := X) u0 (v2) hu0 C (wpO_bd h)) cls_4 (k := (27 + u0)) (by omega) (sh_page hu0) (As := [.int (I (v2))]) (st := []) rfl (Nat.le_of_ble_eq_true rfl) dX1_isReadable_93 (kkI (fun C93 r93 h => ?_))
      refine r_if_ne hK dX1_isReadable_96 (t := 105) (by decide) (wpO_eq h) (fun h => ?_) (fun h => ?_)
      · refine r_iinc hK dX1_isReadable_99 (by rw [hN]; decide) rfl rfl (lv' := [some (.ref (gA g (27 + u0))), none, some (.int (I (v2 + 1))), none, none]) rfl ?_
        refine r_goto hK dX1_isReadable_102 (t := 85) (by decide) ?_
        exact ih (v2 + 1) C93 h
      · exact hk (v2) C93 h
    · exact hk (v2) C h
set_option maxRecDepth 100000 in
set_option maxHeartbeats 4000000 in
theorem c_X1_isReadable {l : Launch} {g : GT} {X : Mem} {Q : Mem → Int → Prop} (a0 : Nat) (ha0 : a0 < 34) (C : Mem) (h : wpO (f_X1_isReadable a0 C) Q) : MetC l yX1_isReadable cX1_isReadable 5 (some .boolean) 2 g [.ref (gA g (27 + a0))] (mrg C X) (QI (fun c => mrg c X) Q) := by
  refine met_at 4 (lv := [some (.ref (gA g (27 + a0))), none, none, none, none]) (by decide) (Nat.le_of_ble_eq_true rfl) rfl rfl (fun K hK hN hr hQ => ?_)
  unfold f_X1_isReadable at h
  refine r_iconst hK dX1_isReadable_0 ?_
  refine r_istore_n hK dX1_isReadable_1 (by rw [hN]; decide) rfl (lv' := [some (.ref (gA g (27 + a0))), some (.int (I (3))), none, none, none]) rfl ?_
  refine r_iconst hK dX1_isReadable_2 ?_
  refine r_istore_n hK dX1_isReadable_3 (by rw [hN]; decide) rfl (lv' := [some (.ref (gA g (27 + a0))), some (.int (I (3))), some (.int (I (0))), none, none]) rfl ?_
  refine w_X1_isReadable_4 hK hN hr hQ (by omega) a0 ha0 _ (fun v1_e4 v2_e4 C_e4 h => ?_) FU (3) (0) C h
  refine r_iload_n hK dX1_isReadable_83 rfl ?_
  refine r_istore_n hK dX1_isReadable_84 (by rw [hN]; decide) rfl (lv' := [some (.ref (gA g (27 + a0))), some (.int (I (v1_e4))), some (.int (I (v1_e4))), none, none]) rfl ?_
  refine r_cut [true, false, true, false, false] (lv' := [some (.ref (gA g (27 + a0))), none, some (.int (I (v1_e4))), none, none]) rfl ?_
  refine w_X1_isReadable_85 hK hN hr hQ (by omega) a0 ha0 _ (fun v2_e85 C_e85 h => ?_) FU (v1_e4) C_e4 h
  refine r_iload_n hK dX1_isReadable_105 rfl ?_
  refine r_bipush hK dX1_isReadable_106 (by decide) ?_
  refine r_icmp_lt hK dX1_isReadable_108 (t := 115) (by decide) (wpO_lt h) (fun h => ?_) (fun h => ?_)
  · refine r_iconst hK dX1_isReadable_115 ?_
    exact r_ireturn hK hr hQ (nar_b (by decide)) dX1_isReadable_116 ⟨C_e85, 0, rfl, rfl, wpO_some h⟩
  · refine r_iconst hK dX1_isReadable_111 ?_
    refine r_goto hK dX1_isReadable_112 (t := 116) (by decide) ?_
    exact r_ireturn hK hr hQ (nar_b (by decide)) dX1_isReadable_116 ⟨C_e85, 1, rfl, rfl, wpO_some h⟩
set_option maxRecDepth 100000 in
set_option maxHeartbeats 4000000 in
theorem w_X1_rises_2 {K : KT} {g : GT} {X : Mem} {dd : Nat} (hK : Kok K g cX1_rises RX1 dd) (hN : kN K = 3) (hr : (kMe K).sig.returnType = (some .boolean)) {Q : Mem → Int → Prop} (hQ : kQ K = MQ (kB K) (Qc g (QI (fun c => mrg c X) Q)) (kA K) (kS K) (kc K) (ks K) (gS g)) (hdd : 3 ≤ dd) (u1 : Nat) (hu1 : u1 < 34) (k : Int → Mem → Option (Mem × Int)) (hk : ∀ (v2 : Int) (C : Mem), wpO (k v2 C) Q → Wn K g (mrg C X) 41 [some (.ref (gA g 3)), some (.ref (gA g (27 + u1))), some (.int (I (v2)))] []) : ∀ (n : Nat) (v2 : Int) (C : Mem), wpO (f_X1_rises_2 u1 k n v2 C) Q → Wn K g (mrg C X) 2 [some (.ref (gA g 3)), some (.ref (gA g (27 + u1))), some (.int (I (v2)))] [] := by
  intro n
  induction n with
  | zero => intro v2 C h; exact (wpO_none h).elim
  | succ n ih =>
    intro v2 C h
    unfold f_X1_rises_2 at h
    refine r_iload_n hK dX1_rises_2 rfl ?_
    refine r_aload_n hK dX1_rises_3 rfl ?_
    refine r_callV hK ck_X4_entries im_X4_entries sl_X4_entries ml_RX1_72 (by omega) (c_X4_entries (l := kL K) (g := g) (X := X) u1 hu1 C (wpO_bd h)) cls_4 (k := (27 + u1)) (by omega) (sh_page hu1) (As := []) (st := [.int (I (v2))]) rfl (Nat.le_of_ble_eq_true rfl) dX1_rises_4 (kkI (fun C4 r4 h => ?_))
    refine r_icmp_ge hK dX1_rises_7 (t := 41) (by decide) (wpO_lt h) (fun h => ?_) (fun h => ?_)
    · refine r_aload_n hK dX1_rises_10 rfl ?_
      refine r_iload_n hK dX1_rises_11 rfl ?_
      refine r_iconst hK dX1_rises_12 ?_
      refine r_isub hK dX1_rises_13 ?_
      refine r_aload_n hK dX1_rises_14 rfl ?_
      refine r_getR (k := 3) (k' := (10 + 2 * 3)) hK cls_1 fl_RX1_22 (by decide) (by omega) rfl rfl dX1_rises_15 ?_
      refine r_callV hK ck_X4_readKey im_X4_readKey sl_X4_readKey ml_RX1_111 (by omega) (c_X4_readKey (l := kL K) (g := g) (X := X) u1 (v2 - 1) 3 hu1 (by decide) C4 (wpO_bd h)) cls_4 (k := (27 + u1)) (by omega) (sh_page hu1) (As := [.int (I (v2 - 1)), .ref (gA g (10 + 2 * 3))]) (st := []) rfl (Nat.le_of_ble_eq_true rfl) dX1_rises_18 (kkV (fun C18 h => ?_))
      refine r_aload_n hK dX1_rises_21 rfl ?_
      refine r_iload_n hK dX1_rises_22 rfl ?_
      refine r_aload_n hK dX1_rises_23 rfl ?_
      refine r_getR (k := 3) (k' := (10 + 2 * 3)) hK cls_1 fl_RX1_22 (by decide) (by omega) rfl rfl dX1_rises_24 ?_
      refine r_callV hK ck_X4_compare im_X4_compare sl_X4_compare ml_RX1_115 (by omega) (c_X4_compare (l := kL K) (g := g) (X := X) u1 (v2) 3 hu1 (by decide) C18 (wpO_bd h)) cls_4 (k := (27 + u1)) (by omega) (sh_page hu1) (As := [.int (I (v2)), .ref (gA g (10 + 2 * 3))]) (st := []) rfl (Nat.le_of_ble_eq_true rfl) dX1_rises_27 (kkI (fun C27 r27 h => ?_))
      refine r_if_gt hK dX1_rises_30 (t := 35) (by decide) (wpO_lt h) (fun h => ?_) (fun h => ?_)
      · refine r_iinc hK dX1_rises_35 (by rw [hN]; decide) rfl rfl (lv' := [some (.ref (gA g 3)), some (.ref (gA g (27 + u1))), some (.int (I (v2 + 1)))]) rfl ?_
        refine r_goto hK dX1_rises_38 (t := 2) (by decide) ?_
        exact ih (v2 + 1) C27 h
      · refine r_iconst hK dX1_rises_33 ?_
        exact r_ireturn hK hr hQ (nar_b (by decide)) dX1_rises_34 ⟨C27, 0, rfl, rfl, wpO_some h⟩
    · exact hk (v2) C4 h
set_option maxRecDepth 100000 in
set_option maxHeartbeats 4000000 in
theorem c_X1_rises {l : Launch} {g : GT} {X : Mem} {Q : Mem → Int → Prop} (a1 : Nat) (ha1 : a1 < 34) (C : Mem) (h : wpO (f_X1_rises a1 C) Q) : MetC l yX1_rises cX1_rises 3 (some .boolean) 3 g [.ref (gA g 3), .ref (gA g (27 + a1))] (mrg C X) (QI (fun c => mrg c X) Q) := by
  refine met_at 1 (lv := [some (.ref (gA g 3)), some (.ref (gA g (27 + a1))), none]) (by decide) (Nat.le_of_ble_eq_true rfl) rfl rfl (fun K hK hN hr hQ => ?_)
  unfold f_X1_rises at h
  refine r_iconst hK dX1_rises_0 ?_
  refine r_istore_n hK dX1_rises_1 (by rw [hN]; decide) rfl (lv' := [some (.ref (gA g 3)), some (.ref (gA g (27 + a1))), some (.int (I (1)))]) rfl ?_
  refine w_X1_rises_2 hK hN hr hQ (by omega) a1 ha1 _ (fun v2_e2 C_e2 h => ?_) FU (1) C h
  refine r_iconst hK dX1_rises_41 ?_
  exact r_ireturn hK hr hQ (nar_b (by decide)) dX1_rises_42 ⟨C_e2, 1, rfl, rfl, wpO_some h⟩
set_option maxRecDepth 100000 in
set_option maxHeartbeats 4000000 in
theorem c_X1_isBetween {l : Launch} {g : GT} {X : Mem} {Q : Mem → Int → Prop} (a1 : Nat) (a2 : Int) (a3 : Int) (ha1 : a1 < 34) (C : Mem) (h : wpO (f_X1_isBetween a1 a2 a3 C) Q) : MetC l yX1_isBetween cX1_isBetween 4 (some .boolean) 3 g [.ref (gA g 3), .ref (gA g (27 + a1)), .int (I (a2)), .int (I (a3))] (mrg C X) (QI (fun c => mrg c X) Q) := by
  refine met_at 0 (lv := [some (.ref (gA g 3)), some (.ref (gA g (27 + a1))), some (.int (I (a2))), some (.int (I (a3)))]) (by decide) (Nat.le_of_ble_eq_true rfl) rfl rfl (fun K hK hN hr hQ => ?_)
  unfold f_X1_isBetween at h
  refine r_iload_n hK dX1_isBetween_0 rfl ?_
  refine r_iconst hK dX1_isBetween_1 ?_
  refine r_jn (J := fun j41 => ∀ (C_41 : Mem), wpO (j41 C_41) Q → Wn K g (mrg C_41 X) 41 [some (.ref (gA g 3)), some (.ref (gA g (27 + a1))), none, some (.int (I (a3)))] []) h ?_ ?_
  · intro C_41 h
    refine r_iload_n hK dX1_isBetween_41 rfl ?_
    refine r_iconst hK dX1_isBetween_42 ?_
    refine r_icmp_eq hK dX1_isBetween_43 (t := 91) (by decide) (wpO_eq h) (fun h => ?_) (fun h => ?_)
    · refine r_iconst hK dX1_isBetween_91 ?_
      exact r_ireturn hK hr hQ (nar_b (by decide)) dX1_isBetween_92 ⟨C_41, 1, rfl, rfl, wpO_some h⟩
    · refine r_aload_n hK dX1_isBetween_46 rfl ?_
      refine r_getR (k := 3) (k' := 1) hK cls_1 fl_RX1_26 (by decide) (by omega) rfl rfl dX1_isBetween_47 ?_
      refine r_iload_n hK dX1_isBetween_50 rfl ?_
      refine r_bipush hK dX1_isBetween_51 (by decide) ?_
      obtain ⟨hd53, h⟩ := wpO_dv h
      refine r_idiv hK hd53 (by decide) dX1_isBetween_53 ?_
      refine r_callV hK ck_X6_pageOf im_X6_pageOf sl_X6_pageOf ml_RX1_50 (by omega) (c_X6_pageOf (l := kL K) (g := g) (X := X) (a3 / 64) C_41 (wpO_bd h)) cls_6 (k := 1) (by omega) rfl (As := [.int (I (a3 / 64))]) (st := []) rfl (Nat.le_of_ble_eq_true rfl) dX1_isBetween_54 (kkP (fun C54 r54 hr54 h => ?_))
      refine r_iload_n hK dX1_isBetween_57 rfl ?_
      refine r_bipush hK dX1_isBetween_58 (by decide) ?_
      obtain ⟨hd60, h⟩ := wpO_dv h
      refine r_irem hK hd60 (by decide) dX1_isBetween_60 ?_
      refine r_aload_n hK dX1_isBetween_61 rfl ?_
      refine r_getR (k := 3) (k' := (10 + 2 * 3)) hK cls_1 fl_RX1_22 (by decide) (by omega) rfl rfl dX1_isBetween_62 ?_
      refine r_callV hK ck_X4_readKey im_X4_readKey sl_X4_readKey ml_RX1_111 (by omega) (c_X4_readKey (l := kL K) (g := g) (X := X) r54 (a3 % 64) 3 hr54 (by decide) C54 (wpO_bd h)) cls_4 (k := (27 + r54)) (by omega) (sh_page hr54) (As := [.int (I (a3 % 64)), .ref (gA g (10 + 2 * 3))]) (st := []) rfl (Nat.le_of_ble_eq_true rfl) dX1_isBetween_65 (kkV (fun C65 h => ?_))
      refine r_aload_n hK dX1_isBetween_68 rfl ?_
      refine r_aload_n hK dX1_isBetween_69 rfl ?_
      refine r_callV hK ck_X4_entries im_X4_entries sl_X4_entries ml_RX1_72 (by omega) (c_X4_entries (l := kL K) (g := g) (X := X) a1 ha1 C65 (wpO_bd h)) cls_4 (k := (27 + a1)) (by omega) (sh_page ha1) (As := []) (st := [.ref (gA g (27 + a1))]) rfl (Nat.le_of_ble_eq_true rfl) dX1_isBetween_70 (kkI (fun C70 r70 h => ?_))
      refine r_iconst hK dX1_isBetween_73 ?_
      refine r_isub hK dX1_isBetween_74 ?_
      refine r_aload_n hK dX1_isBetween_75 rfl ?_
      refine r_getR (k := 3) (k' := (10 + 2 * 3)) hK cls_1 fl_RX1_22 (by decide) (by omega) rfl rfl dX1_isBetween_76 ?_
      refine r_callV hK ck_X4_compare im_X4_compare sl_X4_compare ml_RX1_115 (by omega) (c_X4_compare (l := kL K) (g := g) (X := X) a1 (r70 - 1) 3 ha1 (by decide) C70 (wpO_bd h)) cls_4 (k := (27 + a1)) (by omega) (sh_page ha1) (As := [.int (I (r70 - 1)), .ref (gA g (10 + 2 * 3))]) (st := []) rfl (Nat.le_of_ble_eq_true rfl) dX1_isBetween_79 (kkI (fun C79 r79 h => ?_))
      refine r_if_ge hK dX1_isBetween_82 (t := 89) (by decide) (wpO_lt h) (fun h => ?_) (fun h => ?_)
      · refine r_iconst hK dX1_isBetween_85 ?_
        refine r_goto hK dX1_isBetween_86 (t := 90) (by decide) ?_
        exact r_ireturn hK hr hQ (nar_b (by decide)) dX1_isBetween_90 ⟨C79, 1, rfl, rfl, wpO_some h⟩
      · refine r_iconst hK dX1_isBetween_89 ?_
        exact r_ireturn hK hr hQ (nar_b (by decide)) dX1_isBetween_90 ⟨C79, 0, rfl, rfl, wpO_some h⟩
  · intro hj41 h
    refine r_icmp_eq hK dX1_isBetween_2 (t := 41) (by decide) (wpO_eq h) (fun h => ?_) (fun h => ?_)
    · refine r_cut [true, true, false, true] (lv' := [some (.ref (gA g 3)), some (.ref (gA g (27 + a1))), none, some (.int (I (a3)))]) rfl ?_
      exact hj41 C h
    · refine r_aload_n hK dX1_isBetween_5 rfl ?_
      refine r_getR (k := 3) (k' := 1) hK cls_1 fl_RX1_26 (by decide) (by omega) rfl rfl dX1_isBetween_6 ?_
      refine r_iload_n hK dX1_isBetween_9 rfl ?_
      refine r_bipush hK dX1_isBetween_10 (by decide) ?_
      obtain ⟨hd12, h⟩ := wpO_dv h
      refine r_idiv hK hd12 (by decide) dX1_isBetween_12 ?_
      refine r_callV hK ck_X6_pageOf im_X6_pageOf sl_X6_pageOf ml_RX1_50 (by omega) (c_X6_pageOf (l := kL K) (g := g) (X := X) (a2 / 64) C (wpO_bd h)) cls_6 (k := 1) (by omega) rfl (As := [.int (I (a2 / 64))]) (st := []) rfl (Nat.le_of_ble_eq_true rfl) dX1_isBetween_13 (kkP (fun C13 r13 hr13 h => ?_))
      refine r_iload_n hK dX1_isBetween_16 rfl ?_
      refine r_bipush hK dX1_isBetween_17 (by decide) ?_
      obtain ⟨hd19, h⟩ := wpO_dv h
      refine r_irem hK hd19 (by decide) dX1_isBetween_19 ?_
      refine r_aload_n hK dX1_isBetween_20 rfl ?_
      refine r_getR (k := 3) (k' := (10 + 2 * 3)) hK cls_1 fl_RX1_22 (by decide) (by omega) rfl rfl dX1_isBetween_21 ?_
      refine r_callV hK ck_X4_readKey im_X4_readKey sl_X4_readKey ml_RX1_111 (by omega) (c_X4_readKey (l := kL K) (g := g) (X := X) r13 (a2 % 64) 3 hr13 (by decide) C13 (wpO_bd h)) cls_4 (k := (27 + r13)) (by omega) (sh_page hr13) (As := [.int (I (a2 % 64)), .ref (gA g (10 + 2 * 3))]) (st := []) rfl (Nat.le_of_ble_eq_true rfl) dX1_isBetween_24 (kkV (fun C24 h => ?_))
      refine r_aload_n hK dX1_isBetween_27 rfl ?_
      refine r_iconst hK dX1_isBetween_28 ?_
      refine r_aload_n hK dX1_isBetween_29 rfl ?_
      refine r_getR (k := 3) (k' := (10 + 2 * 3)) hK cls_1 fl_RX1_22 (by decide) (by omega) rfl rfl dX1_isBetween_30 ?_
      refine r_callV hK ck_X4_compare im_X4_compare sl_X4_compare ml_RX1_115 (by omega) (c_X4_compare (l := kL K) (g := g) (X := X) a1 (0) 3 ha1 (by decide) C24 (wpO_bd h)) cls_4 (k := (27 + a1)) (by omega) (sh_page ha1) (As := [.int (I (0)), .ref (gA g (10 + 2 * 3))]) (st := []) rfl (Nat.le_of_ble_eq_true rfl) dX1_isBetween_33 (kkI (fun C33 r33 h => ?_))
      refine r_if_ge hK dX1_isBetween_36 (t := 41) (by decide) (wpO_lt h) (fun h => ?_) (fun h => ?_)
      · refine r_iconst hK dX1_isBetween_39 ?_
        exact r_ireturn hK hr hQ (nar_b (by decide)) dX1_isBetween_40 ⟨C33, 0, rfl, rfl, wpO_some h⟩
      · refine r_cut [true, true, false, true] (lv' := [some (.ref (gA g 3)), some (.ref (gA g (27 + a1))), none, some (.int (I (a3)))]) rfl ?_
        exact hj41 C33 h
set_option maxRecDepth 100000 in
set_option maxHeartbeats 4000000 in
theorem w_X1_hasWrongChild_43 {K : KT} {g : GT} {X : Mem} {dd : Nat} (hK : Kok K g cX1_hasWrongChild RX1 dd) (hN : kN K = 5) (hr : (kMe K).sig.returnType = (some .boolean)) {Q : Mem → Int → Prop} (hQ : kQ K = MQ (kB K) (Qc g (QI (fun c => mrg c X) Q)) (kA K) (kS K) (kc K) (ks K) (gS g)) (hdd : 3 ≤ dd) (u1 : Nat) (u2 : Int) (u3 : Int) (hu1 : u1 < 34) (k : Int → Mem → Option (Mem × Int)) (hk : ∀ (v4 : Int) (C : Mem), wpO (k v4 C) Q → Wn K g (mrg C X) 67 [some (.ref (gA g 3)), some (.ref (gA g (27 + u1))), some (.int (I (u2))), some (.int (I (u3))), some (.int (I (v4)))] []) : ∀ (n : Nat) (v4 : Int) (C : Mem), wpO (f_X1_hasWrongChild_43 u1 u2 u3 k n v4 C) Q → Wn K g (mrg C X) 43 [some (.ref (gA g 3)), some (.ref (gA g (27 + u1))), some (.int (I (u2))), some (.int (I (u3))), some (.int (I (v4)))] [] := by
  intro n
  induction n with
  | zero => intro v4 C h; exact (wpO_none h).elim
  | succ n ih =>
    intro v4 C h
    unfold f_X1_hasWrongChild_43 at h
    refine r_iload hK dX1_hasWrongChild_43 rfl ?_
    refine r_iload_n hK dX1_hasWrongChild_45 rfl ?_
    refine r_icmp_ge hK dX1_hasWrongChild_46 (t := 67) (by decide) (wpO_lt h) (fun h => ?_) (fun h => ?_)
    · refine r_aload_n hK dX1_hasWrongChild_49 rfl ?_
      refine r_iload hK dX1_hasWrongChild_50 rfl ?_
      refine r_callV hK ck_X4_child im_X4_child sl_X4_child ml_RX1_77 (by omega) (c_X4_child (l := kL K) (g := g) (X := X) u1 (v4) hu1 C (wpO_bd h)) cls_4 (k := (27 + u1)) (by omega) (sh_page hu1) (As := [.int (I (v4))]) (st := []) rfl (Nat.le_of_ble_eq_true rfl) dX1_hasWrongChild_52 (kkI (fun C52 r52 h => ?_))
      refine r_iload_n hK dX1_hasWrongChild_55 rfl ?_
      refine r_icmp_ne hK dX1_hasWrongChild_56 (t := 61) (by decide) (wpO_eq h) (fun h => ?_) (fun h => ?_)
      · refine r_iconst hK dX1_hasWrongChild_59 ?_
        exact r_ireturn hK hr hQ (nar_b (by decide)) dX1_hasWrongChild_60 ⟨C52, 1, rfl, rfl, wpO_some h⟩
      · refine r_iinc hK dX1_hasWrongChild_61 (by rw [hN]; decide) rfl rfl (lv' := [some (.ref (gA g 3)), some (.ref (gA g (27 + u1))), some (.int (I (u2))), some (.int (I (u3))), some (.int (I (v4 + 1)))]) rfl ?_
        refine r_goto hK dX1_hasWrongChild_64 (t := 43) (by decide) ?_
        exact ih (v4 + 1) C52 h
    · exact hk (v4) C h
set_option maxRecDepth 100000 in
set_option maxHeartbeats 4000000 in
theorem w_X1_hasWrongChild_2 {K : KT} {g : GT} {X : Mem} {dd : Nat} (hK : Kok K g cX1_hasWrongChild RX1 dd) (hN : kN K = 5) (hr : (kMe K).sig.returnType = (some .boolean)) {Q : Mem → Int → Prop} (hQ : kQ K = MQ (kB K) (Qc g (QI (fun c => mrg c X) Q)) (kA K) (kS K) (kc K) (ks K) (gS g)) (hdd : 3 ≤ dd) (u1 : Nat) (hu1 : u1 < 34) (k : Int → Mem → Option (Mem × Int)) (hk : ∀ (v2 : Int) (C : Mem), wpO (k v2 C) Q → Wn K g (mrg C X) 73 [some (.ref (gA g 3)), some (.ref (gA g (27 + u1))), some (.int (I (v2))), none, none] []) : ∀ (n : Nat) (v2 : Int) (C : Mem), wpO (f_X1_hasWrongChild_2 u1 k n v2 C) Q → Wn K g (mrg C X) 2 [some (.ref (gA g 3)), some (.ref (gA g (27 + u1))), some (.int (I (v2))), none, none] [] := by
  intro n
  induction n with
  | zero => intro v2 C h; exact (wpO_none h).elim
  | succ n ih =>
    intro v2 C h
    unfold f_X1_hasWrongChild_2 at h
    refine r_iload_n hK dX1_hasWrongChild_2 rfl ?_
    refine r_aload_n hK dX1_hasWrongChild_3 rfl ?_
    refine r_callV hK ck_X4_entries im_X4_entries sl_X4_entries ml_RX1_72 (by omega) (c_X4_entries (l := kL K) (g := g) (X := X) u1 hu1 C (wpO_bd h)) cls_4 (k := (27 + u1)) (by omega) (sh_page hu1) (As := []) (st := [.int (I (v2))]) rfl (Nat.le_of_ble_eq_true rfl) dX1_hasWrongChild_4 (kkI (fun C4 r4 h => ?_))
    refine r_icmp_gt hK dX1_hasWrongChild_7 (t := 73) (by decide) (wpO_lt h) (fun h => ?_) (fun h => ?_)
    · exact hk (v2) C4 h
    · refine r_aload_n hK dX1_hasWrongChild_10 rfl ?_
      refine r_iload_n hK dX1_hasWrongChild_11 rfl ?_
      refine r_callV hK ck_X4_child im_X4_child sl_X4_child ml_RX1_77 (by omega) (c_X4_child (l := kL K) (g := g) (X := X) u1 (v2) hu1 C4 (wpO_bd h)) cls_4 (k := (27 + u1)) (by omega) (sh_page hu1) (As := [.int (I (v2))]) (st := []) rfl (Nat.le_of_ble_eq_true rfl) dX1_hasWrongChild_12 (kkI (fun C12 r12 h => ?_))
      refine r_istore_n hK dX1_hasWrongChild_15 (by rw [hN]; decide) rfl (lv' := [some (.ref (gA g 3)), some (.ref (gA g (27 + u1))), some (.int (I (v2))), some (.int (I (r12))), none]) rfl ?_
      refine r_iload_n hK dX1_hasWrongChild_16 rfl ?_
      refine r_if_lt hK dX1_hasWrongChild_17 (t := 38) (by decide) (wpO_lt h) (fun h => ?_) (fun h => ?_)
      · refine r_iconst hK dX1_hasWrongChild_38 ?_
        exact r_ireturn hK hr hQ (nar_b (by decide)) dX1_hasWrongChild_39 ⟨C12, 1, rfl, rfl, wpO_some h⟩
      · refine r_iload_n hK dX1_hasWrongChild_20 rfl ?_
        refine r_aload_n hK dX1_hasWrongChild_21 rfl ?_
        refine r_getR (k := 3) (k' := (23)) hK cls_1 fl_RX1_9 (by decide) (by omega) rfl rfl dX1_hasWrongChild_22 ?_
        refine r_alen (k := (23)) hK (by omega) rfl (by decide) dX1_hasWrongChild_25 ?_
        refine r_icmp_ge hK dX1_hasWrongChild_26 (t := 38) (by decide) (wpO_lt h) (fun h => ?_) (fun h => ?_)
        · refine r_aload_n hK dX1_hasWrongChild_29 rfl ?_
          refine r_getR (k := 3) (k' := (23)) hK cls_1 fl_RX1_9 (by decide) (by omega) rfl rfl dX1_hasWrongChild_30 ?_
          refine r_iload_n hK dX1_hasWrongChild_33 rfl ?_
          obtain ⟨hb34, h⟩ := wpO_ix h
          refine r_baload (k := (23)) hK (by omega) rfl (by decide) hb34 dX1_hasWrongChild_34 (mrg_c (by omega)) ?_
          refine r_if_eq hK dX1_hasWrongChild_35 (t := 40) (by decide) (wpO_eq h) (fun h => ?_) (fun h => ?_)
          · refine r_iconst hK dX1_hasWrongChild_40 ?_
            refine r_istore hK dX1_hasWrongChild_41 (by rw [hN]; decide) rfl (lv' := [some (.ref (gA g 3)), some (.ref (gA g (27 + u1))), some (.int (I (v2))), some (.int (I (r12))), some (.int (I (0)))]) rfl ?_
            refine w_X1_hasWrongChild_43 hK hN hr hQ (by omega) u1 (v2) (r12) hu1 _ (fun v4_e43 C_e43 h => ?_) FU (0) C12 h
            refine r_iinc hK dX1_hasWrongChild_67 (by rw [hN]; decide) rfl rfl (lv' := [some (.ref (gA g 3)), some (.ref (gA g (27 + u1))), some (.int (I (v2 + 1))), some (.int (I (r12))), some (.int (I (v4_e43)))]) rfl ?_
            refine r_goto hK dX1_hasWrongChild_70 (t := 2) (by decide) ?_
            refine r_cut [true, true, true, false, false] (lv' := [some (.ref (gA g 3)), some (.ref (gA g (27 + u1))), some (.int (I (v2 + 1))), none, none]) rfl ?_
            exact ih (v2 + 1) C_e43 h
          · refine r_iconst hK dX1_hasWrongChild_38 ?_
            exact r_ireturn hK hr hQ (nar_b (by decide)) dX1_hasWrongChild_39 ⟨C12, 1, rfl, rfl, wpO_some h⟩
        · refine r_iconst hK dX1_hasWrongChild_38 ?_
          exact r_ireturn hK hr hQ (nar_b (by decide)) dX1_hasWrongChild_39 ⟨C12, 1, rfl, rfl, wpO_some h⟩
set_option maxRecDepth 100000 in
set_option maxHeartbeats 4000000 in
theorem c_X1_hasWrongChild {l : Launch} {g : GT} {X : Mem} {Q : Mem → Int → Prop} (a1 : Nat) (ha1 : a1 < 34) (C : Mem) (h : wpO (f_X1_hasWrongChild a1 C) Q) : MetC l yX1_hasWrongChild cX1_hasWrongChild 5 (some .boolean) 3 g [.ref (gA g 3), .ref (gA g (27 + a1))] (mrg C X) (QI (fun c => mrg c X) Q) := by
  refine met_at 3 (lv := [some (.ref (gA g 3)), some (.ref (gA g (27 + a1))), none, none, none]) (by decide) (Nat.le_of_ble_eq_true rfl) rfl rfl (fun K hK hN hr hQ => ?_)
  unfold f_X1_hasWrongChild at h
  refine r_iconst hK dX1_hasWrongChild_0 ?_
  refine r_istore_n hK dX1_hasWrongChild_1 (by rw [hN]; decide) rfl (lv' := [some (.ref (gA g 3)), some (.ref (gA g (27 + a1))), some (.int (I (0))), none, none]) rfl ?_
  refine w_X1_hasWrongChild_2 hK hN hr hQ (by omega) a1 ha1 _ (fun v2_e2 C_e2 h => ?_) FU (0) C h
  refine r_iconst hK dX1_hasWrongChild_73 ?_
  exact r_ireturn hK hr hQ (nar_b (by decide)) dX1_hasWrongChild_74 ⟨C_e2, 0, rfl, rfl, wpO_some h⟩
set_option maxRecDepth 100000 in
set_option maxHeartbeats 4000000 in
theorem c_X1_whyWrong {l : Launch} {g : GT} {X : Mem} {Q : Mem → Int → Prop} (a1 : Nat) (a2 : Int) (a3 : Int) (a4 : Int) (ha1 : a1 < 34) (C : Mem) (h : wpO (f_X1_whyWrong a1 a2 a3 a4 C) Q) : MetC l yX1_whyWrong cX1_whyWrong 6 (some .int) 4 g [.ref (gA g 3), .ref (gA g (27 + a1)), .int (I (a2)), .int (I (a3)), .int (I (a4))] (mrg C X) (QI (fun c => mrg c X) Q) := by
  refine met_at 1 (lv := [some (.ref (gA g 3)), some (.ref (gA g (27 + a1))), some (.int (I (a2))), some (.int (I (a3))), some (.int (I (a4))), none]) (by decide) (Nat.le_of_ble_eq_true rfl) rfl rfl (fun K hK hN hr hQ => ?_)
  unfold f_X1_whyWrong at h
  refine r_aload_n hK dX1_whyWrong_0 rfl ?_
  refine r_callV hK ck_X4_sort im_X4_sort sl_X4_sort ml_RX1_84 (by omega) (c_X4_sort (l := kL K) (g := g) (X := X) a1 ha1 C (wpO_bd h)) cls_4 (k := (27 + a1)) (by omega) (sh_page ha1) (As := []) (st := []) rfl (Nat.le_of_ble_eq_true rfl) dX1_whyWrong_1 (kkI (fun C1 r1 h => ?_))
  refine r_aload_n hK dX1_whyWrong_4 rfl ?_
  refine r_iload_n hK dX1_whyWrong_5 rfl ?_
  refine r_callV hK ck_X1_isLast im_X1_isLast sl_X1_isLast ml_RX1_62 (by omega) (c_X1_isLast (l := kL K) (g := g) (X := X) (a2) C1 (wpO_bd h)) cls_1 (k := 3) (by omega) rfl (As := [.int (I (a2))]) (st := [.int (I (r1))]) rfl (Nat.le_of_ble_eq_true rfl) dX1_whyWrong_6 (kkI (fun C6 r6 h => ?_))
  refine r_jn (J := fun j17 => ∀ (s1_17 : Int), wpO (j17 s1_17) Q → Wn K g (mrg C6 X) 17 [some (.ref (gA g 3)), some (.ref (gA g (27 + a1))), some (.int (I (a2))), some (.int (I (a3))), some (.int (I (a4))), none] [.int (I (s1_17)), .int (I (r1))]) h ?_ ?_
  · intro s1_17 h
    refine r_icmp_eq hK dX1_whyWrong_17 (t := 22) (by decide) (wpO_eq h) (fun h => ?_) (fun h => ?_)
    · refine r_iload_n hK dX1_whyWrong_22 rfl ?_
      refine r_jn (J := fun j39 => ∀ (s0_39 : Int) (C_39 : Mem), wpO (j39 s0_39 C_39) Q → Wn K g (mrg C_39 X) 39 [some (.ref (gA g 3)), some (.ref (gA g (27 + a1))), none, some (.int (I (a3))), some (.int (I (a4))), none] [.int (I (s0_39))]) h ?_ ?_
      · intro s0_39 C_39 h
        refine r_istore hK dX1_whyWrong_39 (by rw [hN]; decide) rfl (lv' := [some (.ref (gA g 3)), some (.ref (gA g (27 + a1))), none, some (.int (I (a3))), some (.int (I (a4))), some (.int (I (s0_39)))]) rfl ?_
        refine r_aload_n hK dX1_whyWrong_41 rfl ?_
        refine r_callV hK ck_X4_entries im_X4_entries sl_X4_entries ml_RX1_72 (by omega) (c_X4_entries (l := kL K) (g := g) (X := X) a1 ha1 C_39 (wpO_bd h)) cls_4 (k := (27 + a1)) (by omega) (sh_page ha1) (As := []) (st := []) rfl (Nat.le_of_ble_eq_true rfl) dX1_whyWrong_42 (kkI (fun C42 r42 h => ?_))
        refine r_jn (J := fun j53 => wpO (j53) Q → Wn K g (mrg C42 X) 53 [some (.ref (gA g 3)), some (.ref (gA g (27 + a1))), none, some (.int (I (a3))), some (.int (I (a4))), none] []) h ?_ ?_
        · intro h
          refine r_aload_n hK dX1_whyWrong_53 rfl ?_
          refine r_callS hK ck_X1_isReadable sc_X1_isReadable ml_RX1_87 (by omega) (c_X1_isReadable (l := kL K) (g := g) (X := X) a1 ha1 C42 (wpO_bd h)) (As := [.ref (gA g (27 + a1))]) (st := []) rfl (Nat.le_of_ble_eq_true rfl) dX1_whyWrong_54 (kkI (fun C54 r54 h => ?_))
          refine r_if_ne hK dX1_whyWrong_57 (t := 62) (by decide) (wpO_eq h) (fun h => ?_) (fun h => ?_)
          · refine r_iconst hK dX1_whyWrong_60 ?_
            exact r_ireturn hK hr hQ rfl dX1_whyWrong_61 ⟨C54, 2, rfl, rfl, wpO_some h⟩
          · refine r_aload_n hK dX1_whyWrong_62 rfl ?_
            refine r_aload_n hK dX1_whyWrong_63 rfl ?_
            refine r_callV hK ck_X1_rises im_X1_rises sl_X1_rises ml_RX1_91 (by omega) (c_X1_rises (l := kL K) (g := g) (X := X) a1 ha1 C54 (wpO_bd h)) cls_1 (k := 3) (by omega) rfl (As := [.ref (gA g (27 + a1))]) (st := []) rfl (Nat.le_of_ble_eq_true rfl) dX1_whyWrong_64 (kkI (fun C64 r64 h => ?_))
            refine r_if_ne hK dX1_whyWrong_67 (t := 72) (by decide) (wpO_eq h) (fun h => ?_) (fun h => ?_)
            · refine r_iconst hK dX1_whyWrong_70 ?_
              exact r_ireturn hK hr hQ rfl dX1_whyWrong_71 ⟨C64, 3, rfl, rfl, wpO_some h⟩
            · refine r_aload_n hK dX1_whyWrong_72 rfl ?_
              refine r_callV hK ck_X4_entries im_X4_entries sl_X4_entries ml_RX1_72 (by omega) (c_X4_entries (l := kL K) (g := g) (X := X) a1 ha1 C64 (wpO_bd h)) cls_4 (k := (27 + a1)) (by omega) (sh_page ha1) (As := []) (st := []) rfl (Nat.le_of_ble_eq_true rfl) dX1_whyWrong_73 (kkI (fun C73 r73 h => ?_))
              refine r_jn (J := fun j92 => ∀ (C_92 : Mem), wpO (j92 C_92) Q → Wn K g (mrg C_92 X) 92 [some (.ref (gA g 3)), some (.ref (gA g (27 + a1))), none, none, none, none] []) h ?_ ?_
              · intro C_92 h
                refine r_aload_n hK dX1_whyWrong_92 rfl ?_
                refine r_callV hK ck_X4_sort im_X4_sort sl_X4_sort ml_RX1_84 (by omega) (c_X4_sort (l := kL K) (g := g) (X := X) a1 ha1 C_92 (wpO_bd h)) cls_4 (k := (27 + a1)) (by omega) (sh_page ha1) (As := []) (st := []) rfl (Nat.le_of_ble_eq_true rfl) dX1_whyWrong_93 (kkI (fun C93 r93 h => ?_))
                refine r_iconst hK dX1_whyWrong_96 ?_
                refine r_icmp_ne hK dX1_whyWrong_97 (t := 112) (by decide) (wpO_eq h) (fun h => ?_) (fun h => ?_)
                · refine r_aload_n hK dX1_whyWrong_100 rfl ?_
                  refine r_aload_n hK dX1_whyWrong_101 rfl ?_
                  refine r_callV hK ck_X1_hasWrongChild im_X1_hasWrongChild sl_X1_hasWrongChild ml_RX1_98 (by omega) (c_X1_hasWrongChild (l := kL K) (g := g) (X := X) a1 ha1 C93 (wpO_bd h)) cls_1 (k := 3) (by omega) rfl (As := [.ref (gA g (27 + a1))]) (st := []) rfl (Nat.le_of_ble_eq_true rfl) dX1_whyWrong_102 (kkI (fun C102 r102 h => ?_))
                  refine r_if_eq hK dX1_whyWrong_105 (t := 112) (by decide) (wpO_eq h) (fun h => ?_) (fun h => ?_)
                  · refine r_iconst hK dX1_whyWrong_112 ?_
                    exact r_ireturn hK hr hQ rfl dX1_whyWrong_113 ⟨C102, 0, rfl, rfl, wpO_some h⟩
                  · refine r_iconst hK dX1_whyWrong_108 ?_
                    refine r_goto hK dX1_whyWrong_109 (t := 113) (by decide) ?_
                    exact r_ireturn hK hr hQ rfl dX1_whyWrong_113 ⟨C102, 5, rfl, rfl, wpO_some h⟩
                · refine r_iconst hK dX1_whyWrong_112 ?_
                  exact r_ireturn hK hr hQ rfl dX1_whyWrong_113 ⟨C93, 0, rfl, rfl, wpO_some h⟩
              · intro hj92 h
                refine r_if_le hK dX1_whyWrong_76 (t := 92) (by decide) (wpO_lt h) (fun h => ?_) (fun h => ?_)
                · refine r_aload_n hK dX1_whyWrong_79 rfl ?_
                  refine r_aload_n hK dX1_whyWrong_80 rfl ?_
                  refine r_iload_n hK dX1_whyWrong_81 rfl ?_
                  refine r_iload hK dX1_whyWrong_82 rfl ?_
                  refine r_callV hK ck_X1_isBetween im_X1_isBetween sl_X1_isBetween ml_RX1_94 (by omega) (c_X1_isBetween (l := kL K) (g := g) (X := X) a1 (a3) (a4) ha1 C73 (wpO_bd h)) cls_1 (k := 3) (by omega) rfl (As := [.ref (gA g (27 + a1)), .int (I (a3)), .int (I (a4))]) (st := []) rfl (Nat.le_of_ble_eq_true rfl) dX1_whyWrong_84 (kkI (fun C84 r84 h => ?_))
                  refine r_if_ne hK dX1_whyWrong_87 (t := 92) (by decide) (wpO_eq h) (fun h => ?_) (fun h => ?_)
                  · refine r_iconst hK dX1_whyWrong_90 ?_
                    exact r_ireturn hK hr hQ rfl dX1_whyWrong_91 ⟨C84, 4, rfl, rfl, wpO_some h⟩
                  · refine r_cut [true, true, false, false, false, false] (lv' := [some (.ref (gA g 3)), some (.ref (gA g (27 + a1))), none, none, none, none]) rfl ?_
                    exact hj92 C84 h
                · refine r_cut [true, true, false, false, false, false] (lv' := [some (.ref (gA g 3)), some (.ref (gA g (27 + a1))), none, none, none, none]) rfl ?_
                  exact hj92 C73 h
        · intro hj53 h
          refine r_if_ne hK dX1_whyWrong_45 (t := 53) (by decide) (wpO_eq h) (fun h => ?_) (fun h => ?_)
          · refine r_iload hK dX1_whyWrong_48 rfl ?_
            refine r_if_eq hK dX1_whyWrong_50 (t := 60) (by decide) (wpO_eq h) (fun h => ?_) (fun h => ?_)
            · refine r_iconst hK dX1_whyWrong_60 ?_
              exact r_ireturn hK hr hQ rfl dX1_whyWrong_61 ⟨C42, 2, rfl, rfl, wpO_some h⟩
            · refine r_cut [true, true, false, true, true, false] (lv' := [some (.ref (gA g 3)), some (.ref (gA g (27 + a1))), none, some (.int (I (a3))), some (.int (I (a4))), none]) rfl ?_
              exact hj53 h
          · refine r_cut [true, true, false, true, true, false] (lv' := [some (.ref (gA g 3)), some (.ref (gA g (27 + a1))), none, some (.int (I (a3))), some (.int (I (a4))), none]) rfl ?_
            exact hj53 h
      · intro hj39 h
        refine r_jn (J := fun j38 => ∀ (C_38 : Mem), wpO (j38 C_38) Q → Wn K g (mrg C_38 X) 38 [some (.ref (gA g 3)), some (.ref (gA g (27 + a1))), none, some (.int (I (a3))), some (.int (I (a4))), none] []) h ?_ ?_
        · intro C_38 h
          refine r_iconst hK dX1_whyWrong_38 ?_
          exact hj39 (0) C_38 h
        · intro hj38 h
          refine r_if_ne hK dX1_whyWrong_23 (t := 38) (by decide) (wpO_eq h) (fun h => ?_) (fun h => ?_)
          · refine r_aload_n hK dX1_whyWrong_26 rfl ?_
            refine r_callV hK ck_X4_sort im_X4_sort sl_X4_sort ml_RX1_84 (by omega) (c_X4_sort (l := kL K) (g := g) (X := X) a1 ha1 C6 (wpO_bd h)) cls_4 (k := (27 + a1)) (by omega) (sh_page ha1) (As := []) (st := []) rfl (Nat.le_of_ble_eq_true rfl) dX1_whyWrong_27 (kkI (fun C27 r27 h => ?_))
            refine r_iconst hK dX1_whyWrong_30 ?_
            refine r_icmp_ne hK dX1_whyWrong_31 (t := 38) (by decide) (wpO_eq h) (fun h => ?_) (fun h => ?_)
            · refine r_iconst hK dX1_whyWrong_34 ?_
              refine r_goto hK dX1_whyWrong_35 (t := 39) (by decide) ?_
              refine r_cut [true, true, false, true, true, false] (lv' := [some (.ref (gA g 3)), some (.ref (gA g (27 + a1))), none, some (.int (I (a3))), some (.int (I (a4))), none]) rfl ?_
              exact hj39 (1) C27 h
            · refine r_cut [true, true, false, true, true, false] (lv' := [some (.ref (gA g 3)), some (.ref (gA g (27 + a1))), none, some (.int (I (a3))), some (.int (I (a4))), none]) rfl ?_
              exact hj38 C27 h
          · refine r_cut [true, true, false, true, true, false] (lv' := [some (.ref (gA g 3)), some (.ref (gA g (27 + a1))), none, some (.int (I (a3))), some (.int (I (a4))), none]) rfl ?_
            exact hj38 C6 h
    · refine r_iconst hK dX1_whyWrong_20 ?_
      exact r_ireturn hK hr hQ rfl dX1_whyWrong_21 ⟨C6, 1, rfl, rfl, wpO_some h⟩
  · intro hj17 h
    refine r_if_eq hK dX1_whyWrong_9 (t := 16) (by decide) (wpO_eq h) (fun h => ?_) (fun h => ?_)
    · refine r_iconst hK dX1_whyWrong_16 ?_
      exact hj17 (2) h
    · refine r_iconst hK dX1_whyWrong_12 ?_
      refine r_goto hK dX1_whyWrong_13 (t := 17) (by decide) ?_
      exact hj17 (1) h
set_option maxRecDepth 100000 in
set_option maxHeartbeats 4000000 in
theorem c_X1_noteLeaf {l : Launch} {g : GT} {X : Mem} {Q : Mem → Int → Prop} (a1 : Int) (C : Mem) (h : wpO (f_X1_noteLeaf a1 C) Q) : MetC l yX1_noteLeaf cX1_noteLeaf 2 none 1 g [.ref (gA g 3), .int (I (a1))] (mrg C X) (QV (fun c => mrg c X) Q) := by
  refine met_at 0 (lv := [some (.ref (gA g 3)), some (.int (I (a1)))]) (by decide) (Nat.le_of_ble_eq_true rfl) rfl rfl (fun K hK hN hr hQ => ?_)
  unfold f_X1_noteLeaf at h
  refine r_aload_n hK dX1_noteLeaf_0 rfl ?_
  refine r_getI (k := 3) hK cls_1 fl_RX1_30 (by decide) (by omega) rfl rfl dX1_noteLeaf_1 (mrg_c (by omega)) ?_
  refine r_aload_n hK dX1_noteLeaf_4 rfl ?_
  refine r_getR (k := 3) (k' := (24)) hK cls_1 fl_RX1_15 (by decide) (by omega) rfl rfl dX1_noteLeaf_5 ?_
  refine r_alen (k := (24)) hK (by omega) rfl (by decide) dX1_noteLeaf_8 ?_
  refine r_icmp_ge hK dX1_noteLeaf_9 (t := 32) (by decide) (wpO_lt h) (fun h => ?_) (fun h => ?_)
  · refine r_aload_n hK dX1_noteLeaf_12 rfl ?_
    refine r_getR (k := 3) (k' := (24)) hK cls_1 fl_RX1_15 (by decide) (by omega) rfl rfl dX1_noteLeaf_13 ?_
    refine r_aload_n hK dX1_noteLeaf_16 rfl ?_
    refine r_getI (k := 3) hK cls_1 fl_RX1_30 (by decide) (by omega) rfl rfl dX1_noteLeaf_17 (mrg_c (by omega)) ?_
    refine r_iload_n hK dX1_noteLeaf_20 rfl ?_
    obtain ⟨hb21, h⟩ := wpO_ix h
    refine r_iastore (k := (24)) hK (by omega) rfl (by decide) hb21 dX1_noteLeaf_21 (up_c (by omega)) ?_
    refine r_aload_n hK dX1_noteLeaf_22 rfl ?_
    refine r_dup hK dX1_noteLeaf_23 rfl ?_
    refine r_getI (k := 3) hK cls_1 fl_RX1_30 (by decide) (by omega) rfl rfl dX1_noteLeaf_24 (mrg_c (by omega)) ?_
    refine r_iconst hK dX1_noteLeaf_27 ?_
    refine r_iadd hK dX1_noteLeaf_28 ?_
    refine r_put (k := 3) hK cls_1 fl_RX1_30 (by decide) (by omega) rfl rfl rfl rfl rfl dX1_noteLeaf_29 (up_c (by omega)) ?_
    exact r_return hK hr hQ dX1_noteLeaf_32 ⟨(up (up C (24) (C 3 4).toNat (a1)) 3 4 (((up C (24) (C 3 4).toNat (a1)) 3 4) + 1)), rfl, rfl, wpO_some h⟩
  · exact r_return hK hr hQ dX1_noteLeaf_32 ⟨C, rfl, rfl, wpO_some h⟩
set_option maxRecDepth 100000 in
set_option maxHeartbeats 4000000 in
theorem w_X1_wrongNext_2 {K : KT} {g : GT} {X : Mem} {dd : Nat} (hK : Kok K g cX1_wrongNext RX1 dd) (hN : kN K = 3) (hr : (kMe K).sig.returnType = (some .int)) {Q : Mem → Int → Prop} (hQ : kQ K = MQ (kB K) (Qc g (QI (fun c => mrg c X) Q)) (kA K) (kS K) (kc K) (ks K) (gS g)) (hdd : 2 ≤ dd) (k : Int → Mem → Option (Mem × Int)) (hk : ∀ (v1 : Int) (C : Mem), wpO (k v1 C) Q → Wn K g (mrg C X) 92 [some (.ref (gA g 3)), some (.int (I (v1))), none] []) : ∀ (n : Nat) (v1 : Int) (C : Mem), wpO (f_X1_wrongNext_2 k n v1 C) Q → Wn K g (mrg C X) 2 [some (.ref (gA g 3)), some (.int (I (v1))), none] [] := by
  intro n
  induction n with
  | zero => intro v1 C h; exact (wpO_none h).elim
  | succ n ih =>
    intro v1 C h
    unfold f_X1_wrongNext_2 at h
    refine r_iload_n hK dX1_wrongNext_2 rfl ?_
    refine r_aload_n hK dX1_wrongNext_3 rfl ?_
    refine r_getI (k := 3) hK cls_1 fl_RX1_30 (by decide) (by omega) rfl rfl dX1_wrongNext_4 (mrg_c (by omega)) ?_
    refine r_icmp_ge hK dX1_wrongNext_7 (t := 92) (by decide) (wpO_lt h) (fun h => ?_) (fun h => ?_)
    · refine r_iload_n hK dX1_wrongNext_10 rfl ?_
      refine r_aload_n hK dX1_wrongNext_11 rfl ?_
      refine r_getR (k := 3) (k' := (24)) hK cls_1 fl_RX1_15 (by decide) (by omega) rfl rfl dX1_wrongNext_12 ?_
      refine r_alen (k := (24)) hK (by omega) rfl (by decide) dX1_wrongNext_15 ?_
      refine r_icmp_ge hK dX1_wrongNext_16 (t := 92) (by decide) (wpO_lt h) (fun h => ?_) (fun h => ?_)
      · refine r_iload_n hK dX1_wrongNext_19 rfl ?_
        refine r_iconst hK dX1_wrongNext_20 ?_
        refine r_iadd hK dX1_wrongNext_21 ?_
        refine r_aload_n hK dX1_wrongNext_22 rfl ?_
        refine r_getI (k := 3) hK cls_1 fl_RX1_30 (by decide) (by omega) rfl rfl dX1_wrongNext_23 (mrg_c (by omega)) ?_
        refine r_jn (J := fun j54 => ∀ (s0_54 : Int), wpO (j54 s0_54) Q → Wn K g (mrg C X) 54 [some (.ref (gA g 3)), some (.int (I (v1))), none] [.int (I (s0_54))]) h ?_ ?_
        · intro s0_54 h
          refine r_istore_n hK dX1_wrongNext_54 (by rw [hN]; decide) rfl (lv' := [some (.ref (gA g 3)), some (.int (I (v1))), some (.int (I (s0_54)))]) rfl ?_
          refine r_aload_n hK dX1_wrongNext_55 rfl ?_
          refine r_getR (k := 3) (k' := 1) hK cls_1 fl_RX1_26 (by decide) (by omega) rfl rfl dX1_wrongNext_56 ?_
          refine r_aload_n hK dX1_wrongNext_59 rfl ?_
          refine r_getR (k := 3) (k' := (24)) hK cls_1 fl_RX1_15 (by decide) (by omega) rfl rfl dX1_wrongNext_60 ?_
          refine r_iload_n hK dX1_wrongNext_63 rfl ?_
          obtain ⟨hb64, h⟩ := wpO_ix h
          refine r_iaload (k := (24)) hK (by omega) rfl (by decide) hb64 dX1_wrongNext_64 (mrg_c (by omega)) ?_
          refine r_callV hK ck_X6_pageOf im_X6_pageOf sl_X6_pageOf ml_RX1_50 (by omega) (c_X6_pageOf (l := kL K) (g := g) (X := X) (C (24) (v1).toNat) C (wpO_bd h)) cls_6 (k := 1) (by omega) rfl (As := [.int (I (C (24) (v1).toNat))]) (st := []) rfl (Nat.le_of_ble_eq_true rfl) dX1_wrongNext_65 (kkP (fun C65 r65 hr65 h => ?_))
          refine r_callV hK ck_X4_link im_X4_link sl_X4_link ml_RX1_119 (by omega) (c_X4_link (l := kL K) (g := g) (X := X) r65 hr65 C65 (wpO_bd h)) cls_4 (k := (27 + r65)) (by omega) (sh_page hr65) (As := []) (st := []) rfl (Nat.le_of_ble_eq_true rfl) dX1_wrongNext_68 (kkI (fun C68 r68 h => ?_))
          refine r_iload_n hK dX1_wrongNext_71 rfl ?_
          refine r_icmp_eq hK dX1_wrongNext_72 (t := 86) (by decide) (wpO_eq h) (fun h => ?_) (fun h => ?_)
          · refine r_iinc hK dX1_wrongNext_86 (by rw [hN]; decide) rfl rfl (lv' := [some (.ref (gA g 3)), some (.int (I (v1 + 1))), some (.int (I (s0_54)))]) rfl ?_
            refine r_goto hK dX1_wrongNext_89 (t := 2) (by decide) ?_
            refine r_cut [true, true, false] (lv' := [some (.ref (gA g 3)), some (.int (I (v1 + 1))), none]) rfl ?_
            exact ih (v1 + 1) C68 h
          · refine r_sipush hK dX1_wrongNext_75 (by decide) ?_
            refine r_aload_n hK dX1_wrongNext_78 rfl ?_
            refine r_getR (k := 3) (k' := (24)) hK cls_1 fl_RX1_15 (by decide) (by omega) rfl rfl dX1_wrongNext_79 ?_
            refine r_iload_n hK dX1_wrongNext_82 rfl ?_
            obtain ⟨hb83, h⟩ := wpO_ix h
            refine r_iaload (k := (24)) hK (by omega) rfl (by decide) hb83 dX1_wrongNext_83 (mrg_c (by omega)) ?_
            refine r_iadd hK dX1_wrongNext_84 ?_
            exact r_ireturn hK hr hQ rfl dX1_wrongNext_85 ⟨C68, (600 + (C68 (24) (v1).toNat)), rfl, rfl, wpO_some h⟩
        · intro hj54 h
          refine r_jn (J := fun j53 => wpO (j53) Q → Wn K g (mrg C X) 53 [some (.ref (gA g 3)), some (.int (I (v1))), none] []) h ?_ ?_
          · intro h
            refine r_iconst hK dX1_wrongNext_53 ?_
            exact hj54 (0) h
          · intro hj53 h
            refine r_icmp_ge hK dX1_wrongNext_26 (t := 53) (by decide) (wpO_lt h) (fun h => ?_) (fun h => ?_)
            · refine r_iload_n hK dX1_wrongNext_29 rfl ?_
              refine r_iconst hK dX1_wrongNext_30 ?_
              refine r_iadd hK dX1_wrongNext_31 ?_
              refine r_aload_n hK dX1_wrongNext_32 rfl ?_
              refine r_getR (k := 3) (k' := (24)) hK cls_1 fl_RX1_15 (by decide) (by omega) rfl rfl dX1_wrongNext_33 ?_
              refine r_alen (k := (24)) hK (by omega) rfl (by decide) dX1_wrongNext_36 ?_
              refine r_icmp_ge hK dX1_wrongNext_37 (t := 53) (by decide) (wpO_lt h) (fun h => ?_) (fun h => ?_)
              · refine r_aload_n hK dX1_wrongNext_40 rfl ?_
                refine r_getR (k := 3) (k' := (24)) hK cls_1 fl_RX1_15 (by decide) (by omega) rfl rfl dX1_wrongNext_41 ?_
                refine r_iload_n hK dX1_wrongNext_44 rfl ?_
                refine r_iconst hK dX1_wrongNext_45 ?_
                refine r_iadd hK dX1_wrongNext_46 ?_
                obtain ⟨hb47, h⟩ := wpO_ix h
                refine r_iaload (k := (24)) hK (by omega) rfl (by decide) hb47 dX1_wrongNext_47 (mrg_c (by omega)) ?_
                refine r_iconst hK dX1_wrongNext_48 ?_
                refine r_iadd hK dX1_wrongNext_49 ?_
                refine r_goto hK dX1_wrongNext_50 (t := 54) (by decide) ?_
                exact hj54 ((C (24) (v1 + 1).toNat) + 1) h
              · exact hj53 h
            · exact hj53 h
      · exact hk (v1) C h
    · exact hk (v1) C h
set_option maxRecDepth 100000 in
set_option maxHeartbeats 4000000 in
theorem c_X1_wrongNext {l : Launch} {g : GT} {X : Mem} {Q : Mem → Int → Prop} (C : Mem) (h : wpO (f_X1_wrongNext C) Q) : MetC l yX1_wrongNext cX1_wrongNext 3 (some .int) 2 g [.ref (gA g 3)] (mrg C X) (QI (fun c => mrg c X) Q) := by
  refine met_at 2 (lv := [some (.ref (gA g 3)), none, none]) (by decide) (Nat.le_of_ble_eq_true rfl) rfl rfl (fun K hK hN hr hQ => ?_)
  unfold f_X1_wrongNext at h
  refine r_iconst hK dX1_wrongNext_0 ?_
  refine r_istore_n hK dX1_wrongNext_1 (by rw [hN]; decide) rfl (lv' := [some (.ref (gA g 3)), some (.int (I (0))), none]) rfl ?_
  refine w_X1_wrongNext_2 hK hN hr hQ (by omega) _ (fun v1_e2 C_e2 h => ?_) FU (0) C h
  refine r_iconst hK dX1_wrongNext_92 ?_
  exact r_ireturn hK hr hQ rfl dX1_wrongNext_93 ⟨C_e2, 0, rfl, rfl, wpO_some h⟩
set_option maxRecDepth 100000 in
set_option maxHeartbeats 4000000 in
theorem w_X1_isBlank_2 {K : KT} {g : GT} {X : Mem} {dd : Nat} (hK : Kok K g cX1_isBlank RX1 dd) (hN : kN K = 2) (hr : (kMe K).sig.returnType = (some .boolean)) {Q : Mem → Int → Prop} (hQ : kQ K = MQ (kB K) (Qc g (QI (fun c => mrg c X) Q)) (kA K) (kS K) (kc K) (ks K) (gS g)) (hdd : 2 ≤ dd) (u0 : Nat) (hu0 : u0 < 34) (k : Int → Mem → Option (Mem × Int)) (hk : ∀ (v1 : Int) (C : Mem), wpO (k v1 C) Q → Wn K g (mrg C X) 24 [some (.ref (gA g (27 + u0))), some (.int (I (v1)))] []) : ∀ (n : Nat) (v1 : Int) (C : Mem), wpO (f_X1_isBlank_2 u0 k n v1 C) Q → Wn K g (mrg C X) 2 [some (.ref (gA g (27 + u0))), some (.int (I (v1)))] [] := by
  intro n
  induction n with
  | zero => intro v1 C h; exact (wpO_none h).elim
  | succ n ih =>
    intro v1 C h
    unfold f_X1_isBlank_2 at h
    refine r_iload_n hK dX1_isBlank_2 rfl ?_
    refine r_bipush hK dX1_isBlank_3 (by decide) ?_
    refine r_icmp_ge hK dX1_isBlank_5 (t := 24) (by decide) (wpO_lt h) (fun h => ?_) (fun h => ?_)
    · refine r_aload_n hK dX1_isBlank_8 rfl ?_
      refine r_iload_n hK dX1_isBlank_9 rfl ?_
      refine r_callV hK ck_X4_at im_X4_at sl_X4_at ml_RX1_101 (by omega) (c_X4_at (l := kL K) (g := g) (X := X) u0 (v1) hu0 C (wpO_bd h)) cls_4 (k := (27 + u0)) (by omega) (sh_page hu0) (As := [.int (I (v1))]) (st := []) rfl (Nat.le_of_ble_eq_true rfl) dX1_isBlank_10 (kkI (fun C10 r10 h => ?_))
      refine r_if_eq hK dX1_isBlank_13 (t := 18) (by decide) (wpO_eq h) (fun h => ?_) (fun h => ?_)
      · refine r_iinc hK dX1_isBlank_18 (by rw [hN]; decide) rfl rfl (lv' := [some (.ref (gA g (27 + u0))), some (.int (I (v1 + 1)))]) rfl ?_
        refine r_goto hK dX1_isBlank_21 (t := 2) (by decide) ?_
        exact ih (v1 + 1) C10 h
      · refine r_iconst hK dX1_isBlank_16 ?_
        exact r_ireturn hK hr hQ (nar_b (by decide)) dX1_isBlank_17 ⟨C10, 0, rfl, rfl, wpO_some h⟩
    · exact hk (v1) C h
set_option maxRecDepth 100000 in
set_option maxHeartbeats 4000000 in
theorem c_X1_isBlank {l : Launch} {g : GT} {X : Mem} {Q : Mem → Int → Prop} (a0 : Nat) (ha0 : a0 < 34) (C : Mem) (h : wpO (f_X1_isBlank a0 C) Q) : MetC l yX1_isBlank cX1_isBlank 2 (some .boolean) 2 g [.ref (gA g (27 + a0))] (mrg C X) (QI (fun c => mrg c X) Q) := by
  refine met_at 1 (lv := [some (.ref (gA g (27 + a0))), none]) (by decide) (Nat.le_of_ble_eq_true rfl) rfl rfl (fun K hK hN hr hQ => ?_)
  unfold f_X1_isBlank at h
  refine r_iconst hK dX1_isBlank_0 ?_
  refine r_istore_n hK dX1_isBlank_1 (by rw [hN]; decide) rfl (lv' := [some (.ref (gA g (27 + a0))), some (.int (I (0)))]) rfl ?_
  refine w_X1_isBlank_2 hK hN hr hQ (by omega) a0 ha0 _ (fun v1_e2 C_e2 h => ?_) FU (0) C h
  refine r_iconst hK dX1_isBlank_24 ?_
  exact r_ireturn hK hr hQ (nar_b (by decide)) dX1_isBlank_25 ⟨C_e2, 1, rfl, rfl, wpO_some h⟩
set_option maxRecDepth 100000 in
set_option maxHeartbeats 4000000 in
theorem w_X1_strayPage_2 {K : KT} {g : GT} {X : Mem} {dd : Nat} (hK : Kok K g cX1_strayPage RX1 dd) (hN : kN K = 2) (hr : (kMe K).sig.returnType = (some .int)) {Q : Mem → Int → Prop} (hQ : kQ K = MQ (kB K) (Qc g (QI (fun c => mrg c X) Q)) (kA K) (kS K) (kc K) (ks K) (gS g)) (hdd : 3 ≤ dd) (k : Int → Mem → Option (Mem × Int)) (hk : ∀ (v1 : Int) (C : Mem), wpO (k v1 C) Q → Wn K g (mrg C X) 43 [some (.ref (gA g 3)), some (.int (I (v1)))] []) : ∀ (n : Nat) (v1 : Int) (C : Mem), wpO (f_X1_strayPage_2 k n v1 C) Q → Wn K g (mrg C X) 2 [some (.ref (gA g 3)), some (.int (I (v1)))] [] := by
  intro n
  induction n with
  | zero => intro v1 C h; exact (wpO_none h).elim
  | succ n ih =>
    intro v1 C h
    unfold f_X1_strayPage_2 at h
    refine r_iload_n hK dX1_strayPage_2 rfl ?_
    refine r_bipush hK dX1_strayPage_3 (by decide) ?_
    refine r_icmp_ge hK dX1_strayPage_5 (t := 43) (by decide) (wpO_lt h) (fun h => ?_) (fun h => ?_)
    · refine r_aload_n hK dX1_strayPage_8 rfl ?_
      refine r_getR (k := 3) (k' := (23)) hK cls_1 fl_RX1_9 (by decide) (by omega) rfl rfl dX1_strayPage_9 ?_
      refine r_iload_n hK dX1_strayPage_12 rfl ?_
      obtain ⟨hb13, h⟩ := wpO_ix h
      refine r_baload (k := (23)) hK (by omega) rfl (by decide) hb13 dX1_strayPage_13 (mrg_c (by omega)) ?_
      refine r_if_ne hK dX1_strayPage_14 (t := 37) (by decide) (wpO_eq h) (fun h => ?_) (fun h => ?_)
      · refine r_aload_n hK dX1_strayPage_17 rfl ?_
        refine r_getR (k := 3) (k' := 1) hK cls_1 fl_RX1_26 (by decide) (by omega) rfl rfl dX1_strayPage_18 ?_
        refine r_iload_n hK dX1_strayPage_21 rfl ?_
        refine r_callV hK ck_X6_pageOf im_X6_pageOf sl_X6_pageOf ml_RX1_50 (by omega) (c_X6_pageOf (l := kL K) (g := g) (X := X) (v1) C (wpO_bd h)) cls_6 (k := 1) (by omega) rfl (As := [.int (I (v1))]) (st := []) rfl (Nat.le_of_ble_eq_true rfl) dX1_strayPage_22 (kkP (fun C22 r22 hr22 h => ?_))
        refine r_callS hK ck_X1_isBlank sc_X1_isBlank ml_RX1_122 (by omega) (c_X1_isBlank (l := kL K) (g := g) (X := X) r22 hr22 C22 (wpO_bd h)) (As := [.ref (gA g (27 + r22))]) (st := []) rfl (Nat.le_of_ble_eq_true rfl) dX1_strayPage_25 (kkI (fun C25 r25 h => ?_))
        refine r_if_ne hK dX1_strayPage_28 (t := 37) (by decide) (wpO_eq h) (fun h => ?_) (fun h => ?_)
        · refine r_sipush hK dX1_strayPage_31 (by decide) ?_
          refine r_iload_n hK dX1_strayPage_34 rfl ?_
          refine r_iadd hK dX1_strayPage_35 ?_
          exact r_ireturn hK hr hQ rfl dX1_strayPage_36 ⟨C25, (700 + v1), rfl, rfl, wpO_some h⟩
        · refine r_iinc hK dX1_strayPage_37 (by rw [hN]; decide) rfl rfl (lv' := [some (.ref (gA g 3)), some (.int (I (v1 + 1)))]) rfl ?_
          refine r_goto hK dX1_strayPage_40 (t := 2) (by decide) ?_
          exact ih (v1 + 1) C25 h
      · refine r_iinc hK dX1_strayPage_37 (by rw [hN]; decide) rfl rfl (lv' := [some (.ref (gA g 3)), some (.int (I (v1 + 1)))]) rfl ?_
        refine r_goto hK dX1_strayPage_40 (t := 2) (by decide) ?_
        exact ih (v1 + 1) C h
    · exact hk (v1) C h
set_option maxRecDepth 100000 in
set_option maxHeartbeats 4000000 in
theorem c_X1_strayPage {l : Launch} {g : GT} {X : Mem} {Q : Mem → Int → Prop} (C : Mem) (h : wpO (f_X1_strayPage C) Q) : MetC l yX1_strayPage cX1_strayPage 2 (some .int) 3 g [.ref (gA g 3)] (mrg C X) (QI (fun c => mrg c X) Q) := by
  refine met_at 1 (lv := [some (.ref (gA g 3)), none]) (by decide) (Nat.le_of_ble_eq_true rfl) rfl rfl (fun K hK hN hr hQ => ?_)
  unfold f_X1_strayPage at h
  refine r_iconst hK dX1_strayPage_0 ?_
  refine r_istore_n hK dX1_strayPage_1 (by rw [hN]; decide) rfl (lv' := [some (.ref (gA g 3)), some (.int (I (0)))]) rfl ?_
  refine w_X1_strayPage_2 hK hN hr hQ (by omega) _ (fun v1_e2 C_e2 h => ?_) FU (0) C h
  refine r_iconst hK dX1_strayPage_43 ?_
  exact r_ireturn hK hr hQ rfl dX1_strayPage_44 ⟨C_e2, 0, rfl, rfl, wpO_some h⟩
set_option maxRecDepth 100000 in
set_option maxHeartbeats 4000000 in
theorem w_X1_walkChildren_13 {K : KT} {g : GT} {X : Mem} {dd : Nat} (hK : Kok K g cX1_walkChildren RX1 dd) (hN : kN K = 10) (hr : (kMe K).sig.returnType = (some .int)) {Q : Mem → Int → Prop} (hQ : kQ K = MQ (kB K) (Qc g (QI (fun c => mrg c X) Q)) (kA K) (kS K) (kc K) (ks K) (gS g)) (fw : Int → Int → Int → Int → Mem → Option (Mem × Int)) {dw : Nat} (hdw : 4 ≤ dw) (hw : ∀ (l : Launch) {Q : Mem → Int → Prop} (a1 a2 a3 a4 : Int) (C : Mem), wpO (fw a1 a2 a3 a4 C) Q → MetC l yX1_walk cX1_walk 7 (some .int) dw g [.ref (gA g 3), .int (I a1), .int (I a2), .int (I a3), .int (I a4)] (mrg C X) (QI (fun c => mrg c X) Q)) (hdd : (dw + 1) ≤ dd) (u1 : Int) (u2 : Int) (u3 : Int) (u4 : Int) (u5 : Nat) (hu5 : u5 < 34) (k : Int → Mem → Option (Mem × Int)) (hk : ∀ (v6 : Int) (C : Mem), wpO (k v6 C) Q → Wn K g (mrg C X) 101 [some (.ref (gA g 3)), some (.int (I (u1))), some (.int (I (u2))), some (.int (I (u3))), some (.int (I (u4))), some (.ref (gA g (27 + u5))), some (.int (I (v6))), none, none, none] []) : ∀ (n : Nat) (v6 : Int) (C : Mem), wpO (f_X1_walkChildren_13 fw u1 u2 u3 u4 u5 k n v6 C) Q → Wn K g (mrg C X) 13 [some (.ref (gA g 3)), some (.int (I (u1))), some (.int (I (u2))), some (.int (I (u3))), some (.int (I (u4))), some (.ref (gA g (27 + u5))), some (.int (I (v6))), none, none, none] [] := by
  intro n
  induction n with
  | zero => intro v6 C h; exact (wpO_none h).elim
  | succ n ih =>
    intro v6 C h
    unfold f_X1_walkChildren_13 at h
    refine r_iload hK dX1_walkChildren_13 rfl ?_
    refine r_aload hK dX1_walkChildren_15 rfl ?_
    refine r_callV hK ck_X4_entries im_X4_entries sl_X4_entries ml_RX1_72 (by omega) (c_X4_entries (l := kL K) (g := g) (X := X) u5 hu5 C (wpO_bd h)) cls_4 (k := (27 + u5)) (by omega) (sh_page hu5) (As := []) (st := [.int (I (v6))]) rfl (Nat.le_of_ble_eq_true rfl) dX1_walkChildren_17 (kkI (fun C17 r17 h => ?_))
    refine r_icmp_gt hK dX1_walkChildren_20 (t := 101) (by decide) (wpO_lt h) (fun h => ?_) (fun h => ?_)
    · exact hk (v6) C17 h
    · refine r_iload hK dX1_walkChildren_23 rfl ?_
      refine r_jn (J := fun j41 => ∀ (s0_41 : Int), wpO (j41 s0_41) Q → Wn K g (mrg C17 X) 41 [some (.ref (gA g 3)), some (.int (I (u1))), some (.int (I (u2))), some (.int (I (u3))), some (.int (I (u4))), some (.ref (gA g (27 + u5))), some (.int (I (v6))), none, none, none] [.int (I (s0_41))]) h ?_ ?_
      · intro s0_41 h
        refine r_istore hK dX1_walkChildren_41 (by rw [hN]; decide) rfl (lv' := [some (.ref (gA g 3)), some (.int (I (u1))), some (.int (I (u2))), some (.int (I (u3))), some (.int (I (u4))), some (.ref (gA g (27 + u5))), some (.int (I (v6))), some (.int (I (s0_41))), none, none]) rfl ?_
        refine r_iload hK dX1_walkChildren_43 rfl ?_
        refine r_aload hK dX1_walkChildren_45 rfl ?_
        refine r_callV hK ck_X4_entries im_X4_entries sl_X4_entries ml_RX1_72 (by omega) (c_X4_entries (l := kL K) (g := g) (X := X) u5 hu5 C17 (wpO_bd h)) cls_4 (k := (27 + u5)) (by omega) (sh_page hu5) (As := []) (st := [.int (I (v6))]) rfl (Nat.le_of_ble_eq_true rfl) dX1_walkChildren_47 (kkI (fun C47 r47 h => ?_))
        refine r_jn (J := fun j65 => ∀ (s0_65 : Int), wpO (j65 s0_65) Q → Wn K g (mrg C47 X) 65 [some (.ref (gA g 3)), some (.int (I (u1))), some (.int (I (u2))), some (.int (I (u3))), some (.int (I (u4))), some (.ref (gA g (27 + u5))), some (.int (I (v6))), some (.int (I (s0_41))), none, none] [.int (I (s0_65))]) h ?_ ?_
        · intro s0_65 h
          refine r_istore hK dX1_walkChildren_65 (by rw [hN]; decide) rfl (lv' := [some (.ref (gA g 3)), some (.int (I (u1))), some (.int (I (u2))), some (.int (I (u3))), some (.int (I (u4))), some (.ref (gA g (27 + u5))), some (.int (I (v6))), some (.int (I (s0_41))), some (.int (I (s0_65))), none]) rfl ?_
          refine r_aload_n hK dX1_walkChildren_67 rfl ?_
          refine r_aload hK dX1_walkChildren_68 rfl ?_
          refine r_iload hK dX1_walkChildren_70 rfl ?_
          refine r_callV hK ck_X4_child im_X4_child sl_X4_child ml_RX1_77 (by omega) (c_X4_child (l := kL K) (g := g) (X := X) u5 (v6) hu5 C47 (wpO_bd h)) cls_4 (k := (27 + u5)) (by omega) (sh_page hu5) (As := [.int (I (v6))]) (st := [.ref (gA g 3)]) rfl (Nat.le_of_ble_eq_true rfl) dX1_walkChildren_72 (kkI (fun C72 r72 h => ?_))
          refine r_iload_n hK dX1_walkChildren_75 rfl ?_
          refine r_iconst hK dX1_walkChildren_76 ?_
          refine r_iadd hK dX1_walkChildren_77 ?_
          refine r_iload hK dX1_walkChildren_78 rfl ?_
          refine r_iload hK dX1_walkChildren_80 rfl ?_
          refine r_callV hK ck_X1_walk im_X1_walk sl_X1_walk ml_RX1_39 (by omega) (hw _ (r72) (u2 + 1) (s0_41) (s0_65) C72 (wpO_bd h)) cls_1 (k := 3) (by omega) rfl (As := [.int (I (r72)), .int (I (u2 + 1)), .int (I (s0_41)), .int (I (s0_65))]) (st := []) rfl (Nat.le_of_ble_eq_true rfl) dX1_walkChildren_82 (kkI (fun C82 r82 h => ?_))
          refine r_istore hK dX1_walkChildren_85 (by rw [hN]; decide) rfl (lv' := [some (.ref (gA g 3)), some (.int (I (u1))), some (.int (I (u2))), some (.int (I (u3))), some (.int (I (u4))), some (.ref (gA g (27 + u5))), some (.int (I (v6))), some (.int (I (s0_41))), some (.int (I (s0_65))), some (.int (I (r82)))]) rfl ?_
          refine r_iload hK dX1_walkChildren_87 rfl ?_
          refine r_if_eq hK dX1_walkChildren_89 (t := 95) (by decide) (wpO_eq h) (fun h => ?_) (fun h => ?_)
          · refine r_iinc hK dX1_walkChildren_95 (by rw [hN]; decide) rfl rfl (lv' := [some (.ref (gA g 3)), some (.int (I (u1))), some (.int (I (u2))), some (.int (I (u3))), some (.int (I (u4))), some (.ref (gA g (27 + u5))), some (.int (I (v6 + 1))), some (.int (I (s0_41))), some (.int (I (s0_65))), some (.int (I (r82)))]) rfl ?_
            refine r_goto hK dX1_walkChildren_98 (t := 13) (by decide) ?_
            refine r_cut [true, true, true, true, true, true, true, false, false, false] (lv' := [some (.ref (gA g 3)), some (.int (I (u1))), some (.int (I (u2))), some (.int (I (u3))), some (.int (I (u4))), some (.ref (gA g (27 + u5))), some (.int (I (v6 + 1))), none, none, none]) rfl ?_
            exact ih (v6 + 1) C82 h
          · refine r_iload hK dX1_walkChildren_92 rfl ?_
            exact r_ireturn hK hr hQ rfl dX1_walkChildren_94 ⟨C82, r82, rfl, rfl, wpO_some h⟩
        · intro hj65 h
          refine r_icmp_ge hK dX1_walkChildren_50 (t := 63) (by decide) (wpO_lt h) (fun h => ?_) (fun h => ?_)
          · refine r_iload_n hK dX1_walkChildren_53 rfl ?_
            refine r_bipush hK dX1_walkChildren_54 (by decide) ?_
            refine r_imul hK dX1_walkChildren_56 ?_
            refine r_iload hK dX1_walkChildren_57 rfl ?_
            refine r_iadd hK dX1_walkChildren_59 ?_
            refine r_goto hK dX1_walkChildren_60 (t := 65) (by decide) ?_
            exact hj65 ((u1 * 64) + v6) h
          · refine r_iload hK dX1_walkChildren_63 rfl ?_
            exact hj65 (u4) h
      · intro hj41 h
        refine r_if_le hK dX1_walkChildren_25 (t := 40) (by decide) (wpO_lt h) (fun h => ?_) (fun h => ?_)
        · refine r_iload_n hK dX1_walkChildren_28 rfl ?_
          refine r_bipush hK dX1_walkChildren_29 (by decide) ?_
          refine r_imul hK dX1_walkChildren_31 ?_
          refine r_iload hK dX1_walkChildren_32 rfl ?_
          refine r_iadd hK dX1_walkChildren_34 ?_
          refine r_iconst hK dX1_walkChildren_35 ?_
          refine r_isub hK dX1_walkChildren_36 ?_
          refine r_goto hK dX1_walkChildren_37 (t := 41) (by decide) ?_
          exact hj41 (((u1 * 64) + v6) - 1) h
        · refine r_iload_n hK dX1_walkChildren_40 rfl ?_
          exact hj41 (u3) h
set_option maxRecDepth 100000 in
set_option maxHeartbeats 4000000 in
theorem c_X1_walkChildren {l : Launch} {g : GT} {X : Mem} {Q : Mem → Int → Prop} (fw : Int → Int → Int → Int → Mem → Option (Mem × Int)) {dw : Nat} (hdw : 4 ≤ dw) (hw : ∀ (l : Launch) {Q : Mem → Int → Prop} (a1 a2 a3 a4 : Int) (C : Mem), wpO (fw a1 a2 a3 a4 C) Q → MetC l yX1_walk cX1_walk 7 (some .int) dw g [.ref (gA g 3), .int (I a1), .int (I a2), .int (I a3), .int (I a4)] (mrg C X) (QI (fun c => mrg c X) Q)) (a1 : Int) (a2 : Int) (a3 : Int) (a4 : Int) (C : Mem) (h : wpO (f_X1_walkChildren fw a1 a2 a3 a4 C) Q) : MetC l yX1_walkChildren cX1_walkChildren 10 (some .int) (dw + 1) g [.ref (gA g 3), .int (I (a1)), .int (I (a2)), .int (I (a3)), .int (I (a4))] (mrg C X) (QI (fun c => mrg c X) Q) := by
  refine met_at 5 (lv := [some (.ref (gA g 3)), some (.int (I (a1))), some (.int (I (a2))), some (.int (I (a3))), some (.int (I (a4))), none, none, none, none, none]) (by decide) (Nat.le_of_ble_eq_true rfl) rfl rfl (fun K hK hN hr hQ => ?_)
  unfold f_X1_walkChildren at h
  refine r_aload_n hK dX1_walkChildren_0 rfl ?_
  refine r_getR (k := 3) (k' := 1) hK cls_1 fl_RX1_26 (by decide) (by omega) rfl rfl dX1_walkChildren_1 ?_
  refine r_iload_n hK dX1_walkChildren_4 rfl ?_
  refine r_callV hK ck_X6_pageOf im_X6_pageOf sl_X6_pageOf ml_RX1_50 (by omega) (c_X6_pageOf (l := kL K) (g := g) (X := X) (a1) C (wpO_bd h)) cls_6 (k := 1) (by omega) rfl (As := [.int (I (a1))]) (st := []) rfl (Nat.le_of_ble_eq_true rfl) dX1_walkChildren_5 (kkP (fun C5 r5 hr5 h => ?_))
  refine r_astore hK dX1_walkChildren_8 (by rw [hN]; decide) rfl (lv' := [some (.ref (gA g 3)), some (.int (I (a1))), some (.int (I (a2))), some (.int (I (a3))), some (.int (I (a4))), some (.ref (gA g (27 + r5))), none, none, none, none]) rfl ?_
  refine r_iconst hK dX1_walkChildren_10 ?_
  refine r_istore hK dX1_walkChildren_11 (by rw [hN]; decide) rfl (lv' := [some (.ref (gA g 3)), some (.int (I (a1))), some (.int (I (a2))), some (.int (I (a3))), some (.int (I (a4))), some (.ref (gA g (27 + r5))), some (.int (I (0))), none, none, none]) rfl ?_
  refine w_X1_walkChildren_13 hK hN hr hQ fw hdw hw (by omega) (a1) (a2) (a3) (a4) r5 hr5 _ (fun v6_e13 C_e13 h => ?_) FU (0) C5 h
  refine r_iconst hK dX1_walkChildren_101 ?_
  exact r_ireturn hK hr hQ rfl dX1_walkChildren_102 ⟨C_e13, 0, rfl, rfl, wpO_some h⟩
set_option maxRecDepth 100000 in
set_option maxHeartbeats 4000000 in
theorem c_X1_walkB {l : Launch} {g : GT} {X : Mem} {Q : Mem → Int → Prop} (fw : Int → Int → Int → Int → Mem → Option (Mem × Int)) {dw : Nat} (hdw : 4 ≤ dw) (hw : ∀ (l : Launch) {Q : Mem → Int → Prop} (a1 a2 a3 a4 : Int) (C : Mem), wpO (fw a1 a2 a3 a4 C) Q → MetC l yX1_walk cX1_walk 7 (some .int) dw g [.ref (gA g 3), .int (I a1), .int (I a2), .int (I a3), .int (I a4)] (mrg C X) (QI (fun c => mrg c X) Q)) (a1 : Int) (a2 : Int) (a3 : Int) (a4 : Int) (C : Mem) (h : wpO (f_X1_walkB fw a1 a2 a3 a4 C) Q) : MetC l yX1_walk cX1_walk 7 (some .int) (dw + 2) g [.ref (gA g 3), .int (I (a1)), .int (I (a2)), .int (I (a3)), .int (I (a4))] (mrg C X) (QI (fun c => mrg c X) Q) := by
  refine met_at 2 (lv := [some (.ref (gA g 3)), some (.int (I (a1))), some (.int (I (a2))), some (.int (I (a3))), some (.int (I (a4))), none, none]) (by decide) (Nat.le_of_ble_eq_true rfl) rfl rfl (fun K hK hN hr hQ => ?_)
  unfold f_X1_walkB at h
  refine r_aload_n hK dX1_walk_0 rfl ?_
  refine r_getR (k := 3) (k' := 1) hK cls_1 fl_RX1_26 (by decide) (by omega) rfl rfl dX1_walk_1 ?_
  refine r_iload_n hK dX1_walk_4 rfl ?_
  refine r_callV hK ck_X6_pageOf im_X6_pageOf sl_X6_pageOf ml_RX1_50 (by omega) (c_X6_pageOf (l := kL K) (g := g) (X := X) (a1) C (wpO_bd h)) cls_6 (k := 1) (by omega) rfl (As := [.int (I (a1))]) (st := []) rfl (Nat.le_of_ble_eq_true rfl) dX1_walk_5 (kkP (fun C5 r5 hr5 h => ?_))
  refine r_astore hK dX1_walk_8 (by rw [hN]; decide) rfl (lv' := [some (.ref (gA g 3)), some (.int (I (a1))), some (.int (I (a2))), some (.int (I (a3))), some (.int (I (a4))), some (.ref (gA g (27 + r5))), none]) rfl ?_
  refine r_aload_n hK dX1_walk_10 rfl ?_
  refine r_iload_n hK dX1_walk_11 rfl ?_
  refine r_callV hK ck_X1_comeTo im_X1_comeTo sl_X1_comeTo ml_RX1_54 (by omega) (c_X1_comeTo (l := kL K) (g := g) (X := X) (a1) C5 (wpO_bd h)) cls_1 (k := 3) (by omega) rfl (As := [.int (I (a1))]) (st := []) rfl (Nat.le_of_ble_eq_true rfl) dX1_walk_12 (kkV (fun C12 h => ?_))
  refine r_aload_n hK dX1_walk_15 rfl ?_
  refine r_aload hK dX1_walk_16 rfl ?_
  refine r_iload_n hK dX1_walk_18 rfl ?_
  refine r_iload_n hK dX1_walk_19 rfl ?_
  refine r_iload hK dX1_walk_20 rfl ?_
  refine r_callV hK ck_X1_whyWrong im_X1_whyWrong sl_X1_whyWrong ml_RX1_58 (by omega) (c_X1_whyWrong (l := kL K) (g := g) (X := X) r5 (a2) (a3) (a4) hr5 C12 (wpO_bd h)) cls_1 (k := 3) (by omega) rfl (As := [.ref (gA g (27 + r5)), .int (I (a2)), .int (I (a3)), .int (I (a4))]) (st := []) rfl (Nat.le_of_ble_eq_true rfl) dX1_walk_22 (kkI (fun C22 r22 h => ?_))
  refine r_istore hK dX1_walk_25 (by rw [hN]; decide) rfl (lv' := [some (.ref (gA g 3)), some (.int (I (a1))), some (.int (I (a2))), some (.int (I (a3))), some (.int (I (a4))), some (.ref (gA g (27 + r5))), some (.int (I (r22)))]) rfl ?_
  refine r_iload hK dX1_walk_27 rfl ?_
  refine r_if_eq hK dX1_walk_29 (t := 40) (by decide) (wpO_eq h) (fun h => ?_) (fun h => ?_)
  · refine r_aload_n hK dX1_walk_40 rfl ?_
    refine r_iload_n hK dX1_walk_41 rfl ?_
    refine r_callV hK ck_X1_isLast im_X1_isLast sl_X1_isLast ml_RX1_62 (by omega) (c_X1_isLast (l := kL K) (g := g) (X := X) (a2) C22 (wpO_bd h)) cls_1 (k := 3) (by omega) rfl (As := [.int (I (a2))]) (st := []) rfl (Nat.le_of_ble_eq_true rfl) dX1_walk_42 (kkI (fun C42 r42 h => ?_))
    refine r_if_eq hK dX1_walk_45 (t := 55) (by decide) (wpO_eq h) (fun h => ?_) (fun h => ?_)
    · refine r_aload_n hK dX1_walk_55 rfl ?_
      refine r_iload_n hK dX1_walk_56 rfl ?_
      refine r_iload_n hK dX1_walk_57 rfl ?_
      refine r_iload_n hK dX1_walk_58 rfl ?_
      refine r_iload hK dX1_walk_59 rfl ?_
      refine r_callV hK ck_X1_walkChildren im_X1_walkChildren sl_X1_walkChildren ml_RX1_69 (by omega) (c_X1_walkChildren (l := kL K) (g := g) (X := X) fw hdw hw (a1) (a2) (a3) (a4) C42 (wpO_bd h)) cls_1 (k := 3) (by omega) rfl (As := [.int (I (a1)), .int (I (a2)), .int (I (a3)), .int (I (a4))]) (st := []) rfl (Nat.le_of_ble_eq_true rfl) dX1_walk_61 (kkI (fun C61 r61 h => ?_))
      exact r_ireturn hK hr hQ rfl dX1_walk_64 ⟨C61, r61, rfl, rfl, wpO_some h⟩
    · refine r_aload_n hK dX1_walk_48 rfl ?_
      refine r_iload_n hK dX1_walk_49 rfl ?_
      refine r_callV hK ck_X1_noteLeaf im_X1_noteLeaf sl_X1_noteLeaf ml_RX1_66 (by omega) (c_X1_noteLeaf (l := kL K) (g := g) (X := X) (a1) C42 (wpO_bd h)) cls_1 (k := 3) (by omega) rfl (As := [.int (I (a1))]) (st := []) rfl (Nat.le_of_ble_eq_true rfl) dX1_walk_50 (kkV (fun C50 h => ?_))
      refine r_iconst hK dX1_walk_53 ?_
      exact r_ireturn hK hr hQ rfl dX1_walk_54 ⟨C50, 0, rfl, rfl, wpO_some h⟩
  · refine r_bipush hK dX1_walk_32 (by decide) ?_
    refine r_iload hK dX1_walk_34 rfl ?_
    refine r_imul hK dX1_walk_36 ?_
    refine r_iload_n hK dX1_walk_37 rfl ?_
    refine r_iadd hK dX1_walk_38 ?_
    exact r_ireturn hK hr hQ rfl dX1_walk_39 ⟨C22, ((100 * r22) + a1), rfl, rfl, wpO_some h⟩
set_option maxRecDepth 100000 in
set_option maxHeartbeats 4000000 in
theorem c_X1_walk (n : Nat) {l : Launch} {g : GT} {X : Mem} {Q : Mem → Int → Prop} (a1 a2 a3 a4 : Int) (C : Mem) (h : wpO (f_X1_walk n a1 a2 a3 a4 C) Q) : MetC l yX1_walk cX1_walk 7 (some .int) (4 + 2 * n) g [.ref (gA g 3), .int (I (a1)), .int (I (a2)), .int (I (a3)), .int (I (a4))] (mrg C X) (QI (fun c => mrg c X) Q) := by
  induction n generalizing l Q a1 a2 a3 a4 C with
  | zero => exact (wpO_none h).elim
  | succ n ih => exact c_X1_walkB (f_X1_walk n) (dw := 4 + 2 * n) (by omega) (fun l Q a1 a2 a3 a4 C h => ih a1 a2 a3 a4 C h) a1 a2 a3 a4 C h
set_option maxRecDepth 100000 in
set_option maxHeartbeats 4000000 in
theorem w_X1_firstWrong_2 {K : KT} {g : GT} {X : Mem} {dd : Nat} (hK : Kok K g cX1_firstWrong RX1 dd) (hN : kN K = 2) (hr : (kMe K).sig.returnType = (some .int)) {Q : Mem → Int → Prop} (hQ : kQ K = MQ (kB K) (Qc g (QI (fun c => mrg c X) Q)) (kA K) (kS K) (kc K) (ks K) (gS g)) (hdd : 85 ≤ dd) (k : Int → Mem → Option (Mem × Int)) (hk : ∀ (v1 : Int) (C : Mem), wpO (k v1 C) Q → Wn K g (mrg C X) 21 [some (.ref (gA g 3)), some (.int (I (v1)))] []) : ∀ (n : Nat) (v1 : Int) (C : Mem), wpO (f_X1_firstWrong_2 k n v1 C) Q → Wn K g (mrg C X) 2 [some (.ref (gA g 3)), some (.int (I (v1)))] [] := by
  intro n
  induction n with
  | zero => intro v1 C h; exact (wpO_none h).elim
  | succ n ih =>
    intro v1 C h
    unfold f_X1_firstWrong_2 at h
    refine r_iload_n hK dX1_firstWrong_2 rfl ?_
    refine r_bipush hK dX1_firstWrong_3 (by decide) ?_
    refine r_icmp_ge hK dX1_firstWrong_5 (t := 21) (by decide) (wpO_lt h) (fun h => ?_) (fun h => ?_)
    · refine r_aload_n hK dX1_firstWrong_8 rfl ?_
      refine r_getR (k := 3) (k' := (23)) hK cls_1 fl_RX1_9 (by decide) (by omega) rfl rfl dX1_firstWrong_9 ?_
      refine r_iload_n hK dX1_firstWrong_12 rfl ?_
      refine r_iconst hK dX1_firstWrong_13 ?_
      obtain ⟨hb14, h⟩ := wpO_ix h
      refine r_bastore (k := (23)) hK (by omega) rfl (by decide) hb14 (by decide) dX1_firstWrong_14 (up_c (by omega)) ?_
      refine r_iinc hK dX1_firstWrong_15 (by rw [hN]; decide) rfl rfl (lv' := [some (.ref (gA g 3)), some (.int (I (v1 + 1)))]) rfl ?_
      refine r_goto hK dX1_firstWrong_18 (t := 2) (by decide) ?_
      exact ih (v1 + 1) (up C (23) (v1).toNat (0)) h
    · exact hk (v1) C h
set_option maxRecDepth 100000 in
set_option maxHeartbeats 4000000 in
theorem c_X1_firstWrong {l : Launch} {g : GT} {X : Mem} {Q : Mem → Int → Prop} (C : Mem) (h : wpO (f_X1_firstWrong C) Q) : MetC l yX1_firstWrong cX1_firstWrong 2 (some .int) 85 g [.ref (gA g 3)] (mrg C X) (QI (fun c => mrg c X) Q) := by
  refine met_at 1 (lv := [some (.ref (gA g 3)), none]) (by decide) (Nat.le_of_ble_eq_true rfl) rfl rfl (fun K hK hN hr hQ => ?_)
  unfold f_X1_firstWrong at h
  refine r_iconst hK dX1_firstWrong_0 ?_
  refine r_istore_n hK dX1_firstWrong_1 (by rw [hN]; decide) rfl (lv' := [some (.ref (gA g 3)), some (.int (I (0)))]) rfl ?_
  refine w_X1_firstWrong_2 hK hN hr hQ (by omega) _ (fun v1_e2 C_e2 h => ?_) FU (0) C h
  refine r_aload_n hK dX1_firstWrong_21 rfl ?_
  refine r_iconst hK dX1_firstWrong_22 ?_
  refine r_put (k := 3) hK cls_1 fl_RX1_30 (by decide) (by omega) rfl rfl rfl rfl rfl dX1_firstWrong_23 (up_c (by omega)) ?_
  refine r_aload_n hK dX1_firstWrong_26 rfl ?_
  refine r_aload_n hK dX1_firstWrong_27 rfl ?_
  refine r_getR (k := 3) (k' := 1) hK cls_1 fl_RX1_26 (by decide) (by omega) rfl rfl dX1_firstWrong_28 ?_
  refine r_getIN (k := 1) hK cls_6 fl_RX1_34 (by decide) (by omega) rfl rfl dX1_firstWrong_31 (mrg_c (by omega)) ?_
  refine r_iconst hK dX1_firstWrong_34 ?_
  refine r_iconst hK dX1_firstWrong_35 ?_
  refine r_iconst hK dX1_firstWrong_36 ?_
  refine r_callV hK ck_X1_walk im_X1_walk sl_X1_walk ml_RX1_39 (by omega) (c_X1_walk (l := kL K) (g := g) (X := X) 40 ((up C_e2 3 4 (0)) 1 4) (0) (-1) (-1) (up C_e2 3 4 (0)) (wpO_bd h)) cls_1 (k := 3) (by omega) rfl (As := [.int (I ((up C_e2 3 4 (0)) 1 4)), .int (I (0)), .int (I (-1)), .int (I (-1))]) (st := []) rfl (Nat.le_of_ble_eq_true rfl) dX1_firstWrong_37 (kkI (fun C37 r37 h => ?_))
  refine r_istore_n hK dX1_firstWrong_40 (by rw [hN]; decide) rfl (lv' := [some (.ref (gA g 3)), some (.int (I (r37)))]) rfl ?_
  refine r_iload_n hK dX1_firstWrong_41 rfl ?_
  refine r_jn (J := fun j50 => ∀ (x1_50 : Int) (C_50 : Mem), wpO (j50 x1_50 C_50) Q → Wn K g (mrg C_50 X) 50 [some (.ref (gA g 3)), some (.int (I (x1_50)))] []) h ?_ ?_
  · intro x1_50 C_50 h
    refine r_iload_n hK dX1_firstWrong_50 rfl ?_
    refine r_if_ne hK dX1_firstWrong_51 (t := 61) (by decide) (wpO_eq h) (fun h => ?_) (fun h => ?_)
    · refine r_aload_n hK dX1_firstWrong_54 rfl ?_
      refine r_callV hK ck_X1_strayPage im_X1_strayPage sl_X1_strayPage ml_RX1_47 (by omega) (c_X1_strayPage (l := kL K) (g := g) (X := X) C_50 (wpO_bd h)) cls_1 (k := 3) (by omega) rfl (As := []) (st := []) rfl (Nat.le_of_ble_eq_true rfl) dX1_firstWrong_55 (kkI (fun C55 r55 h => ?_))
      refine r_goto hK dX1_firstWrong_58 (t := 62) (by decide) ?_
      exact r_ireturn hK hr hQ rfl dX1_firstWrong_62 ⟨C55, r55, rfl, rfl, wpO_some h⟩
    · refine r_iload_n hK dX1_firstWrong_61 rfl ?_
      exact r_ireturn hK hr hQ rfl dX1_firstWrong_62 ⟨C_50, x1_50, rfl, rfl, wpO_some h⟩
  · intro hj50 h
    refine r_if_ne hK dX1_firstWrong_42 (t := 50) (by decide) (wpO_eq h) (fun h => ?_) (fun h => ?_)
    · refine r_aload_n hK dX1_firstWrong_45 rfl ?_
      refine r_callV hK ck_X1_wrongNext im_X1_wrongNext sl_X1_wrongNext ml_RX1_43 (by omega) (c_X1_wrongNext (l := kL K) (g := g) (X := X) C37 (wpO_bd h)) cls_1 (k := 3) (by omega) rfl (As := []) (st := []) rfl (Nat.le_of_ble_eq_true rfl) dX1_firstWrong_46 (kkI (fun C46 r46 h => ?_))
      refine r_istore_n hK dX1_firstWrong_49 (by rw [hN]; decide) rfl (lv' := [some (.ref (gA g 3)), some (.int (I (r46)))]) rfl ?_
      exact hj50 (r46) C46 h
    · exact hj50 (r37) C37 h

set_option maxRecDepth 100000 in
set_option maxHeartbeats 4000000 in
theorem c_X4_entries {l : Launch} {g : GT} {X : Mem} {Q : Mem → Int → Prop} (a0 : Nat) (ha0 : a0 < 34) (C : Mem) (h : wpO (f_X4_entries a0 C) Q) : MetC l yX4_entries cX4_entries 1 (some .int) 1 g [.ref (gA g (27 + a0))] (mrg C X) (QI (fun c => mrg c X) Q) := by
  refine met_at 0 (lv := [some (.ref (gA g (27 + a0)))]) (by decide) (Nat.le_of_ble_eq_true rfl) rfl rfl (fun K hK hN hr hQ => ?_)
  unfold f_X4_entries at h
  refine r_aload_n hK dX4_entries_0 rfl ?_
  refine r_getR (k := (27 + a0)) (k' := (61 + a0)) hK cls_4 fl_RX4_15 (by decide) (by omega) (sh_page ha0) rfl dX4_entries_1 ?_
  refine r_iconst hK dX4_entries_4 ?_
  obtain ⟨hb5, h⟩ := wpO_ix h
  refine r_iaload (k := (61 + a0)) hK (by omega) (sh_pb ha0) (pl_lt _) hb5 dX4_entries_5 (mrg_c (by omega)) ?_
  exact r_ireturn hK hr hQ rfl dX4_entries_6 ⟨C, (C (61 + a0) 1), rfl, rfl, wpO_some h⟩
set_option maxRecDepth 100000 in
set_option maxHeartbeats 4000000 in
theorem w_X4_offset_4 {K : KT} {g : GT} {X : Mem} {dd : Nat} (hK : Kok K g cX4_offset RX4 dd) (hN : kN K = 4) (hr : (kMe K).sig.returnType = (some .int)) {Q : Mem → Int → Prop} (hQ : kQ K = MQ (kB K) (Qc g (QI (fun c => mrg c X) Q)) (kA K) (kS K) (kc K) (ks K) (gS g)) (hdd : 1 ≤ dd) (u0 : Nat) (u1 : Int) (hu0 : u0 < 34) (k : Int → Int → Mem → Option (Mem × Int)) (hk : ∀ (v2 : Int) (v3 : Int) (C : Mem), wpO (k v2 v3 C) Q → Wn K g (mrg C X) 35 [some (.ref (gA g (27 + u0))), some (.int (I (u1))), some (.int (I (v2))), some (.int (I (v3)))] []) : ∀ (n : Nat) (v2 : Int) (v3 : Int) (C : Mem), wpO (f_X4_offset_4 u0 u1 k n v2 v3 C) Q → Wn K g (mrg C X) 4 [some (.ref (gA g (27 + u0))), some (.int (I (u1))), some (.int (I (v2))), some (.int (I (v3)))] [] := by
  intro n
  induction n with
  | zero => intro v2 v3 C h; exact (wpO_none h).elim
  | succ n ih =>
    intro v2 v3 C h
    unfold f_X4_offset_4 at h
    refine r_iload_n hK dX4_offset_4 rfl ?_
    refine r_iload_n hK dX4_offset_5 rfl ?_
    refine r_icmp_ge hK dX4_offset_6 (t := 35) (by decide) (wpO_lt h) (fun h => ?_) (fun h => ?_)
    · refine r_iload_n hK dX4_offset_9 rfl ?_
      refine r_aload_n hK dX4_offset_10 rfl ?_
      refine r_getR (k := (27 + u0)) (k' := (61 + u0)) hK cls_4 fl_RX4_15 (by decide) (by omega) (sh_page hu0) rfl dX4_offset_11 ?_
      refine r_alen (k := (61 + u0)) hK (by omega) (sh_pb hu0) (by decide) dX4_offset_14 ?_
      refine r_icmp_ge hK dX4_offset_15 (t := 35) (by decide) (wpO_lt h) (fun h => ?_) (fun h => ?_)
      · refine r_iload_n hK dX4_offset_18 rfl ?_
        refine r_aload_n hK dX4_offset_19 rfl ?_
        refine r_getR (k := (27 + u0)) (k' := (61 + u0)) hK cls_4 fl_RX4_15 (by decide) (by omega) (sh_page hu0) rfl dX4_offset_20 ?_
        refine r_iload_n hK dX4_offset_23 rfl ?_
        obtain ⟨hb24, h⟩ := wpO_ix h
        refine r_iaload (k := (61 + u0)) hK (by omega) (sh_pb hu0) (pl_lt _) hb24 dX4_offset_24 (mrg_c (by omega)) ?_
        refine r_iconst hK dX4_offset_25 ?_
        refine r_iadd hK dX4_offset_26 ?_
        refine r_iadd hK dX4_offset_27 ?_
        refine r_istore_n hK dX4_offset_28 (by rw [hN]; decide) rfl (lv' := [some (.ref (gA g (27 + u0))), some (.int (I (u1))), some (.int (I (v2 + ((C (61 + u0) (v2).toNat) + 2)))), some (.int (I (v3)))]) rfl ?_
        refine r_iinc hK dX4_offset_29 (by rw [hN]; decide) rfl rfl (lv' := [some (.ref (gA g (27 + u0))), some (.int (I (u1))), some (.int (I (v2 + ((C (61 + u0) (v2).toNat) + 2)))), some (.int (I (v3 + 1)))]) rfl ?_
        refine r_goto hK dX4_offset_32 (t := 4) (by decide) ?_
        exact ih (v2 + ((C (61 + u0) (v2).toNat) + 2)) (v3 + 1) C h
      · exact hk (v2) (v3) C h
    · exact hk (v2) (v3) C h
set_option maxRecDepth 100000 in
set_option maxHeartbeats 4000000 in
theorem c_X4_offset {l : Launch} {g : GT} {X : Mem} {Q : Mem → Int → Prop} (a0 : Nat) (a1 : Int) (ha0 : a0 < 34) (C : Mem) (h : wpO (f_X4_offset a0 a1 C) Q) : MetC l yX4_offset cX4_offset 4 (some .int) 1 g [.ref (gA g (27 + a0)), .int (I (a1))] (mrg C X) (QI (fun c => mrg c X) Q) := by
  refine met_at 2 (lv := [some (.ref (gA g (27 + a0))), some (.int (I (a1))), none, none]) (by decide) (Nat.le_of_ble_eq_true rfl) rfl rfl (fun K hK hN hr hQ => ?_)
  unfold f_X4_offset at h
  refine r_iconst hK dX4_offset_0 ?_
  refine r_istore_n hK dX4_offset_1 (by rw [hN]; decide) rfl (lv' := [some (.ref (gA g (27 + a0))), some (.int (I (a1))), some (.int (I (3))), none]) rfl ?_
  refine r_iconst hK dX4_offset_2 ?_
  refine r_istore_n hK dX4_offset_3 (by rw [hN]; decide) rfl (lv' := [some (.ref (gA g (27 + a0))), some (.int (I (a1))), some (.int (I (3))), some (.int (I (0)))]) rfl ?_
  refine w_X4_offset_4 hK hN hr hQ (by omega) a0 (a1) ha0 _ (fun v2_e4 v3_e4 C_e4 h => ?_) FU (3) (0) C h
  refine r_iload_n hK dX4_offset_35 rfl ?_
  exact r_ireturn hK hr hQ rfl dX4_offset_36 ⟨C_e4, v2_e4, rfl, rfl, wpO_some h⟩
set_option maxRecDepth 100000 in
set_option maxHeartbeats 4000000 in
theorem c_X4_at {l : Launch} {g : GT} {X : Mem} {Q : Mem → Int → Prop} (a0 : Nat) (a1 : Int) (ha0 : a0 < 34) (C : Mem) (h : wpO (f_X4_at a0 a1 C) Q) : MetC l yX4_at cX4_at 2 (some .int) 1 g [.ref (gA g (27 + a0)), .int (I (a1))] (mrg C X) (QI (fun c => mrg c X) Q) := by
  refine met_at 0 (lv := [some (.ref (gA g (27 + a0))), some (.int (I (a1)))]) (by decide) (Nat.le_of_ble_eq_true rfl) rfl rfl (fun K hK hN hr hQ => ?_)
  unfold f_X4_at at h
  refine r_iload_n hK dX4_at_0 rfl ?_
  refine r_if_lt hK dX4_at_1 (t := 22) (by decide) (wpO_lt h) (fun h => ?_) (fun h => ?_)
  · refine r_iconst hK dX4_at_22 ?_
    exact r_ireturn hK hr hQ rfl dX4_at_23 ⟨C, 0, rfl, rfl, wpO_some h⟩
  · refine r_iload_n hK dX4_at_4 rfl ?_
    refine r_aload_n hK dX4_at_5 rfl ?_
    refine r_getR (k := (27 + a0)) (k' := (61 + a0)) hK cls_4 fl_RX4_15 (by decide) (by omega) (sh_page ha0) rfl dX4_at_6 ?_
    refine r_alen (k := (61 + a0)) hK (by omega) (sh_pb ha0) (by decide) dX4_at_9 ?_
    refine r_icmp_ge hK dX4_at_10 (t := 22) (by decide) (wpO_lt h) (fun h => ?_) (fun h => ?_)
    · refine r_aload_n hK dX4_at_13 rfl ?_
      refine r_getR (k := (27 + a0)) (k' := (61 + a0)) hK cls_4 fl_RX4_15 (by decide) (by omega) (sh_page ha0) rfl dX4_at_14 ?_
      refine r_iload_n hK dX4_at_17 rfl ?_
      obtain ⟨hb18, h⟩ := wpO_ix h
      refine r_iaload (k := (61 + a0)) hK (by omega) (sh_pb ha0) (pl_lt _) hb18 dX4_at_18 (mrg_c (by omega)) ?_
      refine r_goto hK dX4_at_19 (t := 23) (by decide) ?_
      exact r_ireturn hK hr hQ rfl dX4_at_23 ⟨C, (C (61 + a0) (a1).toNat), rfl, rfl, wpO_some h⟩
    · refine r_iconst hK dX4_at_22 ?_
      exact r_ireturn hK hr hQ rfl dX4_at_23 ⟨C, 0, rfl, rfl, wpO_some h⟩
set_option maxRecDepth 100000 in
set_option maxHeartbeats 4000000 in
theorem w_X4_compare_16 {K : KT} {g : GT} {X : Mem} {dd : Nat} (hK : Kok K g cX4_compare RX4 dd) (hN : kN K = 7) (hr : (kMe K).sig.returnType = (some .int)) {Q : Mem → Int → Prop} (hQ : kQ K = MQ (kB K) (Qc g (QI (fun c => mrg c X) Q)) (kA K) (kS K) (kc K) (ks K) (gS g)) (hdd : 2 ≤ dd) (u0 : Nat) (u2 : Nat) (u3 : Int) (u4 : Int) (hu0 : u0 < 34) (hu2 : u2 < 5) (k : Int → Mem → Option (Mem × Int)) (hk : ∀ (v5 : Int) (C : Mem), wpO (k v5 C) Q → Wn K g (mrg C X) 80 [some (.ref (gA g (27 + u0))), none, some (.ref (gA g (10 + 2 * u2))), some (.int (I (u3))), some (.int (I (u4))), some (.int (I (v5))), none] []) : ∀ (n : Nat) (v5 : Int) (C : Mem), wpO (f_X4_compare_16 u0 u2 u3 u4 k n v5 C) Q → Wn K g (mrg C X) 16 [some (.ref (gA g (27 + u0))), none, some (.ref (gA g (10 + 2 * u2))), some (.int (I (u3))), some (.int (I (u4))), some (.int (I (v5))), none] [] := by
  intro n
  induction n with
  | zero => intro v5 C h; exact (wpO_none h).elim
  | succ n ih =>
    intro v5 C h
    unfold f_X4_compare_16 at h
    refine r_iload hK dX4_compare_16 rfl ?_
    refine r_bipush hK dX4_compare_18 (by decide) ?_
    refine r_icmp_ge hK dX4_compare_20 (t := 80) (by decide) (wpO_lt h) (fun h => ?_) (fun h => ?_)
    · refine r_iload hK dX4_compare_23 rfl ?_
      refine r_iload hK dX4_compare_25 rfl ?_
      refine r_jn (J := fun j44 => ∀ (s0_44 : Int) (C_44 : Mem), wpO (j44 s0_44 C_44) Q → Wn K g (mrg C_44 X) 44 [some (.ref (gA g (27 + u0))), none, some (.ref (gA g (10 + 2 * u2))), some (.int (I (u3))), some (.int (I (u4))), some (.int (I (v5))), none] [.int (I (s0_44))]) h ?_ ?_
      · intro s0_44 C_44 h
        refine r_istore hK dX4_compare_44 (by rw [hN]; decide) rfl (lv' := [some (.ref (gA g (27 + u0))), none, some (.ref (gA g (10 + 2 * u2))), some (.int (I (u3))), some (.int (I (u4))), some (.int (I (v5))), some (.int (I (s0_44)))]) rfl ?_
        refine r_iload hK dX4_compare_46 rfl ?_
        refine r_aload_n hK dX4_compare_48 rfl ?_
        refine r_iload hK dX4_compare_49 rfl ?_
        refine r_callV hK ck_X3_at im_X3_at sl_X3_at ml_RX4_54 (by omega) (c_X3_at (l := kL K) (g := g) (X := X) u2 (v5) hu2 C_44 (wpO_bd h)) cls_3 (k := (10 + 2 * u2)) (by omega) (sh_key hu2) (As := [.int (I (v5))]) (st := [.int (I (s0_44))]) rfl (Nat.le_of_ble_eq_true rfl) dX4_compare_51 (kkI (fun C51 r51 h => ?_))
        refine r_icmp_eq hK dX4_compare_54 (t := 74) (by decide) (wpO_eq h) (fun h => ?_) (fun h => ?_)
        · refine r_iinc hK dX4_compare_74 (by rw [hN]; decide) rfl rfl (lv' := [some (.ref (gA g (27 + u0))), none, some (.ref (gA g (10 + 2 * u2))), some (.int (I (u3))), some (.int (I (u4))), some (.int (I (v5 + 1))), some (.int (I (s0_44)))]) rfl ?_
          refine r_goto hK dX4_compare_77 (t := 16) (by decide) ?_
          refine r_cut [true, false, true, true, true, true, false] (lv' := [some (.ref (gA g (27 + u0))), none, some (.ref (gA g (10 + 2 * u2))), some (.int (I (u3))), some (.int (I (u4))), some (.int (I (v5 + 1))), none]) rfl ?_
          exact ih (v5 + 1) C51 h
        · refine r_iload hK dX4_compare_57 rfl ?_
          refine r_aload_n hK dX4_compare_59 rfl ?_
          refine r_iload hK dX4_compare_60 rfl ?_
          refine r_callV hK ck_X3_at im_X3_at sl_X3_at ml_RX4_54 (by omega) (c_X3_at (l := kL K) (g := g) (X := X) u2 (v5) hu2 C51 (wpO_bd h)) cls_3 (k := (10 + 2 * u2)) (by omega) (sh_key hu2) (As := [.int (I (v5))]) (st := [.int (I (s0_44))]) rfl (Nat.le_of_ble_eq_true rfl) dX4_compare_62 (kkI (fun C62 r62 h => ?_))
          refine r_icmp_ge hK dX4_compare_65 (t := 72) (by decide) (wpO_lt h) (fun h => ?_) (fun h => ?_)
          · refine r_iconst hK dX4_compare_68 ?_
            refine r_goto hK dX4_compare_69 (t := 73) (by decide) ?_
            exact r_ireturn hK hr hQ rfl dX4_compare_73 ⟨C62, (-1), rfl, rfl, wpO_some h⟩
          · refine r_iconst hK dX4_compare_72 ?_
            exact r_ireturn hK hr hQ rfl dX4_compare_73 ⟨C62, 1, rfl, rfl, wpO_some h⟩
      · intro hj44 h
        refine r_icmp_ge hK dX4_compare_27 (t := 43) (by decide) (wpO_lt h) (fun h => ?_) (fun h => ?_)
        · refine r_aload_n hK dX4_compare_30 rfl ?_
          refine r_iload_n hK dX4_compare_31 rfl ?_
          refine r_iconst hK dX4_compare_32 ?_
          refine r_iadd hK dX4_compare_33 ?_
          refine r_iload hK dX4_compare_34 rfl ?_
          refine r_iadd hK dX4_compare_36 ?_
          refine r_callV hK ck_X4_at im_X4_at sl_X4_at ml_RX4_32 (by omega) (c_X4_at (l := kL K) (g := g) (X := X) u0 ((u3 + 1) + v5) hu0 C (wpO_bd h)) cls_4 (k := (27 + u0)) (by omega) (sh_page hu0) (As := [.int (I ((u3 + 1) + v5))]) (st := []) rfl (Nat.le_of_ble_eq_true rfl) dX4_compare_37 (kkI (fun C37 r37 h => ?_))
          refine r_goto hK dX4_compare_40 (t := 44) (by decide) ?_
          exact hj44 (r37) C37 h
        · refine r_iconst hK dX4_compare_43 ?_
          exact hj44 (0) C h
    · exact hk (v5) C h
set_option maxRecDepth 100000 in
set_option maxHeartbeats 4000000 in
theorem c_X4_compare {l : Launch} {g : GT} {X : Mem} {Q : Mem → Int → Prop} (a0 : Nat) (a1 : Int) (a2 : Nat) (ha0 : a0 < 34) (ha2 : a2 < 5) (C : Mem) (h : wpO (f_X4_compare a0 a1 a2 C) Q) : MetC l yX4_compare cX4_compare 7 (some .int) 2 g [.ref (gA g (27 + a0)), .int (I (a1)), .ref (gA g (10 + 2 * a2))] (mrg C X) (QI (fun c => mrg c X) Q) := by
  refine met_at 4 (lv := [some (.ref (gA g (27 + a0))), some (.int (I (a1))), some (.ref (gA g (10 + 2 * a2))), none, none, none, none]) (by decide) (Nat.le_of_ble_eq_true rfl) rfl rfl (fun K hK hN hr hQ => ?_)
  unfold f_X4_compare at h
  refine r_aload_n hK dX4_compare_0 rfl ?_
  refine r_iload_n hK dX4_compare_1 rfl ?_
  refine r_callV hK ck_X4_offset im_X4_offset sl_X4_offset ml_RX4_28 (by omega) (c_X4_offset (l := kL K) (g := g) (X := X) a0 (a1) ha0 C (wpO_bd h)) cls_4 (k := (27 + a0)) (by omega) (sh_page ha0) (As := [.int (I (a1))]) (st := []) rfl (Nat.le_of_ble_eq_true rfl) dX4_compare_2 (kkI (fun C2 r2 h => ?_))
  refine r_istore_n hK dX4_compare_5 (by rw [hN]; decide) rfl (lv' := [some (.ref (gA g (27 + a0))), some (.int (I (a1))), some (.ref (gA g (10 + 2 * a2))), some (.int (I (r2))), none, none, none]) rfl ?_
  refine r_aload_n hK dX4_compare_6 rfl ?_
  refine r_iload_n hK dX4_compare_7 rfl ?_
  refine r_callV hK ck_X4_at im_X4_at sl_X4_at ml_RX4_32 (by omega) (c_X4_at (l := kL K) (g := g) (X := X) a0 (r2) ha0 C2 (wpO_bd h)) cls_4 (k := (27 + a0)) (by omega) (sh_page ha0) (As := [.int (I (r2))]) (st := []) rfl (Nat.le_of_ble_eq_true rfl) dX4_compare_8 (kkI (fun C8 r8 h => ?_))
  refine r_istore hK dX4_compare_11 (by rw [hN]; decide) rfl (lv' := [some (.ref (gA g (27 + a0))), some (.int (I (a1))), some (.ref (gA g (10 + 2 * a2))), some (.int (I (r2))), some (.int (I (r8))), none, none]) rfl ?_
  refine r_iconst hK dX4_compare_13 ?_
  refine r_istore hK dX4_compare_14 (by rw [hN]; decide) rfl (lv' := [some (.ref (gA g (27 + a0))), some (.int (I (a1))), some (.ref (gA g (10 + 2 * a2))), some (.int (I (r2))), some (.int (I (r8))), some (.int (I (0))), none]) rfl ?_
  refine r_cut [true, false, true, true, true, true, false] (lv' := [some (.ref (gA g (27 + a0))), none, some (.ref (gA g (10 + 2 * a2))), some (.int (I (r2))), some (.int (I (r8))), some (.int (I (0))), none]) rfl ?_
  refine w_X4_compare_16 hK hN hr hQ (by omega) a0 a2 (r2) (r8) ha0 ha2 _ (fun v5_e16 C_e16 h => ?_) FU (0) C8 h
  refine r_iconst hK dX4_compare_80 ?_
  exact r_ireturn hK hr hQ rfl dX4_compare_81 ⟨C_e16, 0, rfl, rfl, wpO_some h⟩
set_option maxRecDepth 100000 in
set_option maxHeartbeats 4000000 in
theorem w_X4_entriesBelow_2 {K : KT} {g : GT} {X : Mem} {dd : Nat} (hK : Kok K g cX4_entriesBelow RX4 dd) (hN : kN K = 4) (hr : (kMe K).sig.returnType = (some .int)) {Q : Mem → Int → Prop} (hQ : kQ K = MQ (kB K) (Qc g (QI (fun c => mrg c X) Q)) (kA K) (kS K) (kc K) (ks K) (gS g)) (hdd : 3 ≤ dd) (u0 : Nat) (u1 : Nat) (u2 : Int) (hu0 : u0 < 34) (hu1 : u1 < 5) (k : Int → Mem → Option (Mem × Int)) (hk : ∀ (v3 : Int) (C : Mem), wpO (k v3 C) Q → Wn K g (mrg C X) 34 [some (.ref (gA g (27 + u0))), some (.ref (gA g (10 + 2 * u1))), some (.int (I (u2))), some (.int (I (v3)))] []) : ∀ (n : Nat) (v3 : Int) (C : Mem), wpO (f_X4_entriesBelow_2 u0 u1 u2 k n v3 C) Q → Wn K g (mrg C X) 2 [some (.ref (gA g (27 + u0))), some (.ref (gA g (10 + 2 * u1))), some (.int (I (u2))), some (.int (I (v3)))] [] := by
  intro n
  induction n with
  | zero => intro v3 C h; exact (wpO_none h).elim
  | succ n ih =>
    intro v3 C h
    unfold f_X4_entriesBelow_2 at h
    refine r_iload_n hK dX4_entriesBelow_2 rfl ?_
    refine r_aload_n hK dX4_entriesBelow_3 rfl ?_
    refine r_callV hK ck_X4_entries im_X4_entries sl_X4_entries ml_RX4_25 (by omega) (c_X4_entries (l := kL K) (g := g) (X := X) u0 hu0 C (wpO_bd h)) cls_4 (k := (27 + u0)) (by omega) (sh_page hu0) (As := []) (st := [.int (I (v3))]) rfl (Nat.le_of_ble_eq_true rfl) dX4_entriesBelow_4 (kkI (fun C4 r4 h => ?_))
    refine r_icmp_ge hK dX4_entriesBelow_7 (t := 34) (by decide) (wpO_lt h) (fun h => ?_) (fun h => ?_)
    · refine r_aload_n hK dX4_entriesBelow_10 rfl ?_
      refine r_iload_n hK dX4_entriesBelow_11 rfl ?_
      refine r_aload_n hK dX4_entriesBelow_12 rfl ?_
      refine r_callV hK ck_X4_compare im_X4_compare sl_X4_compare ml_RX4_55 (by omega) (c_X4_compare (l := kL K) (g := g) (X := X) u0 (v3) u1 hu0 hu1 C4 (wpO_bd h)) cls_4 (k := (27 + u0)) (by omega) (sh_page hu0) (As := [.int (I (v3)), .ref (gA g (10 + 2 * u1))]) (st := []) rfl (Nat.le_of_ble_eq_true rfl) dX4_entriesBelow_13 (kkI (fun C13 r13 h => ?_))
      refine r_iload_n hK dX4_entriesBelow_16 rfl ?_
      refine r_jn (J := fun j25 => ∀ (s1_25 : Int), wpO (j25 s1_25) Q → Wn K g (mrg C13 X) 25 [some (.ref (gA g (27 + u0))), some (.ref (gA g (10 + 2 * u1))), some (.int (I (u2))), some (.int (I (v3)))] [.int (I (s1_25)), .int (I (r13))]) h ?_ ?_
      · intro s1_25 h
        refine r_icmp_ge hK dX4_entriesBelow_25 (t := 34) (by decide) (wpO_lt h) (fun h => ?_) (fun h => ?_)
        · refine r_iinc hK dX4_entriesBelow_28 (by rw [hN]; decide) rfl rfl (lv' := [some (.ref (gA g (27 + u0))), some (.ref (gA g (10 + 2 * u1))), some (.int (I (u2))), some (.int (I (v3 + 1)))]) rfl ?_
          refine r_goto hK dX4_entriesBelow_31 (t := 2) (by decide) ?_
          exact ih (v3 + 1) C13 h
        · exact hk (v3) C13 h
      · intro hj25 h
        refine r_if_eq hK dX4_entriesBelow_17 (t := 24) (by decide) (wpO_eq h) (fun h => ?_) (fun h => ?_)
        · refine r_iconst hK dX4_entriesBelow_24 ?_
          exact hj25 (0) h
        · refine r_iconst hK dX4_entriesBelow_20 ?_
          refine r_goto hK dX4_entriesBelow_21 (t := 25) (by decide) ?_
          exact hj25 (1) h
    · exact hk (v3) C4 h
set_option maxRecDepth 100000 in
set_option maxHeartbeats 4000000 in
theorem c_X4_entriesBelow {l : Launch} {g : GT} {X : Mem} {Q : Mem → Int → Prop} (a0 : Nat) (a1 : Nat) (a2 : Int) (ha0 : a0 < 34) (ha1 : a1 < 5) (C : Mem) (h : wpO (f_X4_entriesBelow a0 a1 a2 C) Q) : MetC l yX4_entriesBelow cX4_entriesBelow 4 (some .int) 3 g [.ref (gA g (27 + a0)), .ref (gA g (10 + 2 * a1)), .int (I (a2))] (mrg C X) (QI (fun c => mrg c X) Q) := by
  refine met_at 1 (lv := [some (.ref (gA g (27 + a0))), some (.ref (gA g (10 + 2 * a1))), some (.int (I (a2))), none]) (by decide) (Nat.le_of_ble_eq_true rfl) rfl rfl (fun K hK hN hr hQ => ?_)
  unfold f_X4_entriesBelow at h
  refine r_iconst hK dX4_entriesBelow_0 ?_
  refine r_istore_n hK dX4_entriesBelow_1 (by rw [hN]; decide) rfl (lv' := [some (.ref (gA g (27 + a0))), some (.ref (gA g (10 + 2 * a1))), some (.int (I (a2))), some (.int (I (0)))]) rfl ?_
  refine w_X4_entriesBelow_2 hK hN hr hQ (by omega) a0 a1 (a2) ha0 ha1 _ (fun v3_e2 C_e2 h => ?_) FU (0) C h
  refine r_iload_n hK dX4_entriesBelow_34 rfl ?_
  exact r_ireturn hK hr hQ rfl dX4_entriesBelow_35 ⟨C_e2, v3_e2, rfl, rfl, wpO_some h⟩
set_option maxRecDepth 100000 in
set_option maxHeartbeats 4000000 in
theorem c_X4_link {l : Launch} {g : GT} {X : Mem} {Q : Mem → Int → Prop} (a0 : Nat) (ha0 : a0 < 34) (C : Mem) (h : wpO (f_X4_link a0 C) Q) : MetC l yX4_link cX4_link 1 (some .int) 1 g [.ref (gA g (27 + a0))] (mrg C X) (QI (fun c => mrg c X) Q) := by
  refine met_at 0 (lv := [some (.ref (gA g (27 + a0)))]) (by decide) (Nat.le_of_ble_eq_true rfl) rfl rfl (fun K hK hN hr hQ => ?_)
  unfold f_X4_link at h
  refine r_aload_n hK dX4_link_0 rfl ?_
  refine r_getR (k := (27 + a0)) (k' := (61 + a0)) hK cls_4 fl_RX4_15 (by decide) (by omega) (sh_page ha0) rfl dX4_link_1 ?_
  refine r_iconst hK dX4_link_4 ?_
  obtain ⟨hb5, h⟩ := wpO_ix h
  refine r_iaload (k := (61 + a0)) hK (by omega) (sh_pb ha0) (pl_lt _) hb5 dX4_link_5 (mrg_c (by omega)) ?_
  exact r_ireturn hK hr hQ rfl dX4_link_6 ⟨C, (C (61 + a0) 2), rfl, rfl, wpO_some h⟩
set_option maxRecDepth 100000 in
set_option maxHeartbeats 4000000 in
theorem c_X4_child {l : Launch} {g : GT} {X : Mem} {Q : Mem → Int → Prop} (a0 : Nat) (a1 : Int) (ha0 : a0 < 34) (C : Mem) (h : wpO (f_X4_child a0 a1 C) Q) : MetC l yX4_child cX4_child 2 (some .int) 2 g [.ref (gA g (27 + a0)), .int (I (a1))] (mrg C X) (QI (fun c => mrg c X) Q) := by
  refine met_at 0 (lv := [some (.ref (gA g (27 + a0))), some (.int (I (a1)))]) (by decide) (Nat.le_of_ble_eq_true rfl) rfl rfl (fun K hK hN hr hQ => ?_)
  unfold f_X4_child at h
  refine r_iload_n hK dX4_child_0 rfl ?_
  refine r_if_le hK dX4_child_1 (t := 18) (by decide) (wpO_lt h) (fun h => ?_) (fun h => ?_)
  · refine r_aload_n hK dX4_child_4 rfl ?_
    refine r_aload_n hK dX4_child_5 rfl ?_
    refine r_iload_n hK dX4_child_6 rfl ?_
    refine r_callV hK ck_X4_offset im_X4_offset sl_X4_offset ml_RX4_28 (by omega) (c_X4_offset (l := kL K) (g := g) (X := X) a0 (a1) ha0 C (wpO_bd h)) cls_4 (k := (27 + a0)) (by omega) (sh_page ha0) (As := [.int (I (a1))]) (st := [.ref (gA g (27 + a0))]) rfl (Nat.le_of_ble_eq_true rfl) dX4_child_7 (kkI (fun C7 r7 h => ?_))
    refine r_iconst hK dX4_child_10 ?_
    refine r_isub hK dX4_child_11 ?_
    refine r_callV hK ck_X4_at im_X4_at sl_X4_at ml_RX4_32 (by omega) (c_X4_at (l := kL K) (g := g) (X := X) a0 (r7 - 1) ha0 C7 (wpO_bd h)) cls_4 (k := (27 + a0)) (by omega) (sh_page ha0) (As := [.int (I (r7 - 1))]) (st := []) rfl (Nat.le_of_ble_eq_true rfl) dX4_child_12 (kkI (fun C12 r12 h => ?_))
    refine r_goto hK dX4_child_15 (t := 22) (by decide) ?_
    exact r_ireturn hK hr hQ rfl dX4_child_22 ⟨C12, r12, rfl, rfl, wpO_some h⟩
  · refine r_aload_n hK dX4_child_18 rfl ?_
    refine r_callV hK ck_X4_link im_X4_link sl_X4_link ml_RX4_39 (by omega) (c_X4_link (l := kL K) (g := g) (X := X) a0 ha0 C (wpO_bd h)) cls_4 (k := (27 + a0)) (by omega) (sh_page ha0) (As := []) (st := []) rfl (Nat.le_of_ble_eq_true rfl) dX4_child_19 (kkI (fun C19 r19 h => ?_))
    exact r_ireturn hK hr hQ rfl dX4_child_22 ⟨C19, r19, rfl, rfl, wpO_some h⟩
set_option maxRecDepth 100000 in
set_option maxHeartbeats 4000000 in
theorem c_X4_isEntry {l : Launch} {g : GT} {X : Mem} {Q : Mem → Int → Prop} (a0 : Nat) (a1 : Int) (a2 : Nat) (ha0 : a0 < 34) (ha2 : a2 < 5) (C : Mem) (h : wpO (f_X4_isEntry a0 a1 a2 C) Q) : MetC l yX4_isEntry cX4_isEntry 3 (some .boolean) 3 g [.ref (gA g (27 + a0)), .int (I (a1)), .ref (gA g (10 + 2 * a2))] (mrg C X) (QI (fun c => mrg c X) Q) := by
  refine met_at 0 (lv := [some (.ref (gA g (27 + a0))), some (.int (I (a1))), some (.ref (gA g (10 + 2 * a2)))]) (by decide) (Nat.le_of_ble_eq_true rfl) rfl rfl (fun K hK hN hr hQ => ?_)
  unfold f_X4_isEntry at h
  refine r_iload_n hK dX4_isEntry_0 rfl ?_
  refine r_aload_n hK dX4_isEntry_1 rfl ?_
  refine r_callV hK ck_X4_entries im_X4_entries sl_X4_entries ml_RX4_25 (by omega) (c_X4_entries (l := kL K) (g := g) (X := X) a0 ha0 C (wpO_bd h)) cls_4 (k := (27 + a0)) (by omega) (sh_page ha0) (As := []) (st := [.int (I (a1))]) rfl (Nat.le_of_ble_eq_true rfl) dX4_isEntry_2 (kkI (fun C2 r2 h => ?_))
  refine r_icmp_ge hK dX4_isEntry_5 (t := 21) (by decide) (wpO_lt h) (fun h => ?_) (fun h => ?_)
  · refine r_aload_n hK dX4_isEntry_8 rfl ?_
    refine r_iload_n hK dX4_isEntry_9 rfl ?_
    refine r_aload_n hK dX4_isEntry_10 rfl ?_
    refine r_callV hK ck_X4_compare im_X4_compare sl_X4_compare ml_RX4_55 (by omega) (c_X4_compare (l := kL K) (g := g) (X := X) a0 (a1) a2 ha0 ha2 C2 (wpO_bd h)) cls_4 (k := (27 + a0)) (by omega) (sh_page ha0) (As := [.int (I (a1)), .ref (gA g (10 + 2 * a2))]) (st := []) rfl (Nat.le_of_ble_eq_true rfl) dX4_isEntry_11 (kkI (fun C11 r11 h => ?_))
    refine r_if_ne hK dX4_isEntry_14 (t := 21) (by decide) (wpO_eq h) (fun h => ?_) (fun h => ?_)
    · refine r_iconst hK dX4_isEntry_17 ?_
      refine r_goto hK dX4_isEntry_18 (t := 22) (by decide) ?_
      exact r_ireturn hK hr hQ (nar_b (by decide)) dX4_isEntry_22 ⟨C11, 1, rfl, rfl, wpO_some h⟩
    · refine r_iconst hK dX4_isEntry_21 ?_
      exact r_ireturn hK hr hQ (nar_b (by decide)) dX4_isEntry_22 ⟨C11, 0, rfl, rfl, wpO_some h⟩
  · refine r_iconst hK dX4_isEntry_21 ?_
    exact r_ireturn hK hr hQ (nar_b (by decide)) dX4_isEntry_22 ⟨C2, 0, rfl, rfl, wpO_some h⟩
set_option maxRecDepth 100000 in
set_option maxHeartbeats 4000000 in
theorem c_X4_tail {l : Launch} {g : GT} {X : Mem} {Q : Mem → Int → Prop} (a0 : Nat) (a1 : Int) (ha0 : a0 < 34) (C : Mem) (h : wpO (f_X4_tail a0 a1 C) Q) : MetC l yX4_tail cX4_tail 2 (some .int) 2 g [.ref (gA g (27 + a0)), .int (I (a1))] (mrg C X) (QI (fun c => mrg c X) Q) := by
  refine met_at 0 (lv := [some (.ref (gA g (27 + a0))), some (.int (I (a1)))]) (by decide) (Nat.le_of_ble_eq_true rfl) rfl rfl (fun K hK hN hr hQ => ?_)
  unfold f_X4_tail at h
  refine r_aload_n hK dX4_tail_0 rfl ?_
  refine r_aload_n hK dX4_tail_1 rfl ?_
  refine r_iload_n hK dX4_tail_2 rfl ?_
  refine r_iconst hK dX4_tail_3 ?_
  refine r_iadd hK dX4_tail_4 ?_
  refine r_callV hK ck_X4_offset im_X4_offset sl_X4_offset ml_RX4_28 (by omega) (c_X4_offset (l := kL K) (g := g) (X := X) a0 (a1 + 1) ha0 C (wpO_bd h)) cls_4 (k := (27 + a0)) (by omega) (sh_page ha0) (As := [.int (I (a1 + 1))]) (st := [.ref (gA g (27 + a0))]) rfl (Nat.le_of_ble_eq_true rfl) dX4_tail_5 (kkI (fun C5 r5 h => ?_))
  refine r_iconst hK dX4_tail_8 ?_
  refine r_isub hK dX4_tail_9 ?_
  refine r_callV hK ck_X4_at im_X4_at sl_X4_at ml_RX4_32 (by omega) (c_X4_at (l := kL K) (g := g) (X := X) a0 (r5 - 1) ha0 C5 (wpO_bd h)) cls_4 (k := (27 + a0)) (by omega) (sh_page ha0) (As := [.int (I (r5 - 1))]) (st := []) rfl (Nat.le_of_ble_eq_true rfl) dX4_tail_10 (kkI (fun C10 r10 h => ?_))
  exact r_ireturn hK hr hQ rfl dX4_tail_13 ⟨C10, r10, rfl, rfl, wpO_some h⟩
set_option maxRecDepth 100000 in
set_option maxHeartbeats 4000000 in
theorem c_X4_set {l : Launch} {g : GT} {X : Mem} {Q : Mem → Int → Prop} (a0 : Nat) (a1 : Int) (a2 : Int) (ha0 : a0 < 34) (C : Mem) (h : wpO (f_X4_set a0 a1 a2 C) Q) : MetC l yX4_set cX4_set 3 none 1 g [.ref (gA g (27 + a0)), .int (I (a1)), .int (I (a2))] (mrg C X) (QV (fun c => mrg c X) Q) := by
  refine met_at 0 (lv := [some (.ref (gA g (27 + a0))), some (.int (I (a1))), some (.int (I (a2)))]) (by decide) (Nat.le_of_ble_eq_true rfl) rfl rfl (fun K hK hN hr hQ => ?_)
  unfold f_X4_set at h
  refine r_iload_n hK dX4_set_0 rfl ?_
  refine r_if_lt hK dX4_set_1 (t := 20) (by decide) (wpO_lt h) (fun h => ?_) (fun h => ?_)
  · exact r_return hK hr hQ dX4_set_20 ⟨C, rfl, rfl, wpO_some h⟩
  · refine r_iload_n hK dX4_set_4 rfl ?_
    refine r_aload_n hK dX4_set_5 rfl ?_
    refine r_getR (k := (27 + a0)) (k' := (61 + a0)) hK cls_4 fl_RX4_15 (by decide) (by omega) (sh_page ha0) rfl dX4_set_6 ?_
    refine r_alen (k := (61 + a0)) hK (by omega) (sh_pb ha0) (by decide) dX4_set_9 ?_
    refine r_icmp_ge hK dX4_set_10 (t := 20) (by decide) (wpO_lt h) (fun h => ?_) (fun h => ?_)
    · refine r_aload_n hK dX4_set_13 rfl ?_
      refine r_getR (k := (27 + a0)) (k' := (61 + a0)) hK cls_4 fl_RX4_15 (by decide) (by omega) (sh_page ha0) rfl dX4_set_14 ?_
      refine r_iload_n hK dX4_set_17 rfl ?_
      refine r_iload_n hK dX4_set_18 rfl ?_
      obtain ⟨hb19, h⟩ := wpO_ix h
      refine r_iastore (k := (61 + a0)) hK (by omega) (sh_pb ha0) (pl_lt _) hb19 dX4_set_19 (up_c (by omega)) ?_
      exact r_return hK hr hQ dX4_set_20 ⟨(up C (61 + a0) (a1).toNat (a2)), rfl, rfl, wpO_some h⟩
    · exact r_return hK hr hQ dX4_set_20 ⟨C, rfl, rfl, wpO_some h⟩
set_option maxRecDepth 100000 in
set_option maxHeartbeats 4000000 in
theorem c_X4_setTail {l : Launch} {g : GT} {X : Mem} {Q : Mem → Int → Prop} (a0 : Nat) (a1 : Int) (a2 : Int) (ha0 : a0 < 34) (C : Mem) (h : wpO (f_X4_setTail a0 a1 a2 C) Q) : MetC l yX4_setTail cX4_setTail 3 none 2 g [.ref (gA g (27 + a0)), .int (I (a1)), .int (I (a2))] (mrg C X) (QV (fun c => mrg c X) Q) := by
  refine met_at 0 (lv := [some (.ref (gA g (27 + a0))), some (.int (I (a1))), some (.int (I (a2)))]) (by decide) (Nat.le_of_ble_eq_true rfl) rfl rfl (fun K hK hN hr hQ => ?_)
  unfold f_X4_setTail at h
  refine r_aload_n hK dX4_setTail_0 rfl ?_
  refine r_aload_n hK dX4_setTail_1 rfl ?_
  refine r_iload_n hK dX4_setTail_2 rfl ?_
  refine r_iconst hK dX4_setTail_3 ?_
  refine r_iadd hK dX4_setTail_4 ?_
  refine r_callV hK ck_X4_offset im_X4_offset sl_X4_offset ml_RX4_28 (by omega) (c_X4_offset (l := kL K) (g := g) (X := X) a0 (a1 + 1) ha0 C (wpO_bd h)) cls_4 (k := (27 + a0)) (by omega) (sh_page ha0) (As := [.int (I (a1 + 1))]) (st := [.ref (gA g (27 + a0))]) rfl (Nat.le_of_ble_eq_true rfl) dX4_setTail_5 (kkI (fun C5 r5 h => ?_))
  refine r_iconst hK dX4_setTail_8 ?_
  refine r_isub hK dX4_setTail_9 ?_
  refine r_iload_n hK dX4_setTail_10 rfl ?_
  refine r_callV hK ck_X4_set im_X4_set sl_X4_set ml_RX4_35 (by omega) (c_X4_set (l := kL K) (g := g) (X := X) a0 (r5 - 1) (a2) ha0 C5 (wpO_bd h)) cls_4 (k := (27 + a0)) (by omega) (sh_page ha0) (As := [.int (I (r5 - 1)), .int (I (a2))]) (st := []) rfl (Nat.le_of_ble_eq_true rfl) dX4_setTail_11 (kkV (fun C11 h => ?_))
  exact r_return hK hr hQ dX4_setTail_14 ⟨C11, rfl, rfl, wpO_some h⟩
set_option maxRecDepth 100000 in
set_option maxHeartbeats 4000000 in
theorem c_X4_sort {l : Launch} {g : GT} {X : Mem} {Q : Mem → Int → Prop} (a0 : Nat) (ha0 : a0 < 34) (C : Mem) (h : wpO (f_X4_sort a0 C) Q) : MetC l yX4_sort cX4_sort 1 (some .int) 1 g [.ref (gA g (27 + a0))] (mrg C X) (QI (fun c => mrg c X) Q) := by
  refine met_at 0 (lv := [some (.ref (gA g (27 + a0)))]) (by decide) (Nat.le_of_ble_eq_true rfl) rfl rfl (fun K hK hN hr hQ => ?_)
  unfold f_X4_sort at h
  refine r_aload_n hK dX4_sort_0 rfl ?_
  refine r_getR (k := (27 + a0)) (k' := (61 + a0)) hK cls_4 fl_RX4_15 (by decide) (by omega) (sh_page ha0) rfl dX4_sort_1 ?_
  refine r_iconst hK dX4_sort_4 ?_
  obtain ⟨hb5, h⟩ := wpO_ix h
  refine r_iaload (k := (61 + a0)) hK (by omega) (sh_pb ha0) (pl_lt _) hb5 dX4_sort_5 (mrg_c (by omega)) ?_
  exact r_ireturn hK hr hQ rfl dX4_sort_6 ⟨C, (C (61 + a0) 0), rfl, rfl, wpO_some h⟩
set_option maxRecDepth 100000 in
set_option maxHeartbeats 4000000 in
theorem w_X4_copyFrom_2 {K : KT} {g : GT} {X : Mem} {dd : Nat} (hK : Kok K g cX4_copyFrom RX4 dd) (hN : kN K = 3) (hr : (kMe K).sig.returnType = none) {Q : Mem → Int → Prop} (hQ : kQ K = MQ (kB K) (Qc g (QV (fun c => mrg c X) Q)) (kA K) (kS K) (kc K) (ks K) (gS g)) (hdd : 2 ≤ dd) (u0 : Nat) (u1 : Nat) (hu0 : u0 < 34) (hu1 : u1 < 34) (k : Int → Mem → Option (Mem × Int)) (hk : ∀ (v2 : Int) (C : Mem), wpO (k v2 C) Q → Wn K g (mrg C X) 28 [some (.ref (gA g (27 + u0))), some (.ref (gA g (27 + u1))), some (.int (I (v2)))] []) : ∀ (n : Nat) (v2 : Int) (C : Mem), wpO (f_X4_copyFrom_2 u0 u1 k n v2 C) Q → Wn K g (mrg C X) 2 [some (.ref (gA g (27 + u0))), some (.ref (gA g (27 + u1))), some (.int (I (v2)))] [] := by
  intro n
  induction n with
  | zero => intro v2 C h; exact (wpO_none h).elim
  | succ n ih =>
    intro v2 C h
    unfold f_X4_copyFrom_2 at h
    refine r_iload_n hK dX4_copyFrom_2 rfl ?_
    refine r_aload_n hK dX4_copyFrom_3 rfl ?_
    refine r_getR (k := (27 + u0)) (k' := (61 + u0)) hK cls_4 fl_RX4_15 (by decide) (by omega) (sh_page hu0) rfl dX4_copyFrom_4 ?_
    refine r_alen (k := (61 + u0)) hK (by omega) (sh_pb hu0) (by decide) dX4_copyFrom_7 ?_
    refine r_icmp_ge hK dX4_copyFrom_8 (t := 28) (by decide) (wpO_lt h) (fun h => ?_) (fun h => ?_)
    · refine r_aload_n hK dX4_copyFrom_11 rfl ?_
      refine r_getR (k := (27 + u0)) (k' := (61 + u0)) hK cls_4 fl_RX4_15 (by decide) (by omega) (sh_page hu0) rfl dX4_copyFrom_12 ?_
      refine r_iload_n hK dX4_copyFrom_15 rfl ?_
      refine r_aload_n hK dX4_copyFrom_16 rfl ?_
      refine r_iload_n hK dX4_copyFrom_17 rfl ?_
      refine r_callV hK ck_X4_at im_X4_at sl_X4_at ml_RX4_32 (by omega) (c_X4_at (l := kL K) (g := g) (X := X) u1 (v2) hu1 C (wpO_bd h)) cls_4 (k := (27 + u1)) (by omega) (sh_page hu1) (As := [.int (I (v2))]) (st := [.int (I (v2)), .ref (gA g (61 + u0))]) rfl (Nat.le_of_ble_eq_true rfl) dX4_copyFrom_18 (kkI (fun C18 r18 h => ?_))
      obtain ⟨hb21, h⟩ := wpO_ix h
      refine r_iastore (k := (61 + u0)) hK (by omega) (sh_pb hu0) (pl_lt _) hb21 dX4_copyFrom_21 (up_c (by omega)) ?_
      refine r_iinc hK dX4_copyFrom_22 (by rw [hN]; decide) rfl rfl (lv' := [some (.ref (gA g (27 + u0))), some (.ref (gA g (27 + u1))), some (.int (I (v2 + 1)))]) rfl ?_
      refine r_goto hK dX4_copyFrom_25 (t := 2) (by decide) ?_
      exact ih (v2 + 1) (up C18 (61 + u0) (v2).toNat (r18)) h
    · exact hk (v2) C h
set_option maxRecDepth 100000 in
set_option maxHeartbeats 4000000 in
theorem c_X4_copyFrom {l : Launch} {g : GT} {X : Mem} {Q : Mem → Int → Prop} (a0 : Nat) (a1 : Nat) (ha0 : a0 < 34) (ha1 : a1 < 34) (C : Mem) (h : wpO (f_X4_copyFrom a0 a1 C) Q) : MetC l yX4_copyFrom cX4_copyFrom 3 none 2 g [.ref (gA g (27 + a0)), .ref (gA g (27 + a1))] (mrg C X) (QV (fun c => mrg c X) Q) := by
  refine met_at 1 (lv := [some (.ref (gA g (27 + a0))), some (.ref (gA g (27 + a1))), none]) (by decide) (Nat.le_of_ble_eq_true rfl) rfl rfl (fun K hK hN hr hQ => ?_)
  unfold f_X4_copyFrom at h
  refine r_iconst hK dX4_copyFrom_0 ?_
  refine r_istore_n hK dX4_copyFrom_1 (by rw [hN]; decide) rfl (lv' := [some (.ref (gA g (27 + a0))), some (.ref (gA g (27 + a1))), some (.int (I (0)))]) rfl ?_
  refine w_X4_copyFrom_2 hK hN hr hQ (by omega) a0 a1 ha0 ha1 _ (fun v2_e2 C_e2 h => ?_) FU (0) C h
  exact r_return hK hr hQ dX4_copyFrom_28 ⟨C_e2, rfl, rfl, wpO_some h⟩
set_option maxRecDepth 100000 in
set_option maxHeartbeats 4000000 in
theorem w_X4_insert_27 {K : KT} {g : GT} {X : Mem} {dd : Nat} (hK : Kok K g cX4_insert RX4 dd) (hN : kN K = 7) (hr : (kMe K).sig.returnType = none) {Q : Mem → Int → Prop} (hQ : kQ K = MQ (kB K) (Qc g (QV (fun c => mrg c X) Q)) (kA K) (kS K) (kc K) (ks K) (gS g)) (hdd : 2 ≤ dd) (u0 : Nat) (u2 : Nat) (u3 : Int) (u4 : Int) (u5 : Int) (hu0 : u0 < 34) (hu2 : u2 < 5) (k : Int → Mem → Option (Mem × Int)) (hk : ∀ (v6 : Int) (C : Mem), wpO (k v6 C) Q → Wn K g (mrg C X) 55 [some (.ref (gA g (27 + u0))), none, some (.ref (gA g (10 + 2 * u2))), some (.int (I (u3))), some (.int (I (u4))), some (.int (I (u5))), some (.int (I (v6)))] []) : ∀ (n : Nat) (v6 : Int) (C : Mem), wpO (f_X4_insert_27 u0 u2 u3 u4 u5 k n v6 C) Q → Wn K g (mrg C X) 27 [some (.ref (gA g (27 + u0))), none, some (.ref (gA g (10 + 2 * u2))), some (.int (I (u3))), some (.int (I (u4))), some (.int (I (u5))), some (.int (I (v6)))] [] := by
  intro n
  induction n with
  | zero => intro v6 C h; exact (wpO_none h).elim
  | succ n ih =>
    intro v6 C h
    unfold f_X4_insert_27 at h
    refine r_iload hK dX4_insert_27 rfl ?_
    refine r_iload hK dX4_insert_29 rfl ?_
    refine r_icmp_lt hK dX4_insert_31 (t := 55) (by decide) (wpO_lt h) (fun h => ?_) (fun h => ?_)
    · exact hk (v6) C h
    · refine r_aload_n hK dX4_insert_34 rfl ?_
      refine r_iload hK dX4_insert_35 rfl ?_
      refine r_iload hK dX4_insert_37 rfl ?_
      refine r_iadd hK dX4_insert_39 ?_
      refine r_aload_n hK dX4_insert_40 rfl ?_
      refine r_iload hK dX4_insert_41 rfl ?_
      refine r_callV hK ck_X4_at im_X4_at sl_X4_at ml_RX4_32 (by omega) (c_X4_at (l := kL K) (g := g) (X := X) u0 (v6) hu0 C (wpO_bd h)) cls_4 (k := (27 + u0)) (by omega) (sh_page hu0) (As := [.int (I (v6))]) (st := [.int (I (v6 + u5)), .ref (gA g (27 + u0))]) rfl (Nat.le_of_ble_eq_true rfl) dX4_insert_43 (kkI (fun C43 r43 h => ?_))
      refine r_callV hK ck_X4_set im_X4_set sl_X4_set ml_RX4_35 (by omega) (c_X4_set (l := kL K) (g := g) (X := X) u0 (v6 + u5) (r43) hu0 C43 (wpO_bd h)) cls_4 (k := (27 + u0)) (by omega) (sh_page hu0) (As := [.int (I (v6 + u5)), .int (I (r43))]) (st := []) rfl (Nat.le_of_ble_eq_true rfl) dX4_insert_46 (kkV (fun C46 h => ?_))
      refine r_iinc hK dX4_insert_49 (by rw [hN]; decide) rfl rfl (lv' := [some (.ref (gA g (27 + u0))), none, some (.ref (gA g (10 + 2 * u2))), some (.int (I (u3))), some (.int (I (u4))), some (.int (I (u5))), some (.int (I (v6 + (-1))))]) rfl ?_
      refine r_goto hK dX4_insert_52 (t := 27) (by decide) ?_
      exact ih (v6 + (-1)) C46 h
set_option maxRecDepth 100000 in
set_option maxHeartbeats 4000000 in
theorem w_X4_insert_68 {K : KT} {g : GT} {X : Mem} {dd : Nat} (hK : Kok K g cX4_insert RX4 dd) (hN : kN K = 7) (hr : (kMe K).sig.returnType = none) {Q : Mem → Int → Prop} (hQ : kQ K = MQ (kB K) (Qc g (QV (fun c => mrg c X) Q)) (kA K) (kS K) (kc K) (ks K) (gS g)) (hdd : 2 ≤ dd) (u0 : Nat) (u2 : Nat) (u3 : Int) (u4 : Int) (u5 : Int) (hu0 : u0 < 34) (hu2 : u2 < 5) (k : Int → Mem → Option (Mem × Int)) (hk : ∀ (v6 : Int) (C : Mem), wpO (k v6 C) Q → Wn K g (mrg C X) 100 [some (.ref (gA g (27 + u0))), none, some (.ref (gA g (10 + 2 * u2))), some (.int (I (u3))), some (.int (I (u4))), some (.int (I (u5))), some (.int (I (v6)))] []) : ∀ (n : Nat) (v6 : Int) (C : Mem), wpO (f_X4_insert_68 u0 u2 u3 u4 u5 k n v6 C) Q → Wn K g (mrg C X) 68 [some (.ref (gA g (27 + u0))), none, some (.ref (gA g (10 + 2 * u2))), some (.int (I (u3))), some (.int (I (u4))), some (.int (I (u5))), some (.int (I (v6)))] [] := by
  intro n
  induction n with
  | zero => intro v6 C h; exact (wpO_none h).elim
  | succ n ih =>
    intro v6 C h
    unfold f_X4_insert_68 at h
    refine r_iload hK dX4_insert_68 rfl ?_
    refine r_aload_n hK dX4_insert_70 rfl ?_
    refine r_getIN (k := (10 + 2 * u2)) hK cls_3 fl_RX4_59 (by decide) (by omega) (sh_key hu2) rfl dX4_insert_71 (mrg_c (by omega)) ?_
    refine r_icmp_ge hK dX4_insert_74 (t := 100) (by decide) (wpO_lt h) (fun h => ?_) (fun h => ?_)
    · refine r_aload_n hK dX4_insert_77 rfl ?_
      refine r_iload hK dX4_insert_78 rfl ?_
      refine r_iconst hK dX4_insert_80 ?_
      refine r_iadd hK dX4_insert_81 ?_
      refine r_iload hK dX4_insert_82 rfl ?_
      refine r_iadd hK dX4_insert_84 ?_
      refine r_aload_n hK dX4_insert_85 rfl ?_
      refine r_iload hK dX4_insert_86 rfl ?_
      refine r_callV hK ck_X3_at im_X3_at sl_X3_at ml_RX4_54 (by omega) (c_X3_at (l := kL K) (g := g) (X := X) u2 (v6) hu2 C (wpO_bd h)) cls_3 (k := (10 + 2 * u2)) (by omega) (sh_key hu2) (As := [.int (I (v6))]) (st := [.int (I ((u4 + 1) + v6)), .ref (gA g (27 + u0))]) rfl (Nat.le_of_ble_eq_true rfl) dX4_insert_88 (kkI (fun C88 r88 h => ?_))
      refine r_callV hK ck_X4_set im_X4_set sl_X4_set ml_RX4_35 (by omega) (c_X4_set (l := kL K) (g := g) (X := X) u0 ((u4 + 1) + v6) (r88) hu0 C88 (wpO_bd h)) cls_4 (k := (27 + u0)) (by omega) (sh_page hu0) (As := [.int (I ((u4 + 1) + v6)), .int (I (r88))]) (st := []) rfl (Nat.le_of_ble_eq_true rfl) dX4_insert_91 (kkV (fun C91 h => ?_))
      refine r_iinc hK dX4_insert_94 (by rw [hN]; decide) rfl rfl (lv' := [some (.ref (gA g (27 + u0))), none, some (.ref (gA g (10 + 2 * u2))), some (.int (I (u3))), some (.int (I (u4))), some (.int (I (u5))), some (.int (I (v6 + 1)))]) rfl ?_
      refine r_goto hK dX4_insert_97 (t := 68) (by decide) ?_
      exact ih (v6 + 1) C91 h
    · exact hk (v6) C h
set_option maxRecDepth 100000 in
set_option maxHeartbeats 4000000 in
theorem c_X4_insert {l : Launch} {g : GT} {X : Mem} {Q : Mem → Int → Prop} (a0 : Nat) (a1 : Int) (a2 : Nat) (a3 : Int) (ha0 : a0 < 34) (ha2 : a2 < 5) (C : Mem) (h : wpO (f_X4_insert a0 a1 a2 a3 C) Q) : MetC l yX4_insert cX4_insert 7 none 2 g [.ref (gA g (27 + a0)), .int (I (a1)), .ref (gA g (10 + 2 * a2)), .int (I (a3))] (mrg C X) (QV (fun c => mrg c X) Q) := by
  refine met_at 3 (lv := [some (.ref (gA g (27 + a0))), some (.int (I (a1))), some (.ref (gA g (10 + 2 * a2))), some (.int (I (a3))), none, none, none]) (by decide) (Nat.le_of_ble_eq_true rfl) rfl rfl (fun K hK hN hr hQ => ?_)
  unfold f_X4_insert at h
  refine r_aload_n hK dX4_insert_0 rfl ?_
  refine r_iload_n hK dX4_insert_1 rfl ?_
  refine r_callV hK ck_X4_offset im_X4_offset sl_X4_offset ml_RX4_28 (by omega) (c_X4_offset (l := kL K) (g := g) (X := X) a0 (a1) ha0 C (wpO_bd h)) cls_4 (k := (27 + a0)) (by omega) (sh_page ha0) (As := [.int (I (a1))]) (st := []) rfl (Nat.le_of_ble_eq_true rfl) dX4_insert_2 (kkI (fun C2 r2 h => ?_))
  refine r_istore hK dX4_insert_5 (by rw [hN]; decide) rfl (lv' := [some (.ref (gA g (27 + a0))), some (.int (I (a1))), some (.ref (gA g (10 + 2 * a2))), some (.int (I (a3))), some (.int (I (r2))), none, none]) rfl ?_
  refine r_aload_n hK dX4_insert_7 rfl ?_
  refine r_getIN (k := (10 + 2 * a2)) hK cls_3 fl_RX4_59 (by decide) (by omega) (sh_key ha2) rfl dX4_insert_8 (mrg_c (by omega)) ?_
  refine r_iconst hK dX4_insert_11 ?_
  refine r_iadd hK dX4_insert_12 ?_
  refine r_istore hK dX4_insert_13 (by rw [hN]; decide) rfl (lv' := [some (.ref (gA g (27 + a0))), some (.int (I (a1))), some (.ref (gA g (10 + 2 * a2))), some (.int (I (a3))), some (.int (I (r2))), some (.int (I ((C2 (10 + 2 * a2) 1) + 2))), none]) rfl ?_
  refine r_aload_n hK dX4_insert_15 rfl ?_
  refine r_aload_n hK dX4_insert_16 rfl ?_
  refine r_callV hK ck_X4_entries im_X4_entries sl_X4_entries ml_RX4_25 (by omega) (c_X4_entries (l := kL K) (g := g) (X := X) a0 ha0 C2 (wpO_bd h)) cls_4 (k := (27 + a0)) (by omega) (sh_page ha0) (As := []) (st := [.ref (gA g (27 + a0))]) rfl (Nat.le_of_ble_eq_true rfl) dX4_insert_17 (kkI (fun C17 r17 h => ?_))
  refine r_callV hK ck_X4_offset im_X4_offset sl_X4_offset ml_RX4_28 (by omega) (c_X4_offset (l := kL K) (g := g) (X := X) a0 (r17) ha0 C17 (wpO_bd h)) cls_4 (k := (27 + a0)) (by omega) (sh_page ha0) (As := [.int (I (r17))]) (st := []) rfl (Nat.le_of_ble_eq_true rfl) dX4_insert_20 (kkI (fun C20 r20 h => ?_))
  refine r_iconst hK dX4_insert_23 ?_
  refine r_isub hK dX4_insert_24 ?_
  refine r_istore hK dX4_insert_25 (by rw [hN]; decide) rfl (lv' := [some (.ref (gA g (27 + a0))), some (.int (I (a1))), some (.ref (gA g (10 + 2 * a2))), some (.int (I (a3))), some (.int (I (r2))), some (.int (I ((C2 (10 + 2 * a2) 1) + 2))), some (.int (I (r20 - 1)))]) rfl ?_
  refine r_cut [true, false, true, true, true, true, true] (lv' := [some (.ref (gA g (27 + a0))), none, some (.ref (gA g (10 + 2 * a2))), some (.int (I (a3))), some (.int (I (r2))), some (.int (I ((C2 (10 + 2 * a2) 1) + 2))), some (.int (I (r20 - 1)))]) rfl ?_
  refine w_X4_insert_27 hK hN hr hQ (by omega) a0 a2 (a3) (r2) ((C2 (10 + 2 * a2) 1) + 2) ha0 ha2 _ (fun v6_e27 C_e27 h => ?_) FU (r20 - 1) C20 h
  refine r_aload_n hK dX4_insert_55 rfl ?_
  refine r_iload hK dX4_insert_56 rfl ?_
  refine r_aload_n hK dX4_insert_58 rfl ?_
  refine r_getIN (k := (10 + 2 * a2)) hK cls_3 fl_RX4_59 (by decide) (by omega) (sh_key ha2) rfl dX4_insert_59 (mrg_c (by omega)) ?_
  refine r_callV hK ck_X4_set im_X4_set sl_X4_set ml_RX4_35 (by omega) (c_X4_set (l := kL K) (g := g) (X := X) a0 (r2) (C_e27 (10 + 2 * a2) 1) ha0 C_e27 (wpO_bd h)) cls_4 (k := (27 + a0)) (by omega) (sh_page ha0) (As := [.int (I (r2)), .int (I (C_e27 (10 + 2 * a2) 1))]) (st := []) rfl (Nat.le_of_ble_eq_true rfl) dX4_insert_62 (kkV (fun C62 h => ?_))
  refine r_iconst hK dX4_insert_65 ?_
  refine r_istore hK dX4_insert_66 (by rw [hN]; decide) rfl (lv' := [some (.ref (gA g (27 + a0))), none, some (.ref (gA g (10 + 2 * a2))), some (.int (I (a3))), some (.int (I (r2))), some (.int (I ((C2 (10 + 2 * a2) 1) + 2))), some (.int (I (0)))]) rfl ?_
  refine w_X4_insert_68 hK hN hr hQ (by omega) a0 a2 (a3) (r2) ((C2 (10 + 2 * a2) 1) + 2) ha0 ha2 _ (fun v6_e68 C_e68 h => ?_) FU (0) C62 h
  refine r_aload_n hK dX4_insert_100 rfl ?_
  refine r_iload hK dX4_insert_101 rfl ?_
  refine r_iload hK dX4_insert_103 rfl ?_
  refine r_iadd hK dX4_insert_105 ?_
  refine r_iconst hK dX4_insert_106 ?_
  refine r_isub hK dX4_insert_107 ?_
  refine r_iload_n hK dX4_insert_108 rfl ?_
  refine r_callV hK ck_X4_set im_X4_set sl_X4_set ml_RX4_35 (by omega) (c_X4_set (l := kL K) (g := g) (X := X) a0 ((r2 + ((C2 (10 + 2 * a2) 1) + 2)) - 1) (a3) ha0 C_e68 (wpO_bd h)) cls_4 (k := (27 + a0)) (by omega) (sh_page ha0) (As := [.int (I ((r2 + ((C2 (10 + 2 * a2) 1) + 2)) - 1)), .int (I (a3))]) (st := []) rfl (Nat.le_of_ble_eq_true rfl) dX4_insert_109 (kkV (fun C109 h => ?_))
  refine r_aload_n hK dX4_insert_112 rfl ?_
  refine r_getR (k := (27 + a0)) (k' := (61 + a0)) hK cls_4 fl_RX4_15 (by decide) (by omega) (sh_page ha0) rfl dX4_insert_113 ?_
  refine r_iconst hK dX4_insert_116 ?_
  refine r_dup2 hK dX4_insert_117 rfl rfl ?_
  obtain ⟨hb118, h⟩ := wpO_ix h
  refine r_iaload (k := (61 + a0)) hK (by omega) (sh_pb ha0) (pl_lt _) hb118 dX4_insert_118 (mrg_c (by omega)) ?_
  refine r_iconst hK dX4_insert_119 ?_
  refine r_iadd hK dX4_insert_120 ?_
  obtain ⟨hb121, h⟩ := wpO_ix h
  refine r_iastore (k := (61 + a0)) hK (by omega) (sh_pb ha0) (pl_lt _) hb121 dX4_insert_121 (up_c (by omega)) ?_
  exact r_return hK hr hQ dX4_insert_122 ⟨(up C109 (61 + a0) 1 ((C109 (61 + a0) 1) + 1)), rfl, rfl, wpO_some h⟩
set_option maxRecDepth 100000 in
set_option maxHeartbeats 4000000 in
theorem c_X4_used {l : Launch} {g : GT} {X : Mem} {Q : Mem → Int → Prop} (a0 : Nat) (ha0 : a0 < 34) (C : Mem) (h : wpO (f_X4_used a0 C) Q) : MetC l yX4_used cX4_used 1 (some .int) 2 g [.ref (gA g (27 + a0))] (mrg C X) (QI (fun c => mrg c X) Q) := by
  refine met_at 0 (lv := [some (.ref (gA g (27 + a0)))]) (by decide) (Nat.le_of_ble_eq_true rfl) rfl rfl (fun K hK hN hr hQ => ?_)
  unfold f_X4_used at h
  refine r_aload_n hK dX4_used_0 rfl ?_
  refine r_callV hK ck_X4_sort im_X4_sort sl_X4_sort ml_RX4_21 (by omega) (c_X4_sort (l := kL K) (g := g) (X := X) a0 ha0 C (wpO_bd h)) cls_4 (k := (27 + a0)) (by omega) (sh_page ha0) (As := []) (st := []) rfl (Nat.le_of_ble_eq_true rfl) dX4_used_1 (kkI (fun C1 r1 h => ?_))
  refine r_if_ne hK dX4_used_4 (t := 11) (by decide) (wpO_eq h) (fun h => ?_) (fun h => ?_)
  · refine r_iconst hK dX4_used_7 ?_
    refine r_goto hK dX4_used_8 (t := 19) (by decide) ?_
    exact r_ireturn hK hr hQ rfl dX4_used_19 ⟨C1, 0, rfl, rfl, wpO_some h⟩
  · refine r_aload_n hK dX4_used_11 rfl ?_
    refine r_aload_n hK dX4_used_12 rfl ?_
    refine r_callV hK ck_X4_entries im_X4_entries sl_X4_entries ml_RX4_25 (by omega) (c_X4_entries (l := kL K) (g := g) (X := X) a0 ha0 C1 (wpO_bd h)) cls_4 (k := (27 + a0)) (by omega) (sh_page ha0) (As := []) (st := [.ref (gA g (27 + a0))]) rfl (Nat.le_of_ble_eq_true rfl) dX4_used_13 (kkI (fun C13 r13 h => ?_))
    refine r_callV hK ck_X4_offset im_X4_offset sl_X4_offset ml_RX4_28 (by omega) (c_X4_offset (l := kL K) (g := g) (X := X) a0 (r13) ha0 C13 (wpO_bd h)) cls_4 (k := (27 + a0)) (by omega) (sh_page ha0) (As := [.int (I (r13))]) (st := []) rfl (Nat.le_of_ble_eq_true rfl) dX4_used_16 (kkI (fun C16 r16 h => ?_))
    exact r_ireturn hK hr hQ rfl dX4_used_19 ⟨C16, r16, rfl, rfl, wpO_some h⟩
set_option maxRecDepth 100000 in
set_option maxHeartbeats 4000000 in
theorem c_X4_setLink {l : Launch} {g : GT} {X : Mem} {Q : Mem → Int → Prop} (a0 : Nat) (a1 : Int) (ha0 : a0 < 34) (C : Mem) (h : wpO (f_X4_setLink a0 a1 C) Q) : MetC l yX4_setLink cX4_setLink 2 none 1 g [.ref (gA g (27 + a0)), .int (I (a1))] (mrg C X) (QV (fun c => mrg c X) Q) := by
  refine met_at 0 (lv := [some (.ref (gA g (27 + a0))), some (.int (I (a1)))]) (by decide) (Nat.le_of_ble_eq_true rfl) rfl rfl (fun K hK hN hr hQ => ?_)
  unfold f_X4_setLink at h
  refine r_aload_n hK dX4_setLink_0 rfl ?_
  refine r_getR (k := (27 + a0)) (k' := (61 + a0)) hK cls_4 fl_RX4_15 (by decide) (by omega) (sh_page ha0) rfl dX4_setLink_1 ?_
  refine r_iconst hK dX4_setLink_4 ?_
  refine r_iload_n hK dX4_setLink_5 rfl ?_
  obtain ⟨hb6, h⟩ := wpO_ix h
  refine r_iastore (k := (61 + a0)) hK (by omega) (sh_pb ha0) (pl_lt _) hb6 dX4_setLink_6 (up_c (by omega)) ?_
  exact r_return hK hr hQ dX4_setLink_7 ⟨(up C (61 + a0) 2 (a1)), rfl, rfl, wpO_some h⟩
set_option maxRecDepth 100000 in
set_option maxHeartbeats 4000000 in
theorem w_X4_half_13 {K : KT} {g : GT} {X : Mem} {dd : Nat} (hK : Kok K g cX4_half RX4 dd) (hN : kN K = 3) (hr : (kMe K).sig.returnType = (some .int)) {Q : Mem → Int → Prop} (hQ : kQ K = MQ (kB K) (Qc g (QI (fun c => mrg c X) Q)) (kA K) (kS K) (kc K) (ks K) (gS g)) (hdd : 2 ≤ dd) (u0 : Nat) (u1 : Int) (hu0 : u0 < 34) (k : Int → Mem → Option (Mem × Int)) (hk : ∀ (v2 : Int) (C : Mem), wpO (k v2 C) Q → Wn K g (mrg C X) 40 [some (.ref (gA g (27 + u0))), some (.int (I (u1))), some (.int (I (v2)))] []) : ∀ (n : Nat) (v2 : Int) (C : Mem), wpO (f_X4_half_13 u0 u1 k n v2 C) Q → Wn K g (mrg C X) 13 [some (.ref (gA g (27 + u0))), some (.int (I (u1))), some (.int (I (v2)))] [] := by
  intro n
  induction n with
  | zero => intro v2 C h; exact (wpO_none h).elim
  | succ n ih =>
    intro v2 C h
    unfold f_X4_half_13 at h
    refine r_iload_n hK dX4_half_13 rfl ?_
    refine r_aload_n hK dX4_half_14 rfl ?_
    refine r_callV hK ck_X4_entries im_X4_entries sl_X4_entries ml_RX4_25 (by omega) (c_X4_entries (l := kL K) (g := g) (X := X) u0 hu0 C (wpO_bd h)) cls_4 (k := (27 + u0)) (by omega) (sh_page hu0) (As := []) (st := [.int (I (v2))]) rfl (Nat.le_of_ble_eq_true rfl) dX4_half_15 (kkI (fun C15 r15 h => ?_))
    refine r_icmp_ge hK dX4_half_18 (t := 40) (by decide) (wpO_lt h) (fun h => ?_) (fun h => ?_)
    · refine r_iconst hK dX4_half_21 ?_
      refine r_aload_n hK dX4_half_22 rfl ?_
      refine r_iload_n hK dX4_half_23 rfl ?_
      refine r_callV hK ck_X4_offset im_X4_offset sl_X4_offset ml_RX4_28 (by omega) (c_X4_offset (l := kL K) (g := g) (X := X) u0 (v2) hu0 C15 (wpO_bd h)) cls_4 (k := (27 + u0)) (by omega) (sh_page hu0) (As := [.int (I (v2))]) (st := [.int (I (2))]) rfl (Nat.le_of_ble_eq_true rfl) dX4_half_24 (kkI (fun C24 r24 h => ?_))
      refine r_iconst hK dX4_half_27 ?_
      refine r_isub hK dX4_half_28 ?_
      refine r_imul hK dX4_half_29 ?_
      refine r_iload_n hK dX4_half_30 rfl ?_
      refine r_icmp_ge hK dX4_half_31 (t := 40) (by decide) (wpO_lt h) (fun h => ?_) (fun h => ?_)
      · refine r_iinc hK dX4_half_34 (by rw [hN]; decide) rfl rfl (lv' := [some (.ref (gA g (27 + u0))), some (.int (I (u1))), some (.int (I (v2 + 1)))]) rfl ?_
        refine r_goto hK dX4_half_37 (t := 13) (by decide) ?_
        exact ih (v2 + 1) C24 h
      · exact hk (v2) C24 h
    · exact hk (v2) C15 h
set_option maxRecDepth 100000 in
set_option maxHeartbeats 4000000 in
theorem c_X4_half {l : Launch} {g : GT} {X : Mem} {Q : Mem → Int → Prop} (a0 : Nat) (ha0 : a0 < 34) (C : Mem) (h : wpO (f_X4_half a0 C) Q) : MetC l yX4_half cX4_half 3 (some .int) 2 g [.ref (gA g (27 + a0))] (mrg C X) (QI (fun c => mrg c X) Q) := by
  refine met_at 2 (lv := [some (.ref (gA g (27 + a0))), none, none]) (by decide) (Nat.le_of_ble_eq_true rfl) rfl rfl (fun K hK hN hr hQ => ?_)
  unfold f_X4_half at h
  refine r_aload_n hK dX4_half_0 rfl ?_
  refine r_aload_n hK dX4_half_1 rfl ?_
  refine r_callV hK ck_X4_entries im_X4_entries sl_X4_entries ml_RX4_25 (by omega) (c_X4_entries (l := kL K) (g := g) (X := X) a0 ha0 C (wpO_bd h)) cls_4 (k := (27 + a0)) (by omega) (sh_page ha0) (As := []) (st := [.ref (gA g (27 + a0))]) rfl (Nat.le_of_ble_eq_true rfl) dX4_half_2 (kkI (fun C2 r2 h => ?_))
  refine r_callV hK ck_X4_offset im_X4_offset sl_X4_offset ml_RX4_28 (by omega) (c_X4_offset (l := kL K) (g := g) (X := X) a0 (r2) ha0 C2 (wpO_bd h)) cls_4 (k := (27 + a0)) (by omega) (sh_page ha0) (As := [.int (I (r2))]) (st := []) rfl (Nat.le_of_ble_eq_true rfl) dX4_half_5 (kkI (fun C5 r5 h => ?_))
  refine r_iconst hK dX4_half_8 ?_
  refine r_isub hK dX4_half_9 ?_
  refine r_istore_n hK dX4_half_10 (by rw [hN]; decide) rfl (lv' := [some (.ref (gA g (27 + a0))), some (.int (I (r5 - 3))), none]) rfl ?_
  refine r_iconst hK dX4_half_11 ?_
  refine r_istore_n hK dX4_half_12 (by rw [hN]; decide) rfl (lv' := [some (.ref (gA g (27 + a0))), some (.int (I (r5 - 3))), some (.int (I (0)))]) rfl ?_
  refine w_X4_half_13 hK hN hr hQ (by omega) a0 (r5 - 3) ha0 _ (fun v2_e13 C_e13 h => ?_) FU (0) C5 h
  refine r_iload_n hK dX4_half_40 rfl ?_
  exact r_ireturn hK hr hQ rfl dX4_half_41 ⟨C_e13, v2_e13, rfl, rfl, wpO_some h⟩
set_option maxRecDepth 100000 in
set_option maxHeartbeats 4000000 in
theorem w_X4_readKey_25 {K : KT} {g : GT} {X : Mem} {dd : Nat} (hK : Kok K g cX4_readKey RX4 dd) (hN : kN K = 6) (hr : (kMe K).sig.returnType = none) {Q : Mem → Int → Prop} (hQ : kQ K = MQ (kB K) (Qc g (QV (fun c => mrg c X) Q)) (kA K) (kS K) (kc K) (ks K) (gS g)) (hdd : 2 ≤ dd) (u0 : Nat) (u2 : Nat) (u3 : Int) (u4 : Int) (hu0 : u0 < 34) (hu2 : u2 < 5) (k : Int → Mem → Option (Mem × Int)) (hk : ∀ (v5 : Int) (C : Mem), wpO (k v5 C) Q → Wn K g (mrg C X) 50 [some (.ref (gA g (27 + u0))), none, some (.ref (gA g (10 + 2 * u2))), some (.int (I (u3))), some (.int (I (u4))), some (.int (I (v5)))] []) : ∀ (n : Nat) (v5 : Int) (C : Mem), wpO (f_X4_readKey_25 u0 u2 u3 u4 k n v5 C) Q → Wn K g (mrg C X) 25 [some (.ref (gA g (27 + u0))), none, some (.ref (gA g (10 + 2 * u2))), some (.int (I (u3))), some (.int (I (u4))), some (.int (I (v5)))] [] := by
  intro n
  induction n with
  | zero => intro v5 C h; exact (wpO_none h).elim
  | succ n ih =>
    intro v5 C h
    unfold f_X4_readKey_25 at h
    refine r_iload hK dX4_readKey_25 rfl ?_
    refine r_iload hK dX4_readKey_27 rfl ?_
    refine r_icmp_gt hK dX4_readKey_29 (t := 50) (by decide) (wpO_lt h) (fun h => ?_) (fun h => ?_)
    · exact hk (v5) C h
    · refine r_aload_n hK dX4_readKey_32 rfl ?_
      refine r_aload_n hK dX4_readKey_33 rfl ?_
      refine r_iload_n hK dX4_readKey_34 rfl ?_
      refine r_iload hK dX4_readKey_35 rfl ?_
      refine r_iadd hK dX4_readKey_37 ?_
      refine r_callV hK ck_X4_at im_X4_at sl_X4_at ml_RX4_32 (by omega) (c_X4_at (l := kL K) (g := g) (X := X) u0 (u3 + v5) hu0 C (wpO_bd h)) cls_4 (k := (27 + u0)) (by omega) (sh_page hu0) (As := [.int (I (u3 + v5))]) (st := [.ref (gA g (10 + 2 * u2))]) rfl (Nat.le_of_ble_eq_true rfl) dX4_readKey_38 (kkI (fun C38 r38 h => ?_))
      refine r_callV hK ck_X3_add im_X3_add sl_X3_add ml_RX4_50 (by omega) (c_X3_add (l := kL K) (g := g) (X := X) u2 (r38) hu2 C38 (wpO_bd h)) cls_3 (k := (10 + 2 * u2)) (by omega) (sh_key hu2) (As := [.int (I (r38))]) (st := []) rfl (Nat.le_of_ble_eq_true rfl) dX4_readKey_41 (kkV (fun C41 h => ?_))
      refine r_iinc hK dX4_readKey_44 (by rw [hN]; decide) rfl rfl (lv' := [some (.ref (gA g (27 + u0))), none, some (.ref (gA g (10 + 2 * u2))), some (.int (I (u3))), some (.int (I (u4))), some (.int (I (v5 + 1)))]) rfl ?_
      refine r_goto hK dX4_readKey_47 (t := 25) (by decide) ?_
      exact ih (v5 + 1) C41 h
set_option maxRecDepth 100000 in
set_option maxHeartbeats 4000000 in
theorem c_X4_readKey {l : Launch} {g : GT} {X : Mem} {Q : Mem → Int → Prop} (a0 : Nat) (a1 : Int) (a2 : Nat) (ha0 : a0 < 34) (ha2 : a2 < 5) (C : Mem) (h : wpO (f_X4_readKey a0 a1 a2 C) Q) : MetC l yX4_readKey cX4_readKey 6 none 2 g [.ref (gA g (27 + a0)), .int (I (a1)), .ref (gA g (10 + 2 * a2))] (mrg C X) (QV (fun c => mrg c X) Q) := by
  refine met_at 3 (lv := [some (.ref (gA g (27 + a0))), some (.int (I (a1))), some (.ref (gA g (10 + 2 * a2))), none, none, none]) (by decide) (Nat.le_of_ble_eq_true rfl) rfl rfl (fun K hK hN hr hQ => ?_)
  unfold f_X4_readKey at h
  refine r_aload_n hK dX4_readKey_0 rfl ?_
  refine r_iload_n hK dX4_readKey_1 rfl ?_
  refine r_callV hK ck_X4_offset im_X4_offset sl_X4_offset ml_RX4_28 (by omega) (c_X4_offset (l := kL K) (g := g) (X := X) a0 (a1) ha0 C (wpO_bd h)) cls_4 (k := (27 + a0)) (by omega) (sh_page ha0) (As := [.int (I (a1))]) (st := []) rfl (Nat.le_of_ble_eq_true rfl) dX4_readKey_2 (kkI (fun C2 r2 h => ?_))
  refine r_istore_n hK dX4_readKey_5 (by rw [hN]; decide) rfl (lv' := [some (.ref (gA g (27 + a0))), some (.int (I (a1))), some (.ref (gA g (10 + 2 * a2))), some (.int (I (r2))), none, none]) rfl ?_
  refine r_aload_n hK dX4_readKey_6 rfl ?_
  refine r_iload_n hK dX4_readKey_7 rfl ?_
  refine r_callV hK ck_X4_at im_X4_at sl_X4_at ml_RX4_32 (by omega) (c_X4_at (l := kL K) (g := g) (X := X) a0 (r2) ha0 C2 (wpO_bd h)) cls_4 (k := (27 + a0)) (by omega) (sh_page ha0) (As := [.int (I (r2))]) (st := []) rfl (Nat.le_of_ble_eq_true rfl) dX4_readKey_8 (kkI (fun C8 r8 h => ?_))
  refine r_bipush hK dX4_readKey_11 (by decide) ?_
  obtain ⟨hg13, h⟩ := wpO_rg h
  refine r_mmin hK ml_RX4_42 mt_min.1 mt_min.2.1 mt_min.2.2 (by omega) (Nat.le_of_ble_eq_true rfl) hg13 dX4_readKey_13 ?_
  refine r_istore hK dX4_readKey_16 (by rw [hN]; decide) rfl (lv' := [some (.ref (gA g (27 + a0))), some (.int (I (a1))), some (.ref (gA g (10 + 2 * a2))), some (.int (I (r2))), some (.int (I (min (r8) (8)))), none]) rfl ?_
  refine r_aload_n hK dX4_readKey_18 rfl ?_
  refine r_callV hK ck_X3_empty im_X3_empty sl_X3_empty ml_RX4_45 (by omega) (c_X3_empty (l := kL K) (g := g) (X := X) a2 ha2 C8 (wpO_bd h)) cls_3 (k := (10 + 2 * a2)) (by omega) (sh_key ha2) (As := []) (st := []) rfl (Nat.le_of_ble_eq_true rfl) dX4_readKey_19 (kkV (fun C19 h => ?_))
  refine r_iconst hK dX4_readKey_22 ?_
  refine r_istore hK dX4_readKey_23 (by rw [hN]; decide) rfl (lv' := [some (.ref (gA g (27 + a0))), some (.int (I (a1))), some (.ref (gA g (10 + 2 * a2))), some (.int (I (r2))), some (.int (I (min (r8) (8)))), some (.int (I (1)))]) rfl ?_
  refine r_cut [true, false, true, true, true, true] (lv' := [some (.ref (gA g (27 + a0))), none, some (.ref (gA g (10 + 2 * a2))), some (.int (I (r2))), some (.int (I (min (r8) (8)))), some (.int (I (1)))]) rfl ?_
  refine w_X4_readKey_25 hK hN hr hQ (by omega) a0 a2 (r2) (min (r8) (8)) ha0 ha2 _ (fun v5_e25 C_e25 h => ?_) FU (1) C19 h
  exact r_return hK hr hQ dX4_readKey_50 ⟨C_e25, rfl, rfl, wpO_some h⟩
set_option maxRecDepth 100000 in
set_option maxHeartbeats 4000000 in
theorem w_J7_fill_53178_5 {K : KT} {g : GT} {X : Mem} {dd : Nat} (hK : Kok K g cJ7_fill_53178 RJ7 dd) (hN : kN K = 4) (hr : (kMe K).sig.returnType = none) {Q : Mem → Int → Prop} (hQ : kQ K = MQ (kB K) (Qc g (QV (fun c => mrg c X) Q)) (kA K) (kS K) (kc K) (ks K) (gS g)) (hdd : 1 ≤ dd) (u0 : Nat) (u1 : Int) (u3 : Int) (hu0 : u0 < 34) (k : Int → Mem → Option (Mem × Int)) (hk : ∀ (v2 : Int) (C : Mem), wpO (k v2 C) Q → Wn K g (mrg C X) 20 [some (.ref (gA g (61 + u0))), some (.int (I (u1))), some (.int (I (v2))), some (.int (I (u3)))] []) : ∀ (n : Nat) (v2 : Int) (C : Mem), wpO (f_J7_fill_53178_5 u0 u1 u3 k n v2 C) Q → Wn K g (mrg C X) 5 [some (.ref (gA g (61 + u0))), some (.int (I (u1))), some (.int (I (v2))), some (.int (I (u3)))] [] := by
  intro n
  induction n with
  | zero => intro v2 C h; exact (wpO_none h).elim
  | succ n ih =>
    intro v2 C h
    unfold f_J7_fill_53178_5 at h
    refine r_iload_n hK dJ7_fill_53178_5 rfl ?_
    refine r_iload_n hK dJ7_fill_53178_6 rfl ?_
    refine r_icmp_ge hK dJ7_fill_53178_7 (t := 20) (by decide) (wpO_lt h) (fun h => ?_) (fun h => ?_)
    · refine r_aload_n hK dJ7_fill_53178_10 rfl ?_
      refine r_iload_n hK dJ7_fill_53178_11 rfl ?_
      refine r_iload_n hK dJ7_fill_53178_12 rfl ?_
      obtain ⟨hb13, h⟩ := wpO_ix h
      refine r_iastore (k := (61 + u0)) hK (by omega) (sh_pb hu0) (pl_lt _) hb13 dJ7_fill_53178_13 (up_c (by omega)) ?_
      refine r_iinc hK dJ7_fill_53178_14 (by rw [hN]; decide) rfl rfl (lv' := [some (.ref (gA g (61 + u0))), some (.int (I (u1))), some (.int (I (v2 + 1))), some (.int (I (u3)))]) rfl ?_
      refine r_goto hK dJ7_fill_53178_17 (t := 5) (by decide) ?_
      exact ih (v2 + 1) (up C (61 + u0) (v2).toNat (u1)) h
    · exact hk (v2) C h
set_option maxRecDepth 100000 in
set_option maxHeartbeats 4000000 in
theorem c_J7_fill_53178 {l : Launch} {g : GT} {X : Mem} {Q : Mem → Int → Prop} (a0 : Nat) (a1 : Int) (ha0 : a0 < 34) (C : Mem) (h : wpO (f_J7_fill_53178 a0 a1 C) Q) : MetC l yJ7_fill_53178 cJ7_fill_53178 4 none 1 g [.ref (gA g (61 + a0)), .int (I (a1))] (mrg C X) (QV (fun c => mrg c X) Q) := by
  refine met_at 2 (lv := [some (.ref (gA g (61 + a0))), some (.int (I (a1))), none, none]) (by decide) (Nat.le_of_ble_eq_true rfl) rfl rfl (fun K hK hN hr hQ => ?_)
  unfold f_J7_fill_53178 at h
  refine r_iconst hK dJ7_fill_53178_0 ?_
  refine r_istore_n hK dJ7_fill_53178_1 (by rw [hN]; decide) rfl (lv' := [some (.ref (gA g (61 + a0))), some (.int (I (a1))), some (.int (I (0))), none]) rfl ?_
  refine r_aload_n hK dJ7_fill_53178_2 rfl ?_
  refine r_alen (k := (61 + a0)) hK (by omega) (sh_pb ha0) (by decide) dJ7_fill_53178_3 ?_
  refine r_istore_n hK dJ7_fill_53178_4 (by rw [hN]; decide) rfl (lv' := [some (.ref (gA g (61 + a0))), some (.int (I (a1))), some (.int (I (0))), some (.int (I ((((pl a0) : Nat) : Int))))]) rfl ?_
  refine w_J7_fill_53178_5 hK hN hr hQ (by omega) a0 (a1) ((((pl a0) : Nat) : Int)) ha0 _ (fun v2_e5 C_e5 h => ?_) FU (0) C h
  exact r_return hK hr hQ dJ7_fill_53178_20 ⟨C_e5, rfl, rfl, wpO_some h⟩
set_option maxRecDepth 100000 in
set_option maxHeartbeats 4000000 in
theorem c_X4_begin {l : Launch} {g : GT} {X : Mem} {Q : Mem → Int → Prop} (a0 : Nat) (a1 : Int) (a2 : Int) (ha0 : a0 < 34) (C : Mem) (h : wpO (f_X4_begin a0 a1 a2 C) Q) : MetC l yX4_begin cX4_begin 3 none 2 g [.ref (gA g (27 + a0)), .int (I (a1)), .int (I (a2))] (mrg C X) (QV (fun c => mrg c X) Q) := by
  refine met_at 0 (lv := [some (.ref (gA g (27 + a0))), some (.int (I (a1))), some (.int (I (a2)))]) (by decide) (Nat.le_of_ble_eq_true rfl) rfl rfl (fun K hK hN hr hQ => ?_)
  unfold f_X4_begin at h
  refine r_aload_n hK dX4_begin_0 rfl ?_
  refine r_getR (k := (27 + a0)) (k' := (61 + a0)) hK cls_4 fl_RX4_15 (by decide) (by omega) (sh_page ha0) rfl dX4_begin_1 ?_
  refine r_iconst hK dX4_begin_4 ?_
  refine r_callS hK ck_J7_fill_53178 sc_J7_fill_53178 ml_RX4_66 (by omega) (c_J7_fill_53178 (l := kL K) (g := g) (X := X) a0 (0) ha0 C (wpO_bd h)) (As := [.ref (gA g (61 + a0)), .int (I (0))]) (st := []) rfl (Nat.le_of_ble_eq_true rfl) dX4_begin_5 (kkV (fun C5 h => ?_))
  refine r_aload_n hK dX4_begin_8 rfl ?_
  refine r_getR (k := (27 + a0)) (k' := (61 + a0)) hK cls_4 fl_RX4_15 (by decide) (by omega) (sh_page ha0) rfl dX4_begin_9 ?_
  refine r_iconst hK dX4_begin_12 ?_
  refine r_iload_n hK dX4_begin_13 rfl ?_
  obtain ⟨hb14, h⟩ := wpO_ix h
  refine r_iastore (k := (61 + a0)) hK (by omega) (sh_pb ha0) (pl_lt _) hb14 dX4_begin_14 (up_c (by omega)) ?_
  refine r_aload_n hK dX4_begin_15 rfl ?_
  refine r_getR (k := (27 + a0)) (k' := (61 + a0)) hK cls_4 fl_RX4_15 (by decide) (by omega) (sh_page ha0) rfl dX4_begin_16 ?_
  refine r_iconst hK dX4_begin_19 ?_
  refine r_iload_n hK dX4_begin_20 rfl ?_
  obtain ⟨hb21, h⟩ := wpO_ix h
  refine r_iastore (k := (61 + a0)) hK (by omega) (sh_pb ha0) (pl_lt _) hb21 dX4_begin_21 (up_c (by omega)) ?_
  exact r_return hK hr hQ dX4_begin_22 ⟨(up (up C5 (61 + a0) 0 (a1)) (61 + a0) 2 (a2)), rfl, rfl, wpO_some h⟩
set_option maxRecDepth 100000 in
set_option maxHeartbeats 4000000 in
theorem w_X4_append_30 {K : KT} {g : GT} {X : Mem} {dd : Nat} (hK : Kok K g cX4_append RX4 dd) (hN : kN K = 8) (hr : (kMe K).sig.returnType = none) {Q : Mem → Int → Prop} (hQ : kQ K = MQ (kB K) (Qc g (QV (fun c => mrg c X) Q)) (kA K) (kS K) (kc K) (ks K) (gS g)) (hdd : 2 ≤ dd) (u0 : Nat) (u1 : Nat) (u2 : Int) (u3 : Int) (u4 : Int) (u5 : Int) (u6 : Int) (hu0 : u0 < 34) (hu1 : u1 < 34) (k : Int → Mem → Option (Mem × Int)) (hk : ∀ (v7 : Int) (C : Mem), wpO (k v7 C) Q → Wn K g (mrg C X) 61 [some (.ref (gA g (27 + u0))), some (.ref (gA g (27 + u1))), some (.int (I (u2))), some (.int (I (u3))), some (.int (I (u4))), some (.int (I (u5))), some (.int (I (u6))), some (.int (I (v7)))] []) : ∀ (n : Nat) (v7 : Int) (C : Mem), wpO (f_X4_append_30 u0 u1 u2 u3 u4 u5 u6 k n v7 C) Q → Wn K g (mrg C X) 30 [some (.ref (gA g (27 + u0))), some (.ref (gA g (27 + u1))), some (.int (I (u2))), some (.int (I (u3))), some (.int (I (u4))), some (.int (I (u5))), some (.int (I (u6))), some (.int (I (v7)))] [] := by
  intro n
  induction n with
  | zero => intro v7 C h; exact (wpO_none h).elim
  | succ n ih =>
    intro v7 C h
    unfold f_X4_append_30 at h
    refine r_iload hK dX4_append_30 rfl ?_
    refine r_iload hK dX4_append_32 rfl ?_
    refine r_icmp_ge hK dX4_append_34 (t := 61) (by decide) (wpO_lt h) (fun h => ?_) (fun h => ?_)
    · refine r_aload_n hK dX4_append_37 rfl ?_
      refine r_iload hK dX4_append_38 rfl ?_
      refine r_iload hK dX4_append_40 rfl ?_
      refine r_iadd hK dX4_append_42 ?_
      refine r_aload_n hK dX4_append_43 rfl ?_
      refine r_iload hK dX4_append_44 rfl ?_
      refine r_iload hK dX4_append_46 rfl ?_
      refine r_iadd hK dX4_append_48 ?_
      refine r_callV hK ck_X4_at im_X4_at sl_X4_at ml_RX4_32 (by omega) (c_X4_at (l := kL K) (g := g) (X := X) u1 (u5 + v7) hu1 C (wpO_bd h)) cls_4 (k := (27 + u1)) (by omega) (sh_page hu1) (As := [.int (I (u5 + v7))]) (st := [.int (I (u4 + v7)), .ref (gA g (27 + u0))]) rfl (Nat.le_of_ble_eq_true rfl) dX4_append_49 (kkI (fun C49 r49 h => ?_))
      refine r_callV hK ck_X4_set im_X4_set sl_X4_set ml_RX4_35 (by omega) (c_X4_set (l := kL K) (g := g) (X := X) u0 (u4 + v7) (r49) hu0 C49 (wpO_bd h)) cls_4 (k := (27 + u0)) (by omega) (sh_page hu0) (As := [.int (I (u4 + v7)), .int (I (r49))]) (st := []) rfl (Nat.le_of_ble_eq_true rfl) dX4_append_52 (kkV (fun C52 h => ?_))
      refine r_iinc hK dX4_append_55 (by rw [hN]; decide) rfl rfl (lv' := [some (.ref (gA g (27 + u0))), some (.ref (gA g (27 + u1))), some (.int (I (u2))), some (.int (I (u3))), some (.int (I (u4))), some (.int (I (u5))), some (.int (I (u6))), some (.int (I (v7 + 1)))]) rfl ?_
      refine r_goto hK dX4_append_58 (t := 30) (by decide) ?_
      exact ih (v7 + 1) C52 h
    · exact hk (v7) C h
set_option maxRecDepth 100000 in
set_option maxHeartbeats 4000000 in
theorem c_X4_append {l : Launch} {g : GT} {X : Mem} {Q : Mem → Int → Prop} (a0 : Nat) (a1 : Nat) (a2 : Int) (a3 : Int) (ha0 : a0 < 34) (ha1 : a1 < 34) (C : Mem) (h : wpO (f_X4_append a0 a1 a2 a3 C) Q) : MetC l yX4_append cX4_append 8 none 2 g [.ref (gA g (27 + a0)), .ref (gA g (27 + a1)), .int (I (a2)), .int (I (a3))] (mrg C X) (QV (fun c => mrg c X) Q) := by
  refine met_at 4 (lv := [some (.ref (gA g (27 + a0))), some (.ref (gA g (27 + a1))), some (.int (I (a2))), some (.int (I (a3))), none, none, none, none]) (by decide) (Nat.le_of_ble_eq_true rfl) rfl rfl (fun K hK hN hr hQ => ?_)
  unfold f_X4_append at h
  refine r_aload_n hK dX4_append_0 rfl ?_
  refine r_aload_n hK dX4_append_1 rfl ?_
  refine r_callV hK ck_X4_entries im_X4_entries sl_X4_entries ml_RX4_25 (by omega) (c_X4_entries (l := kL K) (g := g) (X := X) a0 ha0 C (wpO_bd h)) cls_4 (k := (27 + a0)) (by omega) (sh_page ha0) (As := []) (st := [.ref (gA g (27 + a0))]) rfl (Nat.le_of_ble_eq_true rfl) dX4_append_2 (kkI (fun C2 r2 h => ?_))
  refine r_callV hK ck_X4_offset im_X4_offset sl_X4_offset ml_RX4_28 (by omega) (c_X4_offset (l := kL K) (g := g) (X := X) a0 (r2) ha0 C2 (wpO_bd h)) cls_4 (k := (27 + a0)) (by omega) (sh_page ha0) (As := [.int (I (r2))]) (st := []) rfl (Nat.le_of_ble_eq_true rfl) dX4_append_5 (kkI (fun C5 r5 h => ?_))
  refine r_istore hK dX4_append_8 (by rw [hN]; decide) rfl (lv' := [some (.ref (gA g (27 + a0))), some (.ref (gA g (27 + a1))), some (.int (I (a2))), some (.int (I (a3))), some (.int (I (r5))), none, none, none]) rfl ?_
  refine r_aload_n hK dX4_append_10 rfl ?_
  refine r_iload_n hK dX4_append_11 rfl ?_
  refine r_callV hK ck_X4_offset im_X4_offset sl_X4_offset ml_RX4_28 (by omega) (c_X4_offset (l := kL K) (g := g) (X := X) a1 (a2) ha1 C5 (wpO_bd h)) cls_4 (k := (27 + a1)) (by omega) (sh_page ha1) (As := [.int (I (a2))]) (st := []) rfl (Nat.le_of_ble_eq_true rfl) dX4_append_12 (kkI (fun C12 r12 h => ?_))
  refine r_istore hK dX4_append_15 (by rw [hN]; decide) rfl (lv' := [some (.ref (gA g (27 + a0))), some (.ref (gA g (27 + a1))), some (.int (I (a2))), some (.int (I (a3))), some (.int (I (r5))), some (.int (I (r12))), none, none]) rfl ?_
  refine r_aload_n hK dX4_append_17 rfl ?_
  refine r_iload_n hK dX4_append_18 rfl ?_
  refine r_callV hK ck_X4_offset im_X4_offset sl_X4_offset ml_RX4_28 (by omega) (c_X4_offset (l := kL K) (g := g) (X := X) a1 (a3) ha1 C12 (wpO_bd h)) cls_4 (k := (27 + a1)) (by omega) (sh_page ha1) (As := [.int (I (a3))]) (st := []) rfl (Nat.le_of_ble_eq_true rfl) dX4_append_19 (kkI (fun C19 r19 h => ?_))
  refine r_iload hK dX4_append_22 rfl ?_
  refine r_isub hK dX4_append_24 ?_
  refine r_istore hK dX4_append_25 (by rw [hN]; decide) rfl (lv' := [some (.ref (gA g (27 + a0))), some (.ref (gA g (27 + a1))), some (.int (I (a2))), some (.int (I (a3))), some (.int (I (r5))), some (.int (I (r12))), some (.int (I (r19 - r12))), none]) rfl ?_
  refine r_iconst hK dX4_append_27 ?_
  refine r_istore hK dX4_append_28 (by rw [hN]; decide) rfl (lv' := [some (.ref (gA g (27 + a0))), some (.ref (gA g (27 + a1))), some (.int (I (a2))), some (.int (I (a3))), some (.int (I (r5))), some (.int (I (r12))), some (.int (I (r19 - r12))), some (.int (I (0)))]) rfl ?_
  refine w_X4_append_30 hK hN hr hQ (by omega) a0 a1 (a2) (a3) (r5) (r12) (r19 - r12) ha0 ha1 _ (fun v7_e30 C_e30 h => ?_) FU (0) C19 h
  refine r_aload_n hK dX4_append_61 rfl ?_
  refine r_getR (k := (27 + a0)) (k' := (61 + a0)) hK cls_4 fl_RX4_15 (by decide) (by omega) (sh_page ha0) rfl dX4_append_62 ?_
  refine r_iconst hK dX4_append_65 ?_
  refine r_dup2 hK dX4_append_66 rfl rfl ?_
  obtain ⟨hb67, h⟩ := wpO_ix h
  refine r_iaload (k := (61 + a0)) hK (by omega) (sh_pb ha0) (pl_lt _) hb67 dX4_append_67 (mrg_c (by omega)) ?_
  refine r_iload_n hK dX4_append_68 rfl ?_
  refine r_iload_n hK dX4_append_69 rfl ?_
  refine r_isub hK dX4_append_70 ?_
  refine r_iadd hK dX4_append_71 ?_
  obtain ⟨hb72, h⟩ := wpO_ix h
  refine r_iastore (k := (61 + a0)) hK (by omega) (sh_pb ha0) (pl_lt _) hb72 dX4_append_72 (up_c (by omega)) ?_
  exact r_return hK hr hQ dX4_append_73 ⟨(up C_e30 (61 + a0) 1 ((C_e30 (61 + a0) 1) + (a3 - a2))), rfl, rfl, wpO_some h⟩
set_option maxRecDepth 100000 in
set_option maxHeartbeats 4000000 in
theorem w_X4_remove_19 {K : KT} {g : GT} {X : Mem} {dd : Nat} (hK : Kok K g cX4_remove RX4 dd) (hN : kN K = 5) (hr : (kMe K).sig.returnType = none) {Q : Mem → Int → Prop} (hQ : kQ K = MQ (kB K) (Qc g (QV (fun c => mrg c X) Q)) (kA K) (kS K) (kc K) (ks K) (gS g)) (hdd : 2 ≤ dd) (u0 : Nat) (u3 : Int) (hu0 : u0 < 34) (k : Int → Mem → Option (Mem × Int)) (hk : ∀ (v4 : Int) (C : Mem), wpO (k v4 C) Q → Wn K g (mrg C X) 50 [some (.ref (gA g (27 + u0))), none, none, some (.int (I (u3))), some (.int (I (v4)))] []) : ∀ (n : Nat) (v4 : Int) (C : Mem), wpO (f_X4_remove_19 u0 u3 k n v4 C) Q → Wn K g (mrg C X) 19 [some (.ref (gA g (27 + u0))), none, none, some (.int (I (u3))), some (.int (I (v4)))] [] := by
  intro n
  induction n with
  | zero => intro v4 C h; exact (wpO_none h).elim
  | succ n ih =>
    intro v4 C h
    unfold f_X4_remove_19 at h
    refine r_iload hK dX4_remove_19 rfl ?_
    refine r_aload_n hK dX4_remove_21 rfl ?_
    refine r_getR (k := (27 + u0)) (k' := (61 + u0)) hK cls_4 fl_RX4_15 (by decide) (by omega) (sh_page hu0) rfl dX4_remove_22 ?_
    refine r_alen (k := (61 + u0)) hK (by omega) (sh_pb hu0) (by decide) dX4_remove_25 ?_
    refine r_icmp_ge hK dX4_remove_26 (t := 50) (by decide) (wpO_lt h) (fun h => ?_) (fun h => ?_)
    · refine r_aload_n hK dX4_remove_29 rfl ?_
      refine r_getR (k := (27 + u0)) (k' := (61 + u0)) hK cls_4 fl_RX4_15 (by decide) (by omega) (sh_page hu0) rfl dX4_remove_30 ?_
      refine r_iload hK dX4_remove_33 rfl ?_
      refine r_aload_n hK dX4_remove_35 rfl ?_
      refine r_iload hK dX4_remove_36 rfl ?_
      refine r_iload_n hK dX4_remove_38 rfl ?_
      refine r_iadd hK dX4_remove_39 ?_
      refine r_callV hK ck_X4_at im_X4_at sl_X4_at ml_RX4_32 (by omega) (c_X4_at (l := kL K) (g := g) (X := X) u0 (v4 + u3) hu0 C (wpO_bd h)) cls_4 (k := (27 + u0)) (by omega) (sh_page hu0) (As := [.int (I (v4 + u3))]) (st := [.int (I (v4)), .ref (gA g (61 + u0))]) rfl (Nat.le_of_ble_eq_true rfl) dX4_remove_40 (kkI (fun C40 r40 h => ?_))
      obtain ⟨hb43, h⟩ := wpO_ix h
      refine r_iastore (k := (61 + u0)) hK (by omega) (sh_pb hu0) (pl_lt _) hb43 dX4_remove_43 (up_c (by omega)) ?_
      refine r_iinc hK dX4_remove_44 (by rw [hN]; decide) rfl rfl (lv' := [some (.ref (gA g (27 + u0))), none, none, some (.int (I (u3))), some (.int (I (v4 + 1)))]) rfl ?_
      refine r_goto hK dX4_remove_47 (t := 19) (by decide) ?_
      exact ih (v4 + 1) (up C40 (61 + u0) (v4).toNat (r40)) h
    · exact hk (v4) C h
set_option maxRecDepth 100000 in
set_option maxHeartbeats 4000000 in
theorem c_X4_remove {l : Launch} {g : GT} {X : Mem} {Q : Mem → Int → Prop} (a0 : Nat) (a1 : Int) (ha0 : a0 < 34) (C : Mem) (h : wpO (f_X4_remove a0 a1 C) Q) : MetC l yX4_remove cX4_remove 5 none 2 g [.ref (gA g (27 + a0)), .int (I (a1))] (mrg C X) (QV (fun c => mrg c X) Q) := by
  refine met_at 3 (lv := [some (.ref (gA g (27 + a0))), some (.int (I (a1))), none, none, none]) (by decide) (Nat.le_of_ble_eq_true rfl) rfl rfl (fun K hK hN hr hQ => ?_)
  unfold f_X4_remove at h
  refine r_aload_n hK dX4_remove_0 rfl ?_
  refine r_iload_n hK dX4_remove_1 rfl ?_
  refine r_callV hK ck_X4_offset im_X4_offset sl_X4_offset ml_RX4_28 (by omega) (c_X4_offset (l := kL K) (g := g) (X := X) a0 (a1) ha0 C (wpO_bd h)) cls_4 (k := (27 + a0)) (by omega) (sh_page ha0) (As := [.int (I (a1))]) (st := []) rfl (Nat.le_of_ble_eq_true rfl) dX4_remove_2 (kkI (fun C2 r2 h => ?_))
  refine r_istore_n hK dX4_remove_5 (by rw [hN]; decide) rfl (lv' := [some (.ref (gA g (27 + a0))), some (.int (I (a1))), some (.int (I (r2))), none, none]) rfl ?_
  refine r_aload_n hK dX4_remove_6 rfl ?_
  refine r_iload_n hK dX4_remove_7 rfl ?_
  refine r_iconst hK dX4_remove_8 ?_
  refine r_iadd hK dX4_remove_9 ?_
  refine r_callV hK ck_X4_offset im_X4_offset sl_X4_offset ml_RX4_28 (by omega) (c_X4_offset (l := kL K) (g := g) (X := X) a0 (a1 + 1) ha0 C2 (wpO_bd h)) cls_4 (k := (27 + a0)) (by omega) (sh_page ha0) (As := [.int (I (a1 + 1))]) (st := []) rfl (Nat.le_of_ble_eq_true rfl) dX4_remove_10 (kkI (fun C10 r10 h => ?_))
  refine r_iload_n hK dX4_remove_13 rfl ?_
  refine r_isub hK dX4_remove_14 ?_
  refine r_istore_n hK dX4_remove_15 (by rw [hN]; decide) rfl (lv' := [some (.ref (gA g (27 + a0))), some (.int (I (a1))), some (.int (I (r2))), some (.int (I (r10 - r2))), none]) rfl ?_
  refine r_iload_n hK dX4_remove_16 rfl ?_
  refine r_istore hK dX4_remove_17 (by rw [hN]; decide) rfl (lv' := [some (.ref (gA g (27 + a0))), some (.int (I (a1))), some (.int (I (r2))), some (.int (I (r10 - r2))), some (.int (I (r2)))]) rfl ?_
  refine r_cut [true, false, false, true, true] (lv' := [some (.ref (gA g (27 + a0))), none, none, some (.int (I (r10 - r2))), some (.int (I (r2)))]) rfl ?_
  refine w_X4_remove_19 hK hN hr hQ (by omega) a0 (r10 - r2) ha0 _ (fun v4_e19 C_e19 h => ?_) FU (r2) C10 h
  refine r_aload_n hK dX4_remove_50 rfl ?_
  refine r_getR (k := (27 + a0)) (k' := (61 + a0)) hK cls_4 fl_RX4_15 (by decide) (by omega) (sh_page ha0) rfl dX4_remove_51 ?_
  refine r_iconst hK dX4_remove_54 ?_
  refine r_dup2 hK dX4_remove_55 rfl rfl ?_
  obtain ⟨hb56, h⟩ := wpO_ix h
  refine r_iaload (k := (61 + a0)) hK (by omega) (sh_pb ha0) (pl_lt _) hb56 dX4_remove_56 (mrg_c (by omega)) ?_
  refine r_iconst hK dX4_remove_57 ?_
  refine r_isub hK dX4_remove_58 ?_
  obtain ⟨hb59, h⟩ := wpO_ix h
  refine r_iastore (k := (61 + a0)) hK (by omega) (sh_pb ha0) (pl_lt _) hb59 dX4_remove_59 (up_c (by omega)) ?_
  exact r_return hK hr hQ dX4_remove_60 ⟨(up C_e19 (61 + a0) 1 ((C_e19 (61 + a0) 1) - 1)), rfl, rfl, wpO_some h⟩
set_option maxRecDepth 100000 in
set_option maxHeartbeats 4000000 in
theorem c_X4_release {l : Launch} {g : GT} {X : Mem} {Q : Mem → Int → Prop} (a0 : Nat) (ha0 : a0 < 34) (C : Mem) (h : wpO (f_X4_release a0 C) Q) : MetC l yX4_release cX4_release 1 none 2 g [.ref (gA g (27 + a0))] (mrg C X) (QV (fun c => mrg c X) Q) := by
  refine met_at 0 (lv := [some (.ref (gA g (27 + a0)))]) (by decide) (Nat.le_of_ble_eq_true rfl) rfl rfl (fun K hK hN hr hQ => ?_)
  unfold f_X4_release at h
  refine r_aload_n hK dX4_release_0 rfl ?_
  refine r_getR (k := (27 + a0)) (k' := (61 + a0)) hK cls_4 fl_RX4_15 (by decide) (by omega) (sh_page ha0) rfl dX4_release_1 ?_
  refine r_iconst hK dX4_release_4 ?_
  refine r_callS hK ck_J7_fill_53178 sc_J7_fill_53178 ml_RX4_66 (by omega) (c_J7_fill_53178 (l := kL K) (g := g) (X := X) a0 (0) ha0 C (wpO_bd h)) (As := [.ref (gA g (61 + a0)), .int (I (0))]) (st := []) rfl (Nat.le_of_ble_eq_true rfl) dX4_release_5 (kkV (fun C5 h => ?_))
  exact r_return hK hr hQ dX4_release_8 ⟨C5, rfl, rfl, wpO_some h⟩
set_option maxRecDepth 100000 in
set_option maxHeartbeats 4000000 in
theorem c_X4_letters {l : Launch} {g : GT} {X : Mem} {Q : Mem → Int → Prop} (a0 : Nat) (a1 : Int) (ha0 : a0 < 34) (C : Mem) (h : wpO (f_X4_letters a0 a1 C) Q) : MetC l yX4_letters cX4_letters 2 (some .int) 2 g [.ref (gA g (27 + a0)), .int (I (a1))] (mrg C X) (QI (fun c => mrg c X) Q) := by
  refine met_at 0 (lv := [some (.ref (gA g (27 + a0))), some (.int (I (a1)))]) (by decide) (Nat.le_of_ble_eq_true rfl) rfl rfl (fun K hK hN hr hQ => ?_)
  unfold f_X4_letters at h
  refine r_aload_n hK dX4_letters_0 rfl ?_
  refine r_aload_n hK dX4_letters_1 rfl ?_
  refine r_iload_n hK dX4_letters_2 rfl ?_
  refine r_callV hK ck_X4_offset im_X4_offset sl_X4_offset ml_RX4_28 (by omega) (c_X4_offset (l := kL K) (g := g) (X := X) a0 (a1) ha0 C (wpO_bd h)) cls_4 (k := (27 + a0)) (by omega) (sh_page ha0) (As := [.int (I (a1))]) (st := [.ref (gA g (27 + a0))]) rfl (Nat.le_of_ble_eq_true rfl) dX4_letters_3 (kkI (fun C3 r3 h => ?_))
  refine r_callV hK ck_X4_at im_X4_at sl_X4_at ml_RX4_32 (by omega) (c_X4_at (l := kL K) (g := g) (X := X) a0 (r3) ha0 C3 (wpO_bd h)) cls_4 (k := (27 + a0)) (by omega) (sh_page ha0) (As := [.int (I (r3))]) (st := []) rfl (Nat.le_of_ble_eq_true rfl) dX4_letters_6 (kkI (fun C6 r6 h => ?_))
  exact r_ireturn hK hr hQ rfl dX4_letters_9 ⟨C6, r6, rfl, rfl, wpO_some h⟩
set_option maxRecDepth 100000 in
set_option maxHeartbeats 4000000 in
theorem c_X4_letterOf {l : Launch} {g : GT} {X : Mem} {Q : Mem → Int → Prop} (a0 : Nat) (a1 : Int) (a2 : Int) (ha0 : a0 < 34) (C : Mem) (h : wpO (f_X4_letterOf a0 a1 a2 C) Q) : MetC l yX4_letterOf cX4_letterOf 4 (some .int) 2 g [.ref (gA g (27 + a0)), .int (I (a1)), .int (I (a2))] (mrg C X) (QI (fun c => mrg c X) Q) := by
  refine met_at 1 (lv := [some (.ref (gA g (27 + a0))), some (.int (I (a1))), some (.int (I (a2))), none]) (by decide) (Nat.le_of_ble_eq_true rfl) rfl rfl (fun K hK hN hr hQ => ?_)
  unfold f_X4_letterOf at h
  refine r_aload_n hK dX4_letterOf_0 rfl ?_
  refine r_iload_n hK dX4_letterOf_1 rfl ?_
  refine r_callV hK ck_X4_offset im_X4_offset sl_X4_offset ml_RX4_28 (by omega) (c_X4_offset (l := kL K) (g := g) (X := X) a0 (a1) ha0 C (wpO_bd h)) cls_4 (k := (27 + a0)) (by omega) (sh_page ha0) (As := [.int (I (a1))]) (st := []) rfl (Nat.le_of_ble_eq_true rfl) dX4_letterOf_2 (kkI (fun C2 r2 h => ?_))
  refine r_istore_n hK dX4_letterOf_5 (by rw [hN]; decide) rfl (lv' := [some (.ref (gA g (27 + a0))), some (.int (I (a1))), some (.int (I (a2))), some (.int (I (r2)))]) rfl ?_
  refine r_iload_n hK dX4_letterOf_6 rfl ?_
  refine r_if_lt hK dX4_letterOf_7 (t := 31) (by decide) (wpO_lt h) (fun h => ?_) (fun h => ?_)
  · refine r_iconst hK dX4_letterOf_31 ?_
    exact r_ireturn hK hr hQ rfl dX4_letterOf_32 ⟨C2, 0, rfl, rfl, wpO_some h⟩
  · refine r_iload_n hK dX4_letterOf_10 rfl ?_
    refine r_aload_n hK dX4_letterOf_11 rfl ?_
    refine r_iload_n hK dX4_letterOf_12 rfl ?_
    refine r_callV hK ck_X4_at im_X4_at sl_X4_at ml_RX4_32 (by omega) (c_X4_at (l := kL K) (g := g) (X := X) a0 (r2) ha0 C2 (wpO_bd h)) cls_4 (k := (27 + a0)) (by omega) (sh_page ha0) (As := [.int (I (r2))]) (st := [.int (I (a2))]) rfl (Nat.le_of_ble_eq_true rfl) dX4_letterOf_13 (kkI (fun C13 r13 h => ?_))
    refine r_icmp_ge hK dX4_letterOf_16 (t := 31) (by decide) (wpO_lt h) (fun h => ?_) (fun h => ?_)
    · refine r_aload_n hK dX4_letterOf_19 rfl ?_
      refine r_iload_n hK dX4_letterOf_20 rfl ?_
      refine r_iconst hK dX4_letterOf_21 ?_
      refine r_iadd hK dX4_letterOf_22 ?_
      refine r_iload_n hK dX4_letterOf_23 rfl ?_
      refine r_iadd hK dX4_letterOf_24 ?_
      refine r_callV hK ck_X4_at im_X4_at sl_X4_at ml_RX4_32 (by omega) (c_X4_at (l := kL K) (g := g) (X := X) a0 ((r2 + 1) + a2) ha0 C13 (wpO_bd h)) cls_4 (k := (27 + a0)) (by omega) (sh_page ha0) (As := [.int (I ((r2 + 1) + a2))]) (st := []) rfl (Nat.le_of_ble_eq_true rfl) dX4_letterOf_25 (kkI (fun C25 r25 h => ?_))
      refine r_goto hK dX4_letterOf_28 (t := 32) (by decide) ?_
      exact r_ireturn hK hr hQ rfl dX4_letterOf_32 ⟨C25, r25, rfl, rfl, wpO_some h⟩
    · refine r_iconst hK dX4_letterOf_31 ?_
      exact r_ireturn hK hr hQ rfl dX4_letterOf_32 ⟨C13, 0, rfl, rfl, wpO_some h⟩
set_option maxRecDepth 100000 in
set_option maxHeartbeats 4000000 in
theorem w_X4_entriesThatBegin_15 {K : KT} {g : GT} {X : Mem} {dd : Nat} (hK : Kok K g cX4_entriesThatBegin RX4 dd) (hN : kN K = 5) (hr : (kMe K).sig.returnType = (some .int)) {Q : Mem → Int → Prop} (hQ : kQ K = MQ (kB K) (Qc g (QI (fun c => mrg c X) Q)) (kA K) (kS K) (kc K) (ks K) (gS g)) (hdd : 3 ≤ dd) (u0 : Nat) (u1 : Nat) (u2 : Int) (u3 : Int) (hu0 : u0 < 34) (hu1 : u1 < 5) (k : Int → Mem → Option (Mem × Int)) (hk : ∀ (v4 : Int) (C : Mem), wpO (k v4 C) Q → Wn K g (mrg C X) 46 [some (.ref (gA g (27 + u0))), some (.ref (gA g (10 + 2 * u1))), some (.int (I (u2))), some (.int (I (u3))), some (.int (I (v4)))] []) : ∀ (n : Nat) (v4 : Int) (C : Mem), wpO (f_X4_entriesThatBegin_15 u0 u1 u2 u3 k n v4 C) Q → Wn K g (mrg C X) 15 [some (.ref (gA g (27 + u0))), some (.ref (gA g (10 + 2 * u1))), some (.int (I (u2))), some (.int (I (u3))), some (.int (I (v4)))] [] := by
  intro n
  induction n with
  | zero => intro v4 C h; exact (wpO_none h).elim
  | succ n ih =>
    intro v4 C h
    unfold f_X4_entriesThatBegin_15 at h
    refine r_iload hK dX4_entriesThatBegin_15 rfl ?_
    refine r_aload_n hK dX4_entriesThatBegin_17 rfl ?_
    refine r_getIN (k := (10 + 2 * u1)) hK cls_3 fl_RX4_59 (by decide) (by omega) (sh_key hu1) rfl dX4_entriesThatBegin_18 (mrg_c (by omega)) ?_
    refine r_icmp_ge hK dX4_entriesThatBegin_21 (t := 46) (by decide) (wpO_lt h) (fun h => ?_) (fun h => ?_)
    · refine r_aload_n hK dX4_entriesThatBegin_24 rfl ?_
      refine r_iload_n hK dX4_entriesThatBegin_25 rfl ?_
      refine r_iload hK dX4_entriesThatBegin_26 rfl ?_
      refine r_callV hK ck_X4_letterOf im_X4_letterOf sl_X4_letterOf ml_RX4_63 (by omega) (c_X4_letterOf (l := kL K) (g := g) (X := X) u0 (u3) (v4) hu0 C (wpO_bd h)) cls_4 (k := (27 + u0)) (by omega) (sh_page hu0) (As := [.int (I (u3)), .int (I (v4))]) (st := []) rfl (Nat.le_of_ble_eq_true rfl) dX4_entriesThatBegin_28 (kkI (fun C28 r28 h => ?_))
      refine r_aload_n hK dX4_entriesThatBegin_31 rfl ?_
      refine r_iload hK dX4_entriesThatBegin_32 rfl ?_
      refine r_callV hK ck_X3_at im_X3_at sl_X3_at ml_RX4_54 (by omega) (c_X3_at (l := kL K) (g := g) (X := X) u1 (v4) hu1 C28 (wpO_bd h)) cls_3 (k := (10 + 2 * u1)) (by omega) (sh_key hu1) (As := [.int (I (v4))]) (st := [.int (I (r28))]) rfl (Nat.le_of_ble_eq_true rfl) dX4_entriesThatBegin_34 (kkI (fun C34 r34 h => ?_))
      refine r_icmp_ne hK dX4_entriesThatBegin_37 (t := 46) (by decide) (wpO_eq h) (fun h => ?_) (fun h => ?_)
      · refine r_iinc hK dX4_entriesThatBegin_40 (by rw [hN]; decide) rfl rfl (lv' := [some (.ref (gA g (27 + u0))), some (.ref (gA g (10 + 2 * u1))), some (.int (I (u2))), some (.int (I (u3))), some (.int (I (v4 + 1)))]) rfl ?_
        refine r_goto hK dX4_entriesThatBegin_43 (t := 15) (by decide) ?_
        exact ih (v4 + 1) C34 h
      · exact hk (v4) C34 h
    · exact hk (v4) C h
set_option maxRecDepth 100000 in
set_option maxHeartbeats 4000000 in
theorem w_X4_entriesThatBegin_4 {K : KT} {g : GT} {X : Mem} {dd : Nat} (hK : Kok K g cX4_entriesThatBegin RX4 dd) (hN : kN K = 5) (hr : (kMe K).sig.returnType = (some .int)) {Q : Mem → Int → Prop} (hQ : kQ K = MQ (kB K) (Qc g (QI (fun c => mrg c X) Q)) (kA K) (kS K) (kc K) (ks K) (gS g)) (hdd : 3 ≤ dd) (u0 : Nat) (u1 : Nat) (hu0 : u0 < 34) (hu1 : u1 < 5) (k : Int → Int → Mem → Option (Mem × Int)) (hk : ∀ (v2 : Int) (v3 : Int) (C : Mem), wpO (k v2 v3 C) Q → Wn K g (mrg C X) 64 [some (.ref (gA g (27 + u0))), some (.ref (gA g (10 + 2 * u1))), some (.int (I (v2))), some (.int (I (v3))), none] []) : ∀ (n : Nat) (v2 : Int) (v3 : Int) (C : Mem), wpO (f_X4_entriesThatBegin_4 u0 u1 k n v2 v3 C) Q → Wn K g (mrg C X) 4 [some (.ref (gA g (27 + u0))), some (.ref (gA g (10 + 2 * u1))), some (.int (I (v2))), some (.int (I (v3))), none] [] := by
  intro n
  induction n with
  | zero => intro v2 v3 C h; exact (wpO_none h).elim
  | succ n ih =>
    intro v2 v3 C h
    unfold f_X4_entriesThatBegin_4 at h
    refine r_iload_n hK dX4_entriesThatBegin_4 rfl ?_
    refine r_aload_n hK dX4_entriesThatBegin_5 rfl ?_
    refine r_callV hK ck_X4_entries im_X4_entries sl_X4_entries ml_RX4_25 (by omega) (c_X4_entries (l := kL K) (g := g) (X := X) u0 hu0 C (wpO_bd h)) cls_4 (k := (27 + u0)) (by omega) (sh_page hu0) (As := []) (st := [.int (I (v3))]) rfl (Nat.le_of_ble_eq_true rfl) dX4_entriesThatBegin_6 (kkI (fun C6 r6 h => ?_))
    refine r_icmp_ge hK dX4_entriesThatBegin_9 (t := 64) (by decide) (wpO_lt h) (fun h => ?_) (fun h => ?_)
    · refine r_iconst hK dX4_entriesThatBegin_12 ?_
      refine r_istore hK dX4_entriesThatBegin_13 (by rw [hN]; decide) rfl (lv' := [some (.ref (gA g (27 + u0))), some (.ref (gA g (10 + 2 * u1))), some (.int (I (v2))), some (.int (I (v3))), some (.int (I (0)))]) rfl ?_
      refine w_X4_entriesThatBegin_15 hK hN hr hQ (by omega) u0 u1 (v2) (v3) hu0 hu1 _ (fun v4_e15 C_e15 h => ?_) FU (0) C6 h
      refine r_iload hK dX4_entriesThatBegin_46 rfl ?_
      refine r_aload_n hK dX4_entriesThatBegin_48 rfl ?_
      refine r_getIN (k := (10 + 2 * u1)) hK cls_3 fl_RX4_59 (by decide) (by omega) (sh_key hu1) rfl dX4_entriesThatBegin_49 (mrg_c (by omega)) ?_
      refine r_icmp_ne hK dX4_entriesThatBegin_52 (t := 58) (by decide) (wpO_eq h) (fun h => ?_) (fun h => ?_)
      · refine r_iinc hK dX4_entriesThatBegin_55 (by rw [hN]; decide) rfl rfl (lv' := [some (.ref (gA g (27 + u0))), some (.ref (gA g (10 + 2 * u1))), some (.int (I (v2 + 1))), some (.int (I (v3))), some (.int (I (v4_e15)))]) rfl ?_
        refine r_iinc hK dX4_entriesThatBegin_58 (by rw [hN]; decide) rfl rfl (lv' := [some (.ref (gA g (27 + u0))), some (.ref (gA g (10 + 2 * u1))), some (.int (I (v2 + 1))), some (.int (I (v3 + 1))), some (.int (I (v4_e15)))]) rfl ?_
        refine r_goto hK dX4_entriesThatBegin_61 (t := 4) (by decide) ?_
        refine r_cut [true, true, true, true, false] (lv' := [some (.ref (gA g (27 + u0))), some (.ref (gA g (10 + 2 * u1))), some (.int (I (v2 + 1))), some (.int (I (v3 + 1))), none]) rfl ?_
        exact ih (v2 + 1) (v3 + 1) C_e15 h
      · refine r_iinc hK dX4_entriesThatBegin_58 (by rw [hN]; decide) rfl rfl (lv' := [some (.ref (gA g (27 + u0))), some (.ref (gA g (10 + 2 * u1))), some (.int (I (v2))), some (.int (I (v3 + 1))), some (.int (I (v4_e15)))]) rfl ?_
        refine r_goto hK dX4_entriesThatBegin_61 (t := 4) (by decide) ?_
        refine r_cut [true, true, true, true, false] (lv' := [some (.ref (gA g (27 + u0))), some (.ref (gA g (10 + 2 * u1))), some (.int (I (v2))), some (.int (I (v3 + 1))), none]) rfl ?_
        exact ih (v2) (v3 + 1) C_e15 h
    · exact hk (v2) (v3) C6 h
set_option maxRecDepth 100000 in
set_option maxHeartbeats 4000000 in
theorem c_X4_entriesThatBegin {l : Launch} {g : GT} {X : Mem} {Q : Mem → Int → Prop} (a0 : Nat) (a1 : Nat) (ha0 : a0 < 34) (ha1 : a1 < 5) (C : Mem) (h : wpO (f_X4_entriesThatBegin a0 a1 C) Q) : MetC l yX4_entriesThatBegin cX4_entriesThatBegin 5 (some .int) 3 g [.ref (gA g (27 + a0)), .ref (gA g (10 + 2 * a1))] (mrg C X) (QI (fun c => mrg c X) Q) := by
  refine met_at 3 (lv := [some (.ref (gA g (27 + a0))), some (.ref (gA g (10 + 2 * a1))), none, none, none]) (by decide) (Nat.le_of_ble_eq_true rfl) rfl rfl (fun K hK hN hr hQ => ?_)
  unfold f_X4_entriesThatBegin at h
  refine r_iconst hK dX4_entriesThatBegin_0 ?_
  refine r_istore_n hK dX4_entriesThatBegin_1 (by rw [hN]; decide) rfl (lv' := [some (.ref (gA g (27 + a0))), some (.ref (gA g (10 + 2 * a1))), some (.int (I (0))), none, none]) rfl ?_
  refine r_iconst hK dX4_entriesThatBegin_2 ?_
  refine r_istore_n hK dX4_entriesThatBegin_3 (by rw [hN]; decide) rfl (lv' := [some (.ref (gA g (27 + a0))), some (.ref (gA g (10 + 2 * a1))), some (.int (I (0))), some (.int (I (0))), none]) rfl ?_
  refine w_X4_entriesThatBegin_4 hK hN hr hQ (by omega) a0 a1 ha0 ha1 _ (fun v2_e4 v3_e4 C_e4 h => ?_) FU (0) (0) C h
  refine r_iload_n hK dX4_entriesThatBegin_64 rfl ?_
  exact r_ireturn hK hr hQ rfl dX4_entriesThatBegin_65 ⟨C_e4, v2_e4, rfl, rfl, wpO_some h⟩

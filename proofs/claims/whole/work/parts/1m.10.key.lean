set_option maxRecDepth 100000 in
set_option maxHeartbeats 4000000 in
theorem c_X3_empty {l : Launch} {g : GT} {X : Mem} {Q : Mem → Int → Prop} (a0 : Nat) (ha0 : a0 < 5) (C : Mem) (h : wpO (f_X3_empty a0 C) Q) : MetC l yX3_empty cX3_empty 1 none 1 g [.ref (gA g (10 + 2 * a0))] (mrg C X) (QV (fun c => mrg c X) Q) := by
  refine met_at 0 (lv := [some (.ref (gA g (10 + 2 * a0)))]) (by decide) (Nat.le_of_ble_eq_true rfl) rfl rfl (fun K hK hN hr hQ => ?_)
  unfold f_X3_empty at h
  refine r_aload_n hK dX3_empty_0 rfl ?_
  refine r_iconst hK dX3_empty_1 ?_
  refine r_put (k := (10 + 2 * a0)) hK cls_3 fl_RX3_15 (by decide) (by omega) (sh_key ha0) rfl rfl rfl rfl dX3_empty_2 (up_c (by omega)) ?_
  exact r_return hK hr hQ dX3_empty_5 ⟨(up C (10 + 2 * a0) 1 (0)), rfl, rfl, wpO_some h⟩
set_option maxRecDepth 100000 in
set_option maxHeartbeats 4000000 in
theorem c_X3_add {l : Launch} {g : GT} {X : Mem} {Q : Mem → Int → Prop} (a0 : Nat) (a1 : Int) (ha0 : a0 < 5) (C : Mem) (h : wpO (f_X3_add a0 a1 C) Q) : MetC l yX3_add cX3_add 2 none 1 g [.ref (gA g (10 + 2 * a0)), .int (I (a1))] (mrg C X) (QV (fun c => mrg c X) Q) := by
  refine met_at 0 (lv := [some (.ref (gA g (10 + 2 * a0))), some (.int (I (a1)))]) (by decide) (Nat.le_of_ble_eq_true rfl) rfl rfl (fun K hK hN hr hQ => ?_)
  unfold f_X3_add at h
  refine r_aload_n hK dX3_add_0 rfl ?_
  refine r_getI (k := (10 + 2 * a0)) hK cls_3 fl_RX3_15 (by decide) (by omega) (sh_key ha0) rfl dX3_add_1 (mrg_c (by omega)) ?_
  refine r_if_lt hK dX3_add_4 (t := 39) (by decide) (wpO_lt h) (fun h => ?_) (fun h => ?_)
  · exact r_return hK hr hQ dX3_add_39 ⟨C, rfl, rfl, wpO_some h⟩
  · refine r_aload_n hK dX3_add_7 rfl ?_
    refine r_getI (k := (10 + 2 * a0)) hK cls_3 fl_RX3_15 (by decide) (by omega) (sh_key ha0) rfl dX3_add_8 (mrg_c (by omega)) ?_
    refine r_aload_n hK dX3_add_11 rfl ?_
    refine r_getR (k := (10 + 2 * a0)) (k' := (11 + 2 * a0)) hK cls_3 fl_RX3_9 (by decide) (by omega) (sh_key ha0) rfl dX3_add_12 ?_
    refine r_alen (k := (11 + 2 * a0)) hK (by omega) (sh_kl ha0) (by decide) dX3_add_15 ?_
    refine r_icmp_ge hK dX3_add_16 (t := 39) (by decide) (wpO_lt h) (fun h => ?_) (fun h => ?_)
    · refine r_aload_n hK dX3_add_19 rfl ?_
      refine r_getR (k := (10 + 2 * a0)) (k' := (11 + 2 * a0)) hK cls_3 fl_RX3_9 (by decide) (by omega) (sh_key ha0) rfl dX3_add_20 ?_
      refine r_aload_n hK dX3_add_23 rfl ?_
      refine r_getI (k := (10 + 2 * a0)) hK cls_3 fl_RX3_15 (by decide) (by omega) (sh_key ha0) rfl dX3_add_24 (mrg_c (by omega)) ?_
      refine r_iload_n hK dX3_add_27 rfl ?_
      obtain ⟨hb28, h⟩ := wpO_ix h
      refine r_iastore (k := (11 + 2 * a0)) hK (by omega) (sh_kl ha0) (by decide) hb28 dX3_add_28 (up_c (by omega)) ?_
      refine r_aload_n hK dX3_add_29 rfl ?_
      refine r_dup hK dX3_add_30 rfl ?_
      refine r_getI (k := (10 + 2 * a0)) hK cls_3 fl_RX3_15 (by decide) (by omega) (sh_key ha0) rfl dX3_add_31 (mrg_c (by omega)) ?_
      refine r_iconst hK dX3_add_34 ?_
      refine r_iadd hK dX3_add_35 ?_
      refine r_put (k := (10 + 2 * a0)) hK cls_3 fl_RX3_15 (by decide) (by omega) (sh_key ha0) rfl rfl rfl rfl dX3_add_36 (up_c (by omega)) ?_
      exact r_return hK hr hQ dX3_add_39 ⟨(up (up C (11 + 2 * a0) (C (10 + 2 * a0) 1).toNat (a1)) (10 + 2 * a0) 1 (((up C (11 + 2 * a0) (C (10 + 2 * a0) 1).toNat (a1)) (10 + 2 * a0) 1) + 1)), rfl, rfl, wpO_some h⟩
    · exact r_return hK hr hQ dX3_add_39 ⟨C, rfl, rfl, wpO_some h⟩
set_option maxRecDepth 100000 in
set_option maxHeartbeats 4000000 in
theorem c_X3_at {l : Launch} {g : GT} {X : Mem} {Q : Mem → Int → Prop} (a0 : Nat) (a1 : Int) (ha0 : a0 < 5) (C : Mem) (h : wpO (f_X3_at a0 a1 C) Q) : MetC l yX3_at cX3_at 2 (some .int) 1 g [.ref (gA g (10 + 2 * a0)), .int (I (a1))] (mrg C X) (QI (fun c => mrg c X) Q) := by
  refine met_at 0 (lv := [some (.ref (gA g (10 + 2 * a0))), some (.int (I (a1)))]) (by decide) (Nat.le_of_ble_eq_true rfl) rfl rfl (fun K hK hN hr hQ => ?_)
  unfold f_X3_at at h
  refine r_iload_n hK dX3_at_0 rfl ?_
  refine r_if_lt hK dX3_at_1 (t := 30) (by decide) (wpO_lt h) (fun h => ?_) (fun h => ?_)
  · refine r_iconst hK dX3_at_30 ?_
    exact r_ireturn hK hr hQ rfl dX3_at_31 ⟨C, 0, rfl, rfl, wpO_some h⟩
  · refine r_iload_n hK dX3_at_4 rfl ?_
    refine r_aload_n hK dX3_at_5 rfl ?_
    refine r_getI (k := (10 + 2 * a0)) hK cls_3 fl_RX3_15 (by decide) (by omega) (sh_key ha0) rfl dX3_at_6 (mrg_c (by omega)) ?_
    refine r_icmp_ge hK dX3_at_9 (t := 30) (by decide) (wpO_lt h) (fun h => ?_) (fun h => ?_)
    · refine r_iload_n hK dX3_at_12 rfl ?_
      refine r_aload_n hK dX3_at_13 rfl ?_
      refine r_getR (k := (10 + 2 * a0)) (k' := (11 + 2 * a0)) hK cls_3 fl_RX3_9 (by decide) (by omega) (sh_key ha0) rfl dX3_at_14 ?_
      refine r_alen (k := (11 + 2 * a0)) hK (by omega) (sh_kl ha0) (by decide) dX3_at_17 ?_
      refine r_icmp_ge hK dX3_at_18 (t := 30) (by decide) (wpO_lt h) (fun h => ?_) (fun h => ?_)
      · refine r_aload_n hK dX3_at_21 rfl ?_
        refine r_getR (k := (10 + 2 * a0)) (k' := (11 + 2 * a0)) hK cls_3 fl_RX3_9 (by decide) (by omega) (sh_key ha0) rfl dX3_at_22 ?_
        refine r_iload_n hK dX3_at_25 rfl ?_
        obtain ⟨hb26, h⟩ := wpO_ix h
        refine r_iaload (k := (11 + 2 * a0)) hK (by omega) (sh_kl ha0) (by decide) hb26 dX3_at_26 (mrg_c (by omega)) ?_
        refine r_goto hK dX3_at_27 (t := 31) (by decide) ?_
        exact r_ireturn hK hr hQ rfl dX3_at_31 ⟨C, (C (11 + 2 * a0) (a1).toNat), rfl, rfl, wpO_some h⟩
      · refine r_iconst hK dX3_at_30 ?_
        exact r_ireturn hK hr hQ rfl dX3_at_31 ⟨C, 0, rfl, rfl, wpO_some h⟩
    · refine r_iconst hK dX3_at_30 ?_
      exact r_ireturn hK hr hQ rfl dX3_at_31 ⟨C, 0, rfl, rfl, wpO_some h⟩
set_option maxRecDepth 100000 in
set_option maxHeartbeats 4000000 in
theorem w_X3_copyFrom_6 {K : KT} {g : GT} {X : Mem} {dd : Nat} (hK : Kok K g cX3_copyFrom RX3 dd) (hN : kN K = 3) (hr : (kMe K).sig.returnType = none) {Q : Mem → Int → Prop} (hQ : kQ K = MQ (kB K) (Qc g (QV (fun c => mrg c X) Q)) (kA K) (kS K) (kc K) (ks K) (gS g)) (hdd : 2 ≤ dd) (u0 : Nat) (u1 : Nat) (hu0 : u0 < 5) (hu1 : u1 < 5) (k : Int → Mem → Option (Mem × Int)) (hk : ∀ (v2 : Int) (C : Mem), wpO (k v2 C) Q → Wn K g (mrg C X) 29 [some (.ref (gA g (10 + 2 * u0))), some (.ref (gA g (10 + 2 * u1))), some (.int (I (v2)))] []) : ∀ (n : Nat) (v2 : Int) (C : Mem), wpO (f_X3_copyFrom_6 u0 u1 k n v2 C) Q → Wn K g (mrg C X) 6 [some (.ref (gA g (10 + 2 * u0))), some (.ref (gA g (10 + 2 * u1))), some (.int (I (v2)))] [] := by
  intro n
  induction n with
  | zero => intro v2 C h; exact (wpO_none h).elim
  | succ n ih =>
    intro v2 C h
    unfold f_X3_copyFrom_6 at h
    refine r_iload_n hK dX3_copyFrom_6 rfl ?_
    refine r_aload_n hK dX3_copyFrom_7 rfl ?_
    refine r_getI (k := (10 + 2 * u1)) hK cls_3 fl_RX3_15 (by decide) (by omega) (sh_key hu1) rfl dX3_copyFrom_8 (mrg_c (by omega)) ?_
    refine r_icmp_ge hK dX3_copyFrom_11 (t := 29) (by decide) (wpO_lt h) (fun h => ?_) (fun h => ?_)
    · refine r_aload_n hK dX3_copyFrom_14 rfl ?_
      refine r_aload_n hK dX3_copyFrom_15 rfl ?_
      refine r_iload_n hK dX3_copyFrom_16 rfl ?_
      refine r_callV hK ck_X3_at im_X3_at sl_X3_at ml_RX3_22 (by omega) (c_X3_at (l := kL K) (g := g) (X := X) u1 (v2) hu1 C (wpO_bd h)) cls_3 (k := (10 + 2 * u1)) (by omega) (sh_key hu1) (As := [.int (I (v2))]) (st := [.ref (gA g (10 + 2 * u0))]) rfl (Nat.le_of_ble_eq_true rfl) dX3_copyFrom_17 (kkI (fun C17 r17 h => ?_))
      refine r_callV hK ck_X3_add im_X3_add sl_X3_add ml_RX3_26 (by omega) (c_X3_add (l := kL K) (g := g) (X := X) u0 (r17) hu0 C17 (wpO_bd h)) cls_3 (k := (10 + 2 * u0)) (by omega) (sh_key hu0) (As := [.int (I (r17))]) (st := []) rfl (Nat.le_of_ble_eq_true rfl) dX3_copyFrom_20 (kkV (fun C20 h => ?_))
      refine r_iinc hK dX3_copyFrom_23 (by rw [hN]; decide) rfl rfl (lv' := [some (.ref (gA g (10 + 2 * u0))), some (.ref (gA g (10 + 2 * u1))), some (.int (I (v2 + 1)))]) rfl ?_
      refine r_goto hK dX3_copyFrom_26 (t := 6) (by decide) ?_
      exact ih (v2 + 1) C20 h
    · exact hk (v2) C h
set_option maxRecDepth 100000 in
set_option maxHeartbeats 4000000 in
theorem c_X3_copyFrom {l : Launch} {g : GT} {X : Mem} {Q : Mem → Int → Prop} (a0 : Nat) (a1 : Nat) (ha0 : a0 < 5) (ha1 : a1 < 5) (C : Mem) (h : wpO (f_X3_copyFrom a0 a1 C) Q) : MetC l yX3_copyFrom cX3_copyFrom 3 none 2 g [.ref (gA g (10 + 2 * a0)), .ref (gA g (10 + 2 * a1))] (mrg C X) (QV (fun c => mrg c X) Q) := by
  refine met_at 1 (lv := [some (.ref (gA g (10 + 2 * a0))), some (.ref (gA g (10 + 2 * a1))), none]) (by decide) (Nat.le_of_ble_eq_true rfl) rfl rfl (fun K hK hN hr hQ => ?_)
  unfold f_X3_copyFrom at h
  refine r_aload_n hK dX3_copyFrom_0 rfl ?_
  refine r_callV hK ck_X3_empty im_X3_empty sl_X3_empty ml_RX3_19 (by omega) (c_X3_empty (l := kL K) (g := g) (X := X) a0 ha0 C (wpO_bd h)) cls_3 (k := (10 + 2 * a0)) (by omega) (sh_key ha0) (As := []) (st := []) rfl (Nat.le_of_ble_eq_true rfl) dX3_copyFrom_1 (kkV (fun C1 h => ?_))
  refine r_iconst hK dX3_copyFrom_4 ?_
  refine r_istore_n hK dX3_copyFrom_5 (by rw [hN]; decide) rfl (lv' := [some (.ref (gA g (10 + 2 * a0))), some (.ref (gA g (10 + 2 * a1))), some (.int (I (0)))]) rfl ?_
  refine w_X3_copyFrom_6 hK hN hr hQ (by omega) a0 a1 ha0 ha1 _ (fun v2_e6 C_e6 h => ?_) FU (0) C1 h
  exact r_return hK hr hQ dX3_copyFrom_29 ⟨C_e6, rfl, rfl, wpO_some h⟩
set_option maxRecDepth 100000 in
set_option maxHeartbeats 4000000 in
theorem w_X3_cutAbove_2 {K : KT} {g : GT} {X : Mem} {dd : Nat} (hK : Kok K g cX3_cutAbove RX3 dd) (hN : kN K = 3) (hr : (kMe K).sig.returnType = none) {Q : Mem → Int → Prop} (hQ : kQ K = MQ (kB K) (Qc g (QV (fun c => mrg c X) Q)) (kA K) (kS K) (kc K) (ks K) (gS g)) (hdd : 2 ≤ dd) (u0 : Nat) (u1 : Nat) (hu0 : u0 < 5) (hu1 : u1 < 5) (k : Int → Mem → Option (Mem × Int)) (hk : ∀ (v2 : Int) (C : Mem), wpO (k v2 C) Q → Wn K g (mrg C X) 29 [some (.ref (gA g (10 + 2 * u0))), some (.ref (gA g (10 + 2 * u1))), some (.int (I (v2)))] []) : ∀ (n : Nat) (v2 : Int) (C : Mem), wpO (f_X3_cutAbove_2 u0 u1 k n v2 C) Q → Wn K g (mrg C X) 2 [some (.ref (gA g (10 + 2 * u0))), some (.ref (gA g (10 + 2 * u1))), some (.int (I (v2)))] [] := by
  intro n
  induction n with
  | zero => intro v2 C h; exact (wpO_none h).elim
  | succ n ih =>
    intro v2 C h
    unfold f_X3_cutAbove_2 at h
    refine r_iload_n hK dX3_cutAbove_2 rfl ?_
    refine r_aload_n hK dX3_cutAbove_3 rfl ?_
    refine r_getI (k := (10 + 2 * u0)) hK cls_3 fl_RX3_15 (by decide) (by omega) (sh_key hu0) rfl dX3_cutAbove_4 (mrg_c (by omega)) ?_
    refine r_icmp_ge hK dX3_cutAbove_7 (t := 29) (by decide) (wpO_lt h) (fun h => ?_) (fun h => ?_)
    · refine r_aload_n hK dX3_cutAbove_10 rfl ?_
      refine r_iload_n hK dX3_cutAbove_11 rfl ?_
      refine r_callV hK ck_X3_at im_X3_at sl_X3_at ml_RX3_22 (by omega) (c_X3_at (l := kL K) (g := g) (X := X) u0 (v2) hu0 C (wpO_bd h)) cls_3 (k := (10 + 2 * u0)) (by omega) (sh_key hu0) (As := [.int (I (v2))]) (st := []) rfl (Nat.le_of_ble_eq_true rfl) dX3_cutAbove_12 (kkI (fun C12 r12 h => ?_))
      refine r_aload_n hK dX3_cutAbove_15 rfl ?_
      refine r_iload_n hK dX3_cutAbove_16 rfl ?_
      refine r_callV hK ck_X3_at im_X3_at sl_X3_at ml_RX3_22 (by omega) (c_X3_at (l := kL K) (g := g) (X := X) u1 (v2) hu1 C12 (wpO_bd h)) cls_3 (k := (10 + 2 * u1)) (by omega) (sh_key hu1) (As := [.int (I (v2))]) (st := [.int (I (r12))]) rfl (Nat.le_of_ble_eq_true rfl) dX3_cutAbove_17 (kkI (fun C17 r17 h => ?_))
      refine r_icmp_ne hK dX3_cutAbove_20 (t := 29) (by decide) (wpO_eq h) (fun h => ?_) (fun h => ?_)
      · refine r_iinc hK dX3_cutAbove_23 (by rw [hN]; decide) rfl rfl (lv' := [some (.ref (gA g (10 + 2 * u0))), some (.ref (gA g (10 + 2 * u1))), some (.int (I (v2 + 1)))]) rfl ?_
        refine r_goto hK dX3_cutAbove_26 (t := 2) (by decide) ?_
        exact ih (v2 + 1) C17 h
      · exact hk (v2) C17 h
    · exact hk (v2) C h
set_option maxRecDepth 100000 in
set_option maxHeartbeats 4000000 in
theorem c_X3_cutAbove {l : Launch} {g : GT} {X : Mem} {Q : Mem → Int → Prop} (a0 : Nat) (a1 : Nat) (ha0 : a0 < 5) (ha1 : a1 < 5) (C : Mem) (h : wpO (f_X3_cutAbove a0 a1 C) Q) : MetC l yX3_cutAbove cX3_cutAbove 3 none 2 g [.ref (gA g (10 + 2 * a0)), .ref (gA g (10 + 2 * a1))] (mrg C X) (QV (fun c => mrg c X) Q) := by
  refine met_at 1 (lv := [some (.ref (gA g (10 + 2 * a0))), some (.ref (gA g (10 + 2 * a1))), none]) (by decide) (Nat.le_of_ble_eq_true rfl) rfl rfl (fun K hK hN hr hQ => ?_)
  unfold f_X3_cutAbove at h
  refine r_iconst hK dX3_cutAbove_0 ?_
  refine r_istore_n hK dX3_cutAbove_1 (by rw [hN]; decide) rfl (lv' := [some (.ref (gA g (10 + 2 * a0))), some (.ref (gA g (10 + 2 * a1))), some (.int (I (0)))]) rfl ?_
  refine w_X3_cutAbove_2 hK hN hr hQ (by omega) a0 a1 ha0 ha1 _ (fun v2_e2 C_e2 h => ?_) FU (0) C h
  refine r_aload_n hK dX3_cutAbove_29 rfl ?_
  refine r_aload_n hK dX3_cutAbove_30 rfl ?_
  refine r_getI (k := (10 + 2 * a0)) hK cls_3 fl_RX3_15 (by decide) (by omega) (sh_key ha0) rfl dX3_cutAbove_31 (mrg_c (by omega)) ?_
  refine r_iload_n hK dX3_cutAbove_34 rfl ?_
  refine r_iconst hK dX3_cutAbove_35 ?_
  refine r_iadd hK dX3_cutAbove_36 ?_
  obtain ⟨hg37, h⟩ := wpO_rg h
  refine r_mmin hK ml_RX3_30 mt_min.1 mt_min.2.1 mt_min.2.2 (by omega) (Nat.le_of_ble_eq_true rfl) hg37 dX3_cutAbove_37 ?_
  refine r_put (k := (10 + 2 * a0)) hK cls_3 fl_RX3_15 (by decide) (by omega) (sh_key ha0) rfl rfl rfl rfl dX3_cutAbove_40 (up_c (by omega)) ?_
  exact r_return hK hr hQ dX3_cutAbove_43 ⟨(up C_e2 (10 + 2 * a0) 1 (min (C_e2 (10 + 2 * a0) 1) (v2_e2 + 1))), rfl, rfl, wpO_some h⟩
set_option maxRecDepth 100000 in
set_option maxHeartbeats 4000000 in
theorem w_X3_spell_27 {K : KT} {g : GT} {X : Mem} {dd : Nat} (hK : Kok K g cX3_spell RX3 dd) (hN : kN K = 5) (hr : (kMe K).sig.returnType = none) {Q : Mem → Int → Prop} (hQ : kQ K = MQ (kB K) (Qc g (QV (fun c => mrg c X) Q)) (kA K) (kS K) (kc K) (ks K) (gS g)) (hdd : 1 ≤ dd) (u0 : Nat) (hu0 : u0 < 5) (k : Int → Int → Mem → Option (Mem × Int)) (hk : ∀ (v3 : Int) (v4 : Int) (C : Mem), wpO (k v3 v4 C) Q → Wn K g (mrg C X) 57 [some (.ref (gA g (10 + 2 * u0))), none, none, some (.int (I (v3))), some (.int (I (v4)))] []) : ∀ (n : Nat) (v3 : Int) (v4 : Int) (C : Mem), wpO (f_X3_spell_27 u0 k n v3 v4 C) Q → Wn K g (mrg C X) 27 [some (.ref (gA g (10 + 2 * u0))), none, none, some (.int (I (v3))), some (.int (I (v4)))] [] := by
  intro n
  induction n with
  | zero => intro v3 v4 C h; exact (wpO_none h).elim
  | succ n ih =>
    intro v3 v4 C h
    unfold f_X3_spell_27 at h
    refine r_iload hK dX3_spell_27 rfl ?_
    refine r_if_lt hK dX3_spell_29 (t := 57) (by decide) (wpO_lt h) (fun h => ?_) (fun h => ?_)
    · exact hk (v3) (v4) C h
    · refine r_aload_n hK dX3_spell_32 rfl ?_
      refine r_getR (k := (10 + 2 * u0)) (k' := (11 + 2 * u0)) hK cls_3 fl_RX3_9 (by decide) (by omega) (sh_key hu0) rfl dX3_spell_33 ?_
      refine r_iload hK dX3_spell_36 rfl ?_
      refine r_bipush hK dX3_spell_38 (by decide) ?_
      refine r_iload_n hK dX3_spell_40 rfl ?_
      refine r_bipush hK dX3_spell_41 (by decide) ?_
      obtain ⟨hd43, h⟩ := wpO_dv h
      refine r_irem hK hd43 (by decide) dX3_spell_43 ?_
      refine r_iadd hK dX3_spell_44 ?_
      obtain ⟨hb45, h⟩ := wpO_ix h
      refine r_iastore (k := (11 + 2 * u0)) hK (by omega) (sh_kl hu0) (by decide) hb45 dX3_spell_45 (up_c (by omega)) ?_
      refine r_iload_n hK dX3_spell_46 rfl ?_
      refine r_bipush hK dX3_spell_47 (by decide) ?_
      obtain ⟨hd49, h⟩ := wpO_dv h
      refine r_idiv hK hd49 (by decide) dX3_spell_49 ?_
      refine r_istore_n hK dX3_spell_50 (by rw [hN]; decide) rfl (lv' := [some (.ref (gA g (10 + 2 * u0))), none, none, some (.int (I (v3 / 26))), some (.int (I (v4)))]) rfl ?_
      refine r_iinc hK dX3_spell_51 (by rw [hN]; decide) rfl rfl (lv' := [some (.ref (gA g (10 + 2 * u0))), none, none, some (.int (I (v3 / 26))), some (.int (I (v4 + (-1))))]) rfl ?_
      refine r_goto hK dX3_spell_54 (t := 27) (by decide) ?_
      exact ih (v3 / 26) (v4 + (-1)) (up C (11 + 2 * u0) (v4).toNat (97 + (v3 % 26))) h
set_option maxRecDepth 100000 in
set_option maxHeartbeats 4000000 in
theorem c_X3_spell {l : Launch} {g : GT} {X : Mem} {Q : Mem → Int → Prop} (a0 : Nat) (a1 : Int) (a2 : Int) (ha0 : a0 < 5) (C : Mem) (h : wpO (f_X3_spell a0 a1 a2 C) Q) : MetC l yX3_spell cX3_spell 5 none 1 g [.ref (gA g (10 + 2 * a0)), .int (I (a1)), .int (I (a2))] (mrg C X) (QV (fun c => mrg c X) Q) := by
  refine met_at 2 (lv := [some (.ref (gA g (10 + 2 * a0))), some (.int (I (a1))), some (.int (I (a2))), none, none]) (by decide) (Nat.le_of_ble_eq_true rfl) rfl rfl (fun K hK hN hr hQ => ?_)
  unfold f_X3_spell at h
  refine r_aload_n hK dX3_spell_0 rfl ?_
  refine r_iconst hK dX3_spell_1 ?_
  refine r_iload_n hK dX3_spell_2 rfl ?_
  refine r_aload_n hK dX3_spell_3 rfl ?_
  refine r_getR (k := (10 + 2 * a0)) (k' := (11 + 2 * a0)) hK cls_3 fl_RX3_9 (by decide) (by omega) (sh_key ha0) rfl dX3_spell_4 ?_
  refine r_alen (k := (11 + 2 * a0)) hK (by omega) (sh_kl ha0) (by decide) dX3_spell_7 ?_
  obtain ⟨hg8, h⟩ := wpO_rg h
  refine r_mmin hK ml_RX3_30 mt_min.1 mt_min.2.1 mt_min.2.2 (by omega) (Nat.le_of_ble_eq_true rfl) hg8 dX3_spell_8 ?_
  obtain ⟨hg11, h⟩ := wpO_rg h
  refine r_mmax hK ml_RX3_36 mt_max.1 mt_max.2.1 mt_max.2.2 (by omega) (Nat.le_of_ble_eq_true rfl) hg11 dX3_spell_11 ?_
  refine r_put (k := (10 + 2 * a0)) hK cls_3 fl_RX3_15 (by decide) (by omega) (sh_key ha0) rfl rfl rfl rfl dX3_spell_14 (up_c (by omega)) ?_
  refine r_iload_n hK dX3_spell_17 rfl ?_
  refine r_istore_n hK dX3_spell_18 (by rw [hN]; decide) rfl (lv' := [some (.ref (gA g (10 + 2 * a0))), some (.int (I (a1))), some (.int (I (a2))), some (.int (I (a1))), none]) rfl ?_
  refine r_aload_n hK dX3_spell_19 rfl ?_
  refine r_getI (k := (10 + 2 * a0)) hK cls_3 fl_RX3_15 (by decide) (by omega) (sh_key ha0) rfl dX3_spell_20 (mrg_c (by omega)) ?_
  refine r_iconst hK dX3_spell_23 ?_
  refine r_isub hK dX3_spell_24 ?_
  refine r_istore hK dX3_spell_25 (by rw [hN]; decide) rfl (lv' := [some (.ref (gA g (10 + 2 * a0))), some (.int (I (a1))), some (.int (I (a2))), some (.int (I (a1))), some (.int (I (((up C (10 + 2 * a0) 1 (max (0) (min (a2) (((8 : Nat) : Int))))) (10 + 2 * a0) 1) - 1)))]) rfl ?_
  refine r_cut [true, false, false, true, true] (lv' := [some (.ref (gA g (10 + 2 * a0))), none, none, some (.int (I (a1))), some (.int (I (((up C (10 + 2 * a0) 1 (max (0) (min (a2) (((8 : Nat) : Int))))) (10 + 2 * a0) 1) - 1)))]) rfl ?_
  refine w_X3_spell_27 hK hN hr hQ (by omega) a0 ha0 _ (fun v3_e27 v4_e27 C_e27 h => ?_) FU (a1) (((up C (10 + 2 * a0) 1 (max (0) (min (a2) (((8 : Nat) : Int))))) (10 + 2 * a0) 1) - 1) (up C (10 + 2 * a0) 1 (max (0) (min (a2) (((8 : Nat) : Int))))) h
  exact r_return hK hr hQ dX3_spell_57 ⟨C_e27, rfl, rfl, wpO_some h⟩

set_option maxRecDepth 100000 in
set_option maxHeartbeats 4000000 in
theorem c_X8_in {l : Launch} {g : GT} {Y : Mem} {Q : Mem → Int → Prop} (a0 : Int) (a1 : Int) (a2 : Int) (C : Mem) (h : wpO (f_X8_in a0 a1 a2 C) Q) : MetC l yX8_in cX8_in 3 (some .boolean) 1 g [.int (I (a0)), .int (I (a1)), .int (I (a2))] (mrg Y C) (QI (fun c => mrg Y c) Q) := by
  refine met_at 0 (lv := [some (.int (I (a0))), some (.int (I (a1))), some (.int (I (a2)))]) (by decide) (Nat.le_of_ble_eq_true rfl) rfl rfl (fun K hK hN hr hQ => ?_)
  unfold f_X8_in at h
  refine r_iload_n hK dX8_in_0 rfl ?_
  refine r_iload_n hK dX8_in_1 rfl ?_
  refine r_icmp_lt hK dX8_in_2 (t := 14) (by decide) (wpO_lt h) (fun h => ?_) (fun h => ?_)
  · refine r_iconst hK dX8_in_14 ?_
    exact r_ireturn hK hr hQ (nar_b (by decide)) dX8_in_15 ⟨C, 0, rfl, rfl, wpO_some h⟩
  · refine r_iload_n hK dX8_in_5 rfl ?_
    refine r_iload_n hK dX8_in_6 rfl ?_
    refine r_icmp_gt hK dX8_in_7 (t := 14) (by decide) (wpO_lt h) (fun h => ?_) (fun h => ?_)
    · refine r_iconst hK dX8_in_14 ?_
      exact r_ireturn hK hr hQ (nar_b (by decide)) dX8_in_15 ⟨C, 0, rfl, rfl, wpO_some h⟩
    · refine r_iconst hK dX8_in_10 ?_
      refine r_goto hK dX8_in_11 (t := 15) (by decide) ?_
      exact r_ireturn hK hr hQ (nar_b (by decide)) dX8_in_15 ⟨C, 1, rfl, rfl, wpO_some h⟩
set_option maxRecDepth 100000 in
set_option maxHeartbeats 4000000 in
theorem c_X8_at {l : Launch} {g : GT} {Y : Mem} {Q : Mem → Int → Prop} (a1 : Int) (a2 : Int) (C : Mem) (h : wpO (f_X8_at a1 a2 C) Q) : MetC l yX8_at cX8_at 3 (some .int) 1 g [.ref (gA g 95), .int (I (a1)), .int (I (a2))] (mrg Y C) (QI (fun c => mrg Y c) Q) := by
  refine met_at 0 (lv := [some (.ref (gA g 95)), some (.int (I (a1))), some (.int (I (a2)))]) (by decide) (Nat.le_of_ble_eq_true rfl) rfl rfl (fun K hK hN hr hQ => ?_)
  unfold f_X8_at at h
  refine r_aload_n hK dX8_at_0 rfl ?_
  refine r_getR (k := 95) (k' := (96)) hK cls_8 fl_RX8_7 (by decide) (by omega) rfl rfl dX8_at_1 ?_
  refine r_bipush hK dX8_at_4 (by decide) ?_
  refine r_iload_n hK dX8_at_6 rfl ?_
  refine r_imul hK dX8_at_7 ?_
  refine r_iload_n hK dX8_at_8 rfl ?_
  refine r_iadd hK dX8_at_9 ?_
  obtain ⟨hb10, h⟩ := wpO_ix h
  refine r_iaload (k := (96)) hK (by omega) rfl (by decide) hb10 dX8_at_10 (mrg_x (by omega)) ?_
  exact r_ireturn hK hr hQ rfl dX8_at_11 ⟨C, (C (96) ((64 * a1) + a2).toNat), rfl, rfl, wpO_some h⟩
set_option maxRecDepth 100000 in
set_option maxHeartbeats 4000000 in
theorem w_X8_clears_2 {K : KT} {g : GT} {Y : Mem} {dd : Nat} (hK : Kok K g cX8_clears RX8 dd) (hN : kN K = 3) (hr : (kMe K).sig.returnType = none) {Q : Mem → Int → Prop} (hQ : kQ K = MQ (kB K) (Qc g (QV (fun c => mrg Y c) Q)) (kA K) (kS K) (kc K) (ks K) (gS g)) (hdd : 1 ≤ dd) (u1 : Int) (k : Int → Mem → Option (Mem × Int)) (hk : ∀ (v2 : Int) (C : Mem), wpO (k v2 C) Q → Wn K g (mrg Y C) 26 [some (.ref (gA g 95)), some (.int (I (u1))), some (.int (I (v2)))] []) : ∀ (n : Nat) (v2 : Int) (C : Mem), wpO (f_X8_clears_2 u1 k n v2 C) Q → Wn K g (mrg Y C) 2 [some (.ref (gA g 95)), some (.int (I (u1))), some (.int (I (v2)))] [] := by
  intro n
  induction n with
  | zero => intro v2 C h; exact (wpO_none h).elim
  | succ n ih =>
    intro v2 C h
    unfold f_X8_clears_2 at h
    refine r_iload_n hK dX8_clears_2 rfl ?_
    refine r_bipush hK dX8_clears_3 (by decide) ?_
    refine r_icmp_ge hK dX8_clears_5 (t := 26) (by decide) (wpO_lt h) (fun h => ?_) (fun h => ?_)
    · refine r_aload_n hK dX8_clears_8 rfl ?_
      refine r_getR (k := 95) (k' := (96)) hK cls_8 fl_RX8_7 (by decide) (by omega) rfl rfl dX8_clears_9 ?_
      refine r_bipush hK dX8_clears_12 (by decide) ?_
      refine r_iload_n hK dX8_clears_14 rfl ?_
      refine r_imul hK dX8_clears_15 ?_
      refine r_iload_n hK dX8_clears_16 rfl ?_
      refine r_iadd hK dX8_clears_17 ?_
      refine r_iconst hK dX8_clears_18 ?_
      obtain ⟨hb19, h⟩ := wpO_ix h
      refine r_iastore (k := (96)) hK (by omega) rfl (by decide) hb19 dX8_clears_19 (up_x (by omega)) ?_
      refine r_iinc hK dX8_clears_20 (by rw [hN]; decide) rfl rfl (lv' := [some (.ref (gA g 95)), some (.int (I (u1))), some (.int (I (v2 + 1)))]) rfl ?_
      refine r_goto hK dX8_clears_23 (t := 2) (by decide) ?_
      exact ih (v2 + 1) (up C (96) ((64 * u1) + v2).toNat (0)) h
    · exact hk (v2) C h
set_option maxRecDepth 100000 in
set_option maxHeartbeats 4000000 in
theorem c_X8_clears {l : Launch} {g : GT} {Y : Mem} {Q : Mem → Int → Prop} (a1 : Int) (C : Mem) (h : wpO (f_X8_clears a1 C) Q) : MetC l yX8_clears cX8_clears 3 none 1 g [.ref (gA g 95), .int (I (a1))] (mrg Y C) (QV (fun c => mrg Y c) Q) := by
  refine met_at 1 (lv := [some (.ref (gA g 95)), some (.int (I (a1))), none]) (by decide) (Nat.le_of_ble_eq_true rfl) rfl rfl (fun K hK hN hr hQ => ?_)
  unfold f_X8_clears at h
  refine r_iconst hK dX8_clears_0 ?_
  refine r_istore_n hK dX8_clears_1 (by rw [hN]; decide) rfl (lv' := [some (.ref (gA g 95)), some (.int (I (a1))), some (.int (I (0)))]) rfl ?_
  refine w_X8_clears_2 hK hN hr hQ (by omega) (a1) _ (fun v2_e2 C_e2 h => ?_) FU (0) C h
  exact r_return hK hr hQ dX8_clears_26 ⟨C_e2, rfl, rfl, wpO_some h⟩
set_option maxRecDepth 100000 in
set_option maxHeartbeats 4000000 in
theorem w_X8_lowestFree_2 {K : KT} {g : GT} {Y : Mem} {dd : Nat} (hK : Kok K g cX8_lowestFree RX8 dd) (hN : kN K = 2) (hr : (kMe K).sig.returnType = (some .int)) {Q : Mem → Int → Prop} (hQ : kQ K = MQ (kB K) (Qc g (QI (fun c => mrg Y c) Q)) (kA K) (kS K) (kc K) (ks K) (gS g)) (hdd : 2 ≤ dd) (k : Int → Mem → Option (Mem × Int)) (hk : ∀ (v1 : Int) (C : Mem), wpO (k v1 C) Q → Wn K g (mrg Y C) 17 [some (.ref (gA g 95)), some (.int (I (v1)))] []) : ∀ (n : Nat) (v1 : Int) (C : Mem), wpO (f_X8_lowestFree_2 k n v1 C) Q → Wn K g (mrg Y C) 2 [some (.ref (gA g 95)), some (.int (I (v1)))] [] := by
  intro n
  induction n with
  | zero => intro v1 C h; exact (wpO_none h).elim
  | succ n ih =>
    intro v1 C h
    unfold f_X8_lowestFree_2 at h
    refine r_aload_n hK dX8_lowestFree_2 rfl ?_
    refine r_iload_n hK dX8_lowestFree_3 rfl ?_
    refine r_iconst hK dX8_lowestFree_4 ?_
    refine r_callV hK ck_X8_at im_X8_at sl_X8_at ml_RX8_69 (by omega) (c_X8_at (l := kL K) (g := g) (Y := Y) (v1) (0) C (wpO_bd h)) cls_8 (k := 95) (by omega) rfl (As := [.int (I (v1)), .int (I (0))]) (st := []) rfl (Nat.le_of_ble_eq_true rfl) dX8_lowestFree_5 (kkI (fun C5 r5 h => ?_))
    refine r_if_eq hK dX8_lowestFree_8 (t := 17) (by decide) (wpO_eq h) (fun h => ?_) (fun h => ?_)
    · exact hk (v1) C5 h
    · refine r_iinc hK dX8_lowestFree_11 (by rw [hN]; decide) rfl rfl (lv' := [some (.ref (gA g 95)), some (.int (I (v1 + 1)))]) rfl ?_
      refine r_goto hK dX8_lowestFree_14 (t := 2) (by decide) ?_
      exact ih (v1 + 1) C5 h
set_option maxRecDepth 100000 in
set_option maxHeartbeats 4000000 in
theorem c_X8_lowestFree {l : Launch} {g : GT} {Y : Mem} {Q : Mem → Int → Prop} (C : Mem) (h : wpO (f_X8_lowestFree C) Q) : MetC l yX8_lowestFree cX8_lowestFree 2 (some .int) 2 g [.ref (gA g 95)] (mrg Y C) (QI (fun c => mrg Y c) Q) := by
  refine met_at 1 (lv := [some (.ref (gA g 95)), none]) (by decide) (Nat.le_of_ble_eq_true rfl) rfl rfl (fun K hK hN hr hQ => ?_)
  unfold f_X8_lowestFree at h
  refine r_iconst hK dX8_lowestFree_0 ?_
  refine r_istore_n hK dX8_lowestFree_1 (by rw [hN]; decide) rfl (lv' := [some (.ref (gA g 95)), some (.int (I (0)))]) rfl ?_
  refine w_X8_lowestFree_2 hK hN hr hQ (by omega) _ (fun v1_e2 C_e2 h => ?_) FU (0) C h
  refine r_iload_n hK dX8_lowestFree_17 rfl ?_
  exact r_ireturn hK hr hQ rfl dX8_lowestFree_18 ⟨C_e2, v1_e2, rfl, rfl, wpO_some h⟩
set_option maxRecDepth 100000 in
set_option maxHeartbeats 4000000 in
theorem w_X8_freeMany_4 {K : KT} {g : GT} {Y : Mem} {dd : Nat} (hK : Kok K g cX8_freeMany RX8 dd) (hN : kN K = 3) (hr : (kMe K).sig.returnType = (some .int)) {Q : Mem → Int → Prop} (hQ : kQ K = MQ (kB K) (Qc g (QI (fun c => mrg Y c) Q)) (kA K) (kS K) (kc K) (ks K) (gS g)) (hdd : 2 ≤ dd) (k : Int → Int → Mem → Option (Mem × Int)) (hk : ∀ (v1 : Int) (v2 : Int) (C : Mem), wpO (k v1 v2 C) Q → Wn K g (mrg Y C) 33 [some (.ref (gA g 95)), some (.int (I (v1))), some (.int (I (v2)))] []) : ∀ (n : Nat) (v1 : Int) (v2 : Int) (C : Mem), wpO (f_X8_freeMany_4 k n v1 v2 C) Q → Wn K g (mrg Y C) 4 [some (.ref (gA g 95)), some (.int (I (v1))), some (.int (I (v2)))] [] := by
  intro n
  induction n with
  | zero => intro v1 v2 C h; exact (wpO_none h).elim
  | succ n ih =>
    intro v1 v2 C h
    unfold f_X8_freeMany_4 at h
    refine r_iload_n hK dX8_freeMany_4 rfl ?_
    refine r_bipush hK dX8_freeMany_5 (by decide) ?_
    refine r_icmp_ge hK dX8_freeMany_7 (t := 33) (by decide) (wpO_lt h) (fun h => ?_) (fun h => ?_)
    · refine r_iload_n hK dX8_freeMany_10 rfl ?_
      refine r_aload_n hK dX8_freeMany_11 rfl ?_
      refine r_iload_n hK dX8_freeMany_12 rfl ?_
      refine r_iconst hK dX8_freeMany_13 ?_
      refine r_callV hK ck_X8_at im_X8_at sl_X8_at ml_RX8_69 (by omega) (c_X8_at (l := kL K) (g := g) (Y := Y) (v2) (0) C (wpO_bd h)) cls_8 (k := 95) (by omega) rfl (As := [.int (I (v2)), .int (I (0))]) (st := [.int (I (v1))]) rfl (Nat.le_of_ble_eq_true rfl) dX8_freeMany_14 (kkI (fun C14 r14 h => ?_))
      refine r_if_ne hK dX8_freeMany_17 (t := 24) (by decide) (wpO_eq h) (fun h => ?_) (fun h => ?_)
      · refine r_iconst hK dX8_freeMany_20 ?_
        refine r_goto hK dX8_freeMany_21 (t := 25) (by decide) ?_
        refine r_iadd hK dX8_freeMany_25 ?_
        refine r_istore_n hK dX8_freeMany_26 (by rw [hN]; decide) rfl (lv' := [some (.ref (gA g 95)), some (.int (I (v1 + 1))), some (.int (I (v2)))]) rfl ?_
        refine r_iinc hK dX8_freeMany_27 (by rw [hN]; decide) rfl rfl (lv' := [some (.ref (gA g 95)), some (.int (I (v1 + 1))), some (.int (I (v2 + 1)))]) rfl ?_
        refine r_goto hK dX8_freeMany_30 (t := 4) (by decide) ?_
        exact ih (v1 + 1) (v2 + 1) C14 h
      · refine r_iconst hK dX8_freeMany_24 ?_
        refine r_iadd hK dX8_freeMany_25 ?_
        refine r_istore_n hK dX8_freeMany_26 (by rw [hN]; decide) rfl (lv' := [some (.ref (gA g 95)), some (.int (I (v1 + 0))), some (.int (I (v2)))]) rfl ?_
        refine r_iinc hK dX8_freeMany_27 (by rw [hN]; decide) rfl rfl (lv' := [some (.ref (gA g 95)), some (.int (I (v1 + 0))), some (.int (I (v2 + 1)))]) rfl ?_
        refine r_goto hK dX8_freeMany_30 (t := 4) (by decide) ?_
        exact ih (v1 + 0) (v2 + 1) C14 h
    · exact hk (v1) (v2) C h
set_option maxRecDepth 100000 in
set_option maxHeartbeats 4000000 in
theorem c_X8_freeMany {l : Launch} {g : GT} {Y : Mem} {Q : Mem → Int → Prop} (C : Mem) (h : wpO (f_X8_freeMany C) Q) : MetC l yX8_freeMany cX8_freeMany 3 (some .int) 2 g [.ref (gA g 95)] (mrg Y C) (QI (fun c => mrg Y c) Q) := by
  refine met_at 2 (lv := [some (.ref (gA g 95)), none, none]) (by decide) (Nat.le_of_ble_eq_true rfl) rfl rfl (fun K hK hN hr hQ => ?_)
  unfold f_X8_freeMany at h
  refine r_iconst hK dX8_freeMany_0 ?_
  refine r_istore_n hK dX8_freeMany_1 (by rw [hN]; decide) rfl (lv' := [some (.ref (gA g 95)), some (.int (I (0))), none]) rfl ?_
  refine r_iconst hK dX8_freeMany_2 ?_
  refine r_istore_n hK dX8_freeMany_3 (by rw [hN]; decide) rfl (lv' := [some (.ref (gA g 95)), some (.int (I (0))), some (.int (I (0)))]) rfl ?_
  refine w_X8_freeMany_4 hK hN hr hQ (by omega) _ (fun v1_e4 v2_e4 C_e4 h => ?_) FU (0) (0) C h
  refine r_iload_n hK dX8_freeMany_33 rfl ?_
  exact r_ireturn hK hr hQ rfl dX8_freeMany_34 ⟨C_e4, v1_e4, rfl, rfl, wpO_some h⟩
set_option maxRecDepth 100000 in
set_option maxHeartbeats 4000000 in
theorem w_X8_startOf_5 {K : KT} {g : GT} {Y : Mem} {dd : Nat} (hK : Kok K g cX8_startOf RX8 dd) (hN : kN K = 5) (hr : (kMe K).sig.returnType = (some .int)) {Q : Mem → Int → Prop} (hQ : kQ K = MQ (kB K) (Qc g (QI (fun c => mrg Y c) Q)) (kA K) (kS K) (kc K) (ks K) (gS g)) (hdd : 2 ≤ dd) (u1 : Int) (u2 : Int) (k : Int → Int → Mem → Option (Mem × Int)) (hk : ∀ (v3 : Int) (v4 : Int) (C : Mem), wpO (k v3 v4 C) Q → Wn K g (mrg Y C) 28 [some (.ref (gA g 95)), some (.int (I (u1))), some (.int (I (u2))), some (.int (I (v3))), some (.int (I (v4)))] []) : ∀ (n : Nat) (v3 : Int) (v4 : Int) (C : Mem), wpO (f_X8_startOf_5 u1 u2 k n v3 v4 C) Q → Wn K g (mrg Y C) 5 [some (.ref (gA g 95)), some (.int (I (u1))), some (.int (I (u2))), some (.int (I (v3))), some (.int (I (v4)))] [] := by
  intro n
  induction n with
  | zero => intro v3 v4 C h; exact (wpO_none h).elim
  | succ n ih =>
    intro v3 v4 C h
    unfold f_X8_startOf_5 at h
    refine r_iload hK dX8_startOf_5 rfl ?_
    refine r_iload_n hK dX8_startOf_7 rfl ?_
    refine r_icmp_ge hK dX8_startOf_8 (t := 28) (by decide) (wpO_lt h) (fun h => ?_) (fun h => ?_)
    · refine r_iload_n hK dX8_startOf_11 rfl ?_
      refine r_aload_n hK dX8_startOf_12 rfl ?_
      refine r_iload_n hK dX8_startOf_13 rfl ?_
      refine r_iload_n hK dX8_startOf_14 rfl ?_
      refine r_callV hK ck_X8_at im_X8_at sl_X8_at ml_RX8_69 (by omega) (c_X8_at (l := kL K) (g := g) (Y := Y) (u1) (v3) C (wpO_bd h)) cls_8 (k := 95) (by omega) rfl (As := [.int (I (u1)), .int (I (v3))]) (st := [.int (I (v3))]) rfl (Nat.le_of_ble_eq_true rfl) dX8_startOf_15 (kkI (fun C15 r15 h => ?_))
      refine r_iconst hK dX8_startOf_18 ?_
      refine r_iadd hK dX8_startOf_19 ?_
      refine r_iadd hK dX8_startOf_20 ?_
      refine r_istore_n hK dX8_startOf_21 (by rw [hN]; decide) rfl (lv' := [some (.ref (gA g 95)), some (.int (I (u1))), some (.int (I (u2))), some (.int (I (v3 + (r15 + 2)))), some (.int (I (v4)))]) rfl ?_
      refine r_iinc hK dX8_startOf_22 (by rw [hN]; decide) rfl rfl (lv' := [some (.ref (gA g 95)), some (.int (I (u1))), some (.int (I (u2))), some (.int (I (v3 + (r15 + 2)))), some (.int (I (v4 + 1)))]) rfl ?_
      refine r_goto hK dX8_startOf_25 (t := 5) (by decide) ?_
      exact ih (v3 + (r15 + 2)) (v4 + 1) C15 h
    · exact hk (v3) (v4) C h
set_option maxRecDepth 100000 in
set_option maxHeartbeats 4000000 in
theorem c_X8_startOf {l : Launch} {g : GT} {Y : Mem} {Q : Mem → Int → Prop} (a1 : Int) (a2 : Int) (C : Mem) (h : wpO (f_X8_startOf a1 a2 C) Q) : MetC l yX8_startOf cX8_startOf 5 (some .int) 2 g [.ref (gA g 95), .int (I (a1)), .int (I (a2))] (mrg Y C) (QI (fun c => mrg Y c) Q) := by
  refine met_at 2 (lv := [some (.ref (gA g 95)), some (.int (I (a1))), some (.int (I (a2))), none, none]) (by decide) (Nat.le_of_ble_eq_true rfl) rfl rfl (fun K hK hN hr hQ => ?_)
  unfold f_X8_startOf at h
  refine r_iconst hK dX8_startOf_0 ?_
  refine r_istore_n hK dX8_startOf_1 (by rw [hN]; decide) rfl (lv' := [some (.ref (gA g 95)), some (.int (I (a1))), some (.int (I (a2))), some (.int (I (3))), none]) rfl ?_
  refine r_iconst hK dX8_startOf_2 ?_
  refine r_istore hK dX8_startOf_3 (by rw [hN]; decide) rfl (lv' := [some (.ref (gA g 95)), some (.int (I (a1))), some (.int (I (a2))), some (.int (I (3))), some (.int (I (0)))]) rfl ?_
  refine w_X8_startOf_5 hK hN hr hQ (by omega) (a1) (a2) _ (fun v3_e5 v4_e5 C_e5 h => ?_) FU (3) (0) C h
  refine r_iload_n hK dX8_startOf_28 rfl ?_
  exact r_ireturn hK hr hQ rfl dX8_startOf_29 ⟨C_e5, v3_e5, rfl, rfl, wpO_some h⟩
set_option maxRecDepth 100000 in
set_option maxHeartbeats 4000000 in
theorem c_X8_usedOf {l : Launch} {g : GT} {Y : Mem} {Q : Mem → Int → Prop} (a1 : Int) (C : Mem) (h : wpO (f_X8_usedOf a1 C) Q) : MetC l yX8_usedOf cX8_usedOf 2 (some .int) 3 g [.ref (gA g 95), .int (I (a1))] (mrg Y C) (QI (fun c => mrg Y c) Q) := by
  refine met_at 0 (lv := [some (.ref (gA g 95)), some (.int (I (a1)))]) (by decide) (Nat.le_of_ble_eq_true rfl) rfl rfl (fun K hK hN hr hQ => ?_)
  unfold f_X8_usedOf at h
  refine r_aload_n hK dX8_usedOf_0 rfl ?_
  refine r_iload_n hK dX8_usedOf_1 rfl ?_
  refine r_iconst hK dX8_usedOf_2 ?_
  refine r_callV hK ck_X8_at im_X8_at sl_X8_at ml_RX8_69 (by omega) (c_X8_at (l := kL K) (g := g) (Y := Y) (a1) (0) C (wpO_bd h)) cls_8 (k := 95) (by omega) rfl (As := [.int (I (a1)), .int (I (0))]) (st := []) rfl (Nat.le_of_ble_eq_true rfl) dX8_usedOf_3 (kkI (fun C3 r3 h => ?_))
  refine r_if_ne hK dX8_usedOf_6 (t := 13) (by decide) (wpO_eq h) (fun h => ?_) (fun h => ?_)
  · refine r_iconst hK dX8_usedOf_9 ?_
    refine r_goto hK dX8_usedOf_10 (t := 24) (by decide) ?_
    exact r_ireturn hK hr hQ rfl dX8_usedOf_24 ⟨C3, 0, rfl, rfl, wpO_some h⟩
  · refine r_aload_n hK dX8_usedOf_13 rfl ?_
    refine r_iload_n hK dX8_usedOf_14 rfl ?_
    refine r_aload_n hK dX8_usedOf_15 rfl ?_
    refine r_iload_n hK dX8_usedOf_16 rfl ?_
    refine r_iconst hK dX8_usedOf_17 ?_
    refine r_callV hK ck_X8_at im_X8_at sl_X8_at ml_RX8_69 (by omega) (c_X8_at (l := kL K) (g := g) (Y := Y) (a1) (1) C3 (wpO_bd h)) cls_8 (k := 95) (by omega) rfl (As := [.int (I (a1)), .int (I (1))]) (st := [.int (I (a1)), .ref (gA g 95)]) rfl (Nat.le_of_ble_eq_true rfl) dX8_usedOf_18 (kkI (fun C18 r18 h => ?_))
    refine r_callV hK ck_X8_startOf im_X8_startOf sl_X8_startOf ml_RX8_73 (by omega) (c_X8_startOf (l := kL K) (g := g) (Y := Y) (a1) (r18) C18 (wpO_bd h)) cls_8 (k := 95) (by omega) rfl (As := [.int (I (a1)), .int (I (r18))]) (st := []) rfl (Nat.le_of_ble_eq_true rfl) dX8_usedOf_21 (kkI (fun C21 r21 h => ?_))
    exact r_ireturn hK hr hQ rfl dX8_usedOf_24 ⟨C21, r21, rfl, rfl, wpO_some h⟩
set_option maxRecDepth 100000 in
set_option maxHeartbeats 4000000 in
theorem c_X8_childOf {l : Launch} {g : GT} {Y : Mem} {Q : Mem → Int → Prop} (a1 : Int) (a2 : Int) (C : Mem) (h : wpO (f_X8_childOf a1 a2 C) Q) : MetC l yX8_childOf cX8_childOf 4 (some .int) 3 g [.ref (gA g 95), .int (I (a1)), .int (I (a2))] (mrg Y C) (QI (fun c => mrg Y c) Q) := by
  refine met_at 1 (lv := [some (.ref (gA g 95)), some (.int (I (a1))), some (.int (I (a2))), none]) (by decide) (Nat.le_of_ble_eq_true rfl) rfl rfl (fun K hK hN hr hQ => ?_)
  unfold f_X8_childOf at h
  refine r_iload_n hK dX8_childOf_0 rfl ?_
  refine r_if_ne hK dX8_childOf_1 (t := 11) (by decide) (wpO_eq h) (fun h => ?_) (fun h => ?_)
  · refine r_aload_n hK dX8_childOf_4 rfl ?_
    refine r_iload_n hK dX8_childOf_5 rfl ?_
    refine r_iconst hK dX8_childOf_6 ?_
    refine r_callV hK ck_X8_at im_X8_at sl_X8_at ml_RX8_69 (by omega) (c_X8_at (l := kL K) (g := g) (Y := Y) (a1) (2) C (wpO_bd h)) cls_8 (k := 95) (by omega) rfl (As := [.int (I (a1)), .int (I (2))]) (st := []) rfl (Nat.le_of_ble_eq_true rfl) dX8_childOf_7 (kkI (fun C7 r7 h => ?_))
    exact r_ireturn hK hr hQ rfl dX8_childOf_10 ⟨C7, r7, rfl, rfl, wpO_some h⟩
  · refine r_aload_n hK dX8_childOf_11 rfl ?_
    refine r_iload_n hK dX8_childOf_12 rfl ?_
    refine r_iload_n hK dX8_childOf_13 rfl ?_
    refine r_iconst hK dX8_childOf_14 ?_
    refine r_isub hK dX8_childOf_15 ?_
    refine r_callV hK ck_X8_startOf im_X8_startOf sl_X8_startOf ml_RX8_73 (by omega) (c_X8_startOf (l := kL K) (g := g) (Y := Y) (a1) (a2 - 1) C (wpO_bd h)) cls_8 (k := 95) (by omega) rfl (As := [.int (I (a1)), .int (I (a2 - 1))]) (st := []) rfl (Nat.le_of_ble_eq_true rfl) dX8_childOf_16 (kkI (fun C16 r16 h => ?_))
    refine r_istore_n hK dX8_childOf_19 (by rw [hN]; decide) rfl (lv' := [some (.ref (gA g 95)), some (.int (I (a1))), some (.int (I (a2))), some (.int (I (r16)))]) rfl ?_
    refine r_aload_n hK dX8_childOf_20 rfl ?_
    refine r_iload_n hK dX8_childOf_21 rfl ?_
    refine r_iload_n hK dX8_childOf_22 rfl ?_
    refine r_aload_n hK dX8_childOf_23 rfl ?_
    refine r_iload_n hK dX8_childOf_24 rfl ?_
    refine r_iload_n hK dX8_childOf_25 rfl ?_
    refine r_callV hK ck_X8_at im_X8_at sl_X8_at ml_RX8_69 (by omega) (c_X8_at (l := kL K) (g := g) (Y := Y) (a1) (r16) C16 (wpO_bd h)) cls_8 (k := 95) (by omega) rfl (As := [.int (I (a1)), .int (I (r16))]) (st := [.int (I (r16)), .int (I (a1)), .ref (gA g 95)]) rfl (Nat.le_of_ble_eq_true rfl) dX8_childOf_26 (kkI (fun C26 r26 h => ?_))
    refine r_iadd hK dX8_childOf_29 ?_
    refine r_iconst hK dX8_childOf_30 ?_
    refine r_iadd hK dX8_childOf_31 ?_
    refine r_callV hK ck_X8_at im_X8_at sl_X8_at ml_RX8_69 (by omega) (c_X8_at (l := kL K) (g := g) (Y := Y) (a1) ((r16 + r26) + 1) C26 (wpO_bd h)) cls_8 (k := 95) (by omega) rfl (As := [.int (I (a1)), .int (I ((r16 + r26) + 1))]) (st := []) rfl (Nat.le_of_ble_eq_true rfl) dX8_childOf_32 (kkI (fun C32 r32 h => ?_))
    exact r_ireturn hK hr hQ rfl dX8_childOf_35 ⟨C32, r32, rfl, rfl, wpO_some h⟩
set_option maxRecDepth 100000 in
set_option maxHeartbeats 4000000 in
theorem w_X8_bytesOf_5 {K : KT} {g : GT} {Y : Mem} {dd : Nat} (hK : Kok K g cX8_bytesOf RX8 dd) (hN : kN K = 5) (hr : (kMe K).sig.returnType = (some .int)) {Q : Mem → Int → Prop} (hQ : kQ K = MQ (kB K) (Qc g (QI (fun c => mrg Y c) Q)) (kA K) (kS K) (kc K) (ks K) (gS g)) (hdd : 1 ≤ dd) (u2 : Int) (k : Int → Int → Mem → Option (Mem × Int)) (hk : ∀ (v3 : Int) (v4 : Int) (C : Mem), wpO (k v3 v4 C) Q → Wn K g (mrg Y C) 29 [some (.ref (gA g 95)), none, some (.int (I (u2))), some (.int (I (v3))), some (.int (I (v4)))] []) : ∀ (n : Nat) (v3 : Int) (v4 : Int) (C : Mem), wpO (f_X8_bytesOf_5 u2 k n v3 v4 C) Q → Wn K g (mrg Y C) 5 [some (.ref (gA g 95)), none, some (.int (I (u2))), some (.int (I (v3))), some (.int (I (v4)))] [] := by
  intro n
  induction n with
  | zero => intro v3 v4 C h; exact (wpO_none h).elim
  | succ n ih =>
    intro v3 v4 C h
    unfold f_X8_bytesOf_5 at h
    refine r_iload hK dX8_bytesOf_5 rfl ?_
    refine r_iload_n hK dX8_bytesOf_7 rfl ?_
    refine r_icmp_ge hK dX8_bytesOf_8 (t := 29) (by decide) (wpO_lt h) (fun h => ?_) (fun h => ?_)
    · refine r_iload_n hK dX8_bytesOf_11 rfl ?_
      refine r_aload_n hK dX8_bytesOf_12 rfl ?_
      refine r_getR (k := 95) (k' := (97)) hK cls_8 fl_RX8_17 (by decide) (by omega) rfl rfl dX8_bytesOf_13 ?_
      refine r_iload hK dX8_bytesOf_16 rfl ?_
      obtain ⟨hb18, h⟩ := wpO_ix h
      refine r_iaload (k := (97)) hK (by omega) rfl (by decide) hb18 dX8_bytesOf_18 (mrg_x (by omega)) ?_
      refine r_iconst hK dX8_bytesOf_19 ?_
      refine r_iadd hK dX8_bytesOf_20 ?_
      refine r_iadd hK dX8_bytesOf_21 ?_
      refine r_istore_n hK dX8_bytesOf_22 (by rw [hN]; decide) rfl (lv' := [some (.ref (gA g 95)), none, some (.int (I (u2))), some (.int (I (v3 + ((C (97) (v4).toNat) + 2)))), some (.int (I (v4)))]) rfl ?_
      refine r_iinc hK dX8_bytesOf_23 (by rw [hN]; decide) rfl rfl (lv' := [some (.ref (gA g 95)), none, some (.int (I (u2))), some (.int (I (v3 + ((C (97) (v4).toNat) + 2)))), some (.int (I (v4 + 1)))]) rfl ?_
      refine r_goto hK dX8_bytesOf_26 (t := 5) (by decide) ?_
      exact ih (v3 + ((C (97) (v4).toNat) + 2)) (v4 + 1) C h
    · exact hk (v3) (v4) C h
set_option maxRecDepth 100000 in
set_option maxHeartbeats 4000000 in
theorem c_X8_bytesOf {l : Launch} {g : GT} {Y : Mem} {Q : Mem → Int → Prop} (a1 : Int) (a2 : Int) (C : Mem) (h : wpO (f_X8_bytesOf a1 a2 C) Q) : MetC l yX8_bytesOf cX8_bytesOf 5 (some .int) 1 g [.ref (gA g 95), .int (I (a1)), .int (I (a2))] (mrg Y C) (QI (fun c => mrg Y c) Q) := by
  refine met_at 2 (lv := [some (.ref (gA g 95)), some (.int (I (a1))), some (.int (I (a2))), none, none]) (by decide) (Nat.le_of_ble_eq_true rfl) rfl rfl (fun K hK hN hr hQ => ?_)
  unfold f_X8_bytesOf at h
  refine r_iconst hK dX8_bytesOf_0 ?_
  refine r_istore_n hK dX8_bytesOf_1 (by rw [hN]; decide) rfl (lv' := [some (.ref (gA g 95)), some (.int (I (a1))), some (.int (I (a2))), some (.int (I (0))), none]) rfl ?_
  refine r_iload_n hK dX8_bytesOf_2 rfl ?_
  refine r_istore hK dX8_bytesOf_3 (by rw [hN]; decide) rfl (lv' := [some (.ref (gA g 95)), some (.int (I (a1))), some (.int (I (a2))), some (.int (I (0))), some (.int (I (a1)))]) rfl ?_
  refine r_cut [true, false, true, true, true] (lv' := [some (.ref (gA g 95)), none, some (.int (I (a2))), some (.int (I (0))), some (.int (I (a1)))]) rfl ?_
  refine w_X8_bytesOf_5 hK hN hr hQ (by omega) (a2) _ (fun v3_e5 v4_e5 C_e5 h => ?_) FU (0) (a1) C h
  refine r_iload_n hK dX8_bytesOf_29 rfl ?_
  exact r_ireturn hK hr hQ rfl dX8_bytesOf_30 ⟨C_e5, v3_e5, rfl, rfl, wpO_some h⟩
set_option maxRecDepth 100000 in
set_option maxHeartbeats 4000000 in
theorem w_X8_comeOut_36 {K : KT} {g : GT} {Y : Mem} {dd : Nat} (hK : Kok K g cX8_comeOut RX8 dd) (hN : kN K = 6) (hr : (kMe K).sig.returnType = none) {Q : Mem → Int → Prop} (hQ : kQ K = MQ (kB K) (Qc g (QV (fun c => mrg Y c) Q)) (kA K) (kS K) (kc K) (ks K) (gS g)) (hdd : 2 ≤ dd) (u1 : Int) (u2 : Int) (u3 : Int) (u4 : Int) (k : Int → Mem → Option (Mem × Int)) (hk : ∀ (v5 : Int) (C : Mem), wpO (k v5 C) Q → Wn K g (mrg Y C) 75 [some (.ref (gA g 95)), some (.int (I (u1))), some (.int (I (u2))), some (.int (I (u3))), some (.int (I (u4))), some (.int (I (v5)))] []) : ∀ (n : Nat) (v5 : Int) (C : Mem), wpO (f_X8_comeOut_36 u1 u2 u3 u4 k n v5 C) Q → Wn K g (mrg Y C) 36 [some (.ref (gA g 95)), some (.int (I (u1))), some (.int (I (u2))), some (.int (I (u3))), some (.int (I (u4))), some (.int (I (v5)))] [] := by
  intro n
  induction n with
  | zero => intro v5 C h; exact (wpO_none h).elim
  | succ n ih =>
    intro v5 C h
    unfold f_X8_comeOut_36 at h
    refine r_iload hK dX8_comeOut_36 rfl ?_
    refine r_iload hK dX8_comeOut_38 rfl ?_
    refine r_icmp_ge hK dX8_comeOut_40 (t := 75) (by decide) (wpO_lt h) (fun h => ?_) (fun h => ?_)
    · refine r_aload_n hK dX8_comeOut_43 rfl ?_
      refine r_getR (k := 95) (k' := (98)) hK cls_8 fl_RX8_20 (by decide) (by omega) rfl rfl dX8_comeOut_44 ?_
      refine r_bipush hK dX8_comeOut_47 (by decide) ?_
      refine r_aload_n hK dX8_comeOut_49 rfl ?_
      refine r_getI (k := 95) hK cls_8 fl_RX8_76 (by decide) (by omega) rfl rfl dX8_comeOut_50 (mrg_x (by omega)) ?_
      refine r_imul hK dX8_comeOut_53 ?_
      refine r_iload hK dX8_comeOut_54 rfl ?_
      refine r_iadd hK dX8_comeOut_56 ?_
      refine r_aload_n hK dX8_comeOut_57 rfl ?_
      refine r_iload_n hK dX8_comeOut_58 rfl ?_
      refine r_iload_n hK dX8_comeOut_59 rfl ?_
      refine r_iconst hK dX8_comeOut_60 ?_
      refine r_iadd hK dX8_comeOut_61 ?_
      refine r_iload hK dX8_comeOut_62 rfl ?_
      refine r_iadd hK dX8_comeOut_64 ?_
      refine r_callV hK ck_X8_at im_X8_at sl_X8_at ml_RX8_69 (by omega) (c_X8_at (l := kL K) (g := g) (Y := Y) (u1) ((u2 + 1) + v5) C (wpO_bd h)) cls_8 (k := 95) (by omega) rfl (As := [.int (I (u1)), .int (I ((u2 + 1) + v5))]) (st := [.int (I ((8 * (C 95 6)) + v5)), .ref (gA g (98))]) rfl (Nat.le_of_ble_eq_true rfl) dX8_comeOut_65 (kkI (fun C65 r65 h => ?_))
      obtain ⟨hb68, h⟩ := wpO_ix h
      refine r_iastore (k := (98)) hK (by omega) rfl (by decide) hb68 dX8_comeOut_68 (up_x (by omega)) ?_
      refine r_iinc hK dX8_comeOut_69 (by rw [hN]; decide) rfl rfl (lv' := [some (.ref (gA g 95)), some (.int (I (u1))), some (.int (I (u2))), some (.int (I (u3))), some (.int (I (u4))), some (.int (I (v5 + 1)))]) rfl ?_
      refine r_goto hK dX8_comeOut_72 (t := 36) (by decide) ?_
      exact ih (v5 + 1) (up C65 (98) ((8 * (C 95 6)) + v5).toNat (r65)) h
    · exact hk (v5) C h
set_option maxRecDepth 100000 in
set_option maxHeartbeats 4000000 in
theorem w_X8_comeOut_4 {K : KT} {g : GT} {Y : Mem} {dd : Nat} (hK : Kok K g cX8_comeOut RX8 dd) (hN : kN K = 6) (hr : (kMe K).sig.returnType = none) {Q : Mem → Int → Prop} (hQ : kQ K = MQ (kB K) (Qc g (QV (fun c => mrg Y c) Q)) (kA K) (kS K) (kc K) (ks K) (gS g)) (hdd : 2 ≤ dd) (u1 : Int) (k : Int → Int → Mem → Option (Mem × Int)) (hk : ∀ (v2 : Int) (v3 : Int) (C : Mem), wpO (k v2 v3 C) Q → Wn K g (mrg Y C) 118 [some (.ref (gA g 95)), some (.int (I (u1))), some (.int (I (v2))), some (.int (I (v3))), none, none] []) : ∀ (n : Nat) (v2 : Int) (v3 : Int) (C : Mem), wpO (f_X8_comeOut_4 u1 k n v2 v3 C) Q → Wn K g (mrg Y C) 4 [some (.ref (gA g 95)), some (.int (I (u1))), some (.int (I (v2))), some (.int (I (v3))), none, none] [] := by
  intro n
  induction n with
  | zero => intro v2 v3 C h; exact (wpO_none h).elim
  | succ n ih =>
    intro v2 v3 C h
    unfold f_X8_comeOut_4 at h
    refine r_iload_n hK dX8_comeOut_4 rfl ?_
    refine r_aload_n hK dX8_comeOut_5 rfl ?_
    refine r_iload_n hK dX8_comeOut_6 rfl ?_
    refine r_iconst hK dX8_comeOut_7 ?_
    refine r_callV hK ck_X8_at im_X8_at sl_X8_at ml_RX8_69 (by omega) (c_X8_at (l := kL K) (g := g) (Y := Y) (u1) (1) C (wpO_bd h)) cls_8 (k := 95) (by omega) rfl (As := [.int (I (u1)), .int (I (1))]) (st := [.int (I (v3))]) rfl (Nat.le_of_ble_eq_true rfl) dX8_comeOut_8 (kkI (fun C8 r8 h => ?_))
    refine r_icmp_ge hK dX8_comeOut_11 (t := 118) (by decide) (wpO_lt h) (fun h => ?_) (fun h => ?_)
    · refine r_aload_n hK dX8_comeOut_14 rfl ?_
      refine r_iload_n hK dX8_comeOut_15 rfl ?_
      refine r_iload_n hK dX8_comeOut_16 rfl ?_
      refine r_callV hK ck_X8_at im_X8_at sl_X8_at ml_RX8_69 (by omega) (c_X8_at (l := kL K) (g := g) (Y := Y) (u1) (v2) C8 (wpO_bd h)) cls_8 (k := 95) (by omega) rfl (As := [.int (I (u1)), .int (I (v2))]) (st := []) rfl (Nat.le_of_ble_eq_true rfl) dX8_comeOut_17 (kkI (fun C17 r17 h => ?_))
      refine r_istore hK dX8_comeOut_20 (by rw [hN]; decide) rfl (lv' := [some (.ref (gA g 95)), some (.int (I (u1))), some (.int (I (v2))), some (.int (I (v3))), some (.int (I (r17))), none]) rfl ?_
      refine r_aload_n hK dX8_comeOut_22 rfl ?_
      refine r_getR (k := 95) (k' := (97)) hK cls_8 fl_RX8_17 (by decide) (by omega) rfl rfl dX8_comeOut_23 ?_
      refine r_aload_n hK dX8_comeOut_26 rfl ?_
      refine r_getI (k := 95) hK cls_8 fl_RX8_76 (by decide) (by omega) rfl rfl dX8_comeOut_27 (mrg_x (by omega)) ?_
      refine r_iload hK dX8_comeOut_30 rfl ?_
      obtain ⟨hb32, h⟩ := wpO_ix h
      refine r_iastore (k := (97)) hK (by omega) rfl (by decide) hb32 dX8_comeOut_32 (up_x (by omega)) ?_
      refine r_iconst hK dX8_comeOut_33 ?_
      refine r_istore hK dX8_comeOut_34 (by rw [hN]; decide) rfl (lv' := [some (.ref (gA g 95)), some (.int (I (u1))), some (.int (I (v2))), some (.int (I (v3))), some (.int (I (r17))), some (.int (I (0)))]) rfl ?_
      refine w_X8_comeOut_36 hK hN hr hQ (by omega) (u1) (v2) (v3) (r17) _ (fun v5_e36 C_e36 h => ?_) FU (0) (up C17 (97) (C17 95 6).toNat (r17)) h
      refine r_aload_n hK dX8_comeOut_75 rfl ?_
      refine r_getR (k := 95) (k' := (99)) hK cls_8 fl_RX8_23 (by decide) (by omega) rfl rfl dX8_comeOut_76 ?_
      refine r_aload_n hK dX8_comeOut_79 rfl ?_
      refine r_getI (k := 95) hK cls_8 fl_RX8_76 (by decide) (by omega) rfl rfl dX8_comeOut_80 (mrg_x (by omega)) ?_
      refine r_aload_n hK dX8_comeOut_83 rfl ?_
      refine r_iload_n hK dX8_comeOut_84 rfl ?_
      refine r_iload_n hK dX8_comeOut_85 rfl ?_
      refine r_iconst hK dX8_comeOut_86 ?_
      refine r_iadd hK dX8_comeOut_87 ?_
      refine r_iload hK dX8_comeOut_88 rfl ?_
      refine r_iadd hK dX8_comeOut_90 ?_
      refine r_callV hK ck_X8_at im_X8_at sl_X8_at ml_RX8_69 (by omega) (c_X8_at (l := kL K) (g := g) (Y := Y) (u1) ((v2 + 1) + r17) C_e36 (wpO_bd h)) cls_8 (k := 95) (by omega) rfl (As := [.int (I (u1)), .int (I ((v2 + 1) + r17))]) (st := [.int (I (C_e36 95 6)), .ref (gA g (99))]) rfl (Nat.le_of_ble_eq_true rfl) dX8_comeOut_91 (kkI (fun C91 r91 h => ?_))
      obtain ⟨hb94, h⟩ := wpO_ix h
      refine r_iastore (k := (99)) hK (by omega) rfl (by decide) hb94 dX8_comeOut_94 (up_x (by omega)) ?_
      refine r_aload_n hK dX8_comeOut_95 rfl ?_
      refine r_dup hK dX8_comeOut_96 rfl ?_
      refine r_getI (k := 95) hK cls_8 fl_RX8_76 (by decide) (by omega) rfl rfl dX8_comeOut_97 (mrg_x (by omega)) ?_
      refine r_iconst hK dX8_comeOut_100 ?_
      refine r_iadd hK dX8_comeOut_101 ?_
      refine r_put (k := 95) hK cls_8 fl_RX8_76 (by decide) (by omega) rfl rfl rfl rfl rfl dX8_comeOut_102 (up_x (by omega)) ?_
      refine r_iload_n hK dX8_comeOut_105 rfl ?_
      refine r_iload hK dX8_comeOut_106 rfl ?_
      refine r_iconst hK dX8_comeOut_108 ?_
      refine r_iadd hK dX8_comeOut_109 ?_
      refine r_iadd hK dX8_comeOut_110 ?_
      refine r_istore_n hK dX8_comeOut_111 (by rw [hN]; decide) rfl (lv' := [some (.ref (gA g 95)), some (.int (I (u1))), some (.int (I (v2 + (r17 + 2)))), some (.int (I (v3))), some (.int (I (r17))), some (.int (I (v5_e36)))]) rfl ?_
      refine r_iinc hK dX8_comeOut_112 (by rw [hN]; decide) rfl rfl (lv' := [some (.ref (gA g 95)), some (.int (I (u1))), some (.int (I (v2 + (r17 + 2)))), some (.int (I (v3 + 1))), some (.int (I (r17))), some (.int (I (v5_e36)))]) rfl ?_
      refine r_goto hK dX8_comeOut_115 (t := 4) (by decide) ?_
      refine r_cut [true, true, true, true, false, false] (lv' := [some (.ref (gA g 95)), some (.int (I (u1))), some (.int (I (v2 + (r17 + 2)))), some (.int (I (v3 + 1))), none, none]) rfl ?_
      exact ih (v2 + (r17 + 2)) (v3 + 1) (up (up C91 (99) (C_e36 95 6).toNat (r91)) 95 6 (((up C91 (99) (C_e36 95 6).toNat (r91)) 95 6) + 1)) h
    · exact hk (v2) (v3) C8 h
set_option maxRecDepth 100000 in
set_option maxHeartbeats 4000000 in
theorem c_X8_comeOut {l : Launch} {g : GT} {Y : Mem} {Q : Mem → Int → Prop} (a1 : Int) (C : Mem) (h : wpO (f_X8_comeOut a1 C) Q) : MetC l yX8_comeOut cX8_comeOut 6 none 2 g [.ref (gA g 95), .int (I (a1))] (mrg Y C) (QV (fun c => mrg Y c) Q) := by
  refine met_at 4 (lv := [some (.ref (gA g 95)), some (.int (I (a1))), none, none, none, none]) (by decide) (Nat.le_of_ble_eq_true rfl) rfl rfl (fun K hK hN hr hQ => ?_)
  unfold f_X8_comeOut at h
  refine r_iconst hK dX8_comeOut_0 ?_
  refine r_istore_n hK dX8_comeOut_1 (by rw [hN]; decide) rfl (lv' := [some (.ref (gA g 95)), some (.int (I (a1))), some (.int (I (3))), none, none, none]) rfl ?_
  refine r_iconst hK dX8_comeOut_2 ?_
  refine r_istore_n hK dX8_comeOut_3 (by rw [hN]; decide) rfl (lv' := [some (.ref (gA g 95)), some (.int (I (a1))), some (.int (I (3))), some (.int (I (0))), none, none]) rfl ?_
  refine w_X8_comeOut_4 hK hN hr hQ (by omega) (a1) _ (fun v2_e4 v3_e4 C_e4 h => ?_) FU (3) (0) C h
  exact r_return hK hr hQ dX8_comeOut_118 ⟨C_e4, rfl, rfl, wpO_some h⟩
set_option maxRecDepth 100000 in
set_option maxHeartbeats 4000000 in
theorem w_X8_goBack_79 {K : KT} {g : GT} {Y : Mem} {dd : Nat} (hK : Kok K g cX8_goBack RX8 dd) (hN : kN K = 9) (hr : (kMe K).sig.returnType = none) {Q : Mem → Int → Prop} (hQ : kQ K = MQ (kB K) (Qc g (QV (fun c => mrg Y c) Q)) (kA K) (kS K) (kc K) (ks K) (gS g)) (hdd : 2 ≤ dd) (u5 : Int) (u6 : Int) (u7 : Int) (k : Int → Mem → Option (Mem × Int)) (hk : ∀ (v8 : Int) (C : Mem), wpO (k v8 C) Q → Wn K g (mrg Y C) 122 [some (.ref (gA g 95)), none, none, none, none, some (.int (I (u5))), some (.int (I (u6))), some (.int (I (u7))), some (.int (I (v8)))] []) : ∀ (n : Nat) (v8 : Int) (C : Mem), wpO (f_X8_goBack_79 u5 u6 u7 k n v8 C) Q → Wn K g (mrg Y C) 79 [some (.ref (gA g 95)), none, none, none, none, some (.int (I (u5))), some (.int (I (u6))), some (.int (I (u7))), some (.int (I (v8)))] [] := by
  intro n
  induction n with
  | zero => intro v8 C h; exact (wpO_none h).elim
  | succ n ih =>
    intro v8 C h
    unfold f_X8_goBack_79 at h
    refine r_iload hK dX8_goBack_79 rfl ?_
    refine r_aload_n hK dX8_goBack_81 rfl ?_
    refine r_getR (k := 95) (k' := (97)) hK cls_8 fl_RX8_17 (by decide) (by omega) rfl rfl dX8_goBack_82 ?_
    refine r_iload hK dX8_goBack_85 rfl ?_
    obtain ⟨hb87, h⟩ := wpO_ix h
    refine r_iaload (k := (97)) hK (by omega) rfl (by decide) hb87 dX8_goBack_87 (mrg_x (by omega)) ?_
    refine r_icmp_ge hK dX8_goBack_88 (t := 122) (by decide) (wpO_lt h) (fun h => ?_) (fun h => ?_)
    · refine r_aload_n hK dX8_goBack_91 rfl ?_
      refine r_getR (k := 95) (k' := (96)) hK cls_8 fl_RX8_7 (by decide) (by omega) rfl rfl dX8_goBack_92 ?_
      refine r_iload hK dX8_goBack_95 rfl ?_
      refine r_iconst hK dX8_goBack_97 ?_
      refine r_iadd hK dX8_goBack_98 ?_
      refine r_iload hK dX8_goBack_99 rfl ?_
      refine r_iadd hK dX8_goBack_101 ?_
      refine r_aload_n hK dX8_goBack_102 rfl ?_
      refine r_getR (k := 95) (k' := (98)) hK cls_8 fl_RX8_20 (by decide) (by omega) rfl rfl dX8_goBack_103 ?_
      refine r_bipush hK dX8_goBack_106 (by decide) ?_
      refine r_iload hK dX8_goBack_108 rfl ?_
      refine r_imul hK dX8_goBack_110 ?_
      refine r_iload hK dX8_goBack_111 rfl ?_
      refine r_iadd hK dX8_goBack_113 ?_
      obtain ⟨hb114, h⟩ := wpO_ix h
      refine r_iaload (k := (98)) hK (by omega) rfl (by decide) hb114 dX8_goBack_114 (mrg_x (by omega)) ?_
      obtain ⟨hb115, h⟩ := wpO_ix h
      refine r_iastore (k := (96)) hK (by omega) rfl (by decide) hb115 dX8_goBack_115 (up_x (by omega)) ?_
      refine r_iinc hK dX8_goBack_116 (by rw [hN]; decide) rfl rfl (lv' := [some (.ref (gA g 95)), none, none, none, none, some (.int (I (u5))), some (.int (I (u6))), some (.int (I (u7))), some (.int (I (v8 + 1)))]) rfl ?_
      refine r_goto hK dX8_goBack_119 (t := 79) (by decide) ?_
      exact ih (v8 + 1) (up C (96) ((u6 + 1) + v8).toNat (C (98) ((8 * u7) + v8).toNat)) h
    · exact hk (v8) C h
set_option maxRecDepth 100000 in
set_option maxHeartbeats 4000000 in
theorem w_X8_goBack_55 {K : KT} {g : GT} {Y : Mem} {dd : Nat} (hK : Kok K g cX8_goBack RX8 dd) (hN : kN K = 9) (hr : (kMe K).sig.returnType = none) {Q : Mem → Int → Prop} (hQ : kQ K = MQ (kB K) (Qc g (QV (fun c => mrg Y c) Q)) (kA K) (kS K) (kc K) (ks K) (gS g)) (hdd : 2 ≤ dd) (u5 : Int) (k : Int → Int → Mem → Option (Mem × Int)) (hk : ∀ (v6 : Int) (v7 : Int) (C : Mem), wpO (k v6 v7 C) Q → Wn K g (mrg Y C) 166 [some (.ref (gA g 95)), none, none, none, none, some (.int (I (u5))), some (.int (I (v6))), some (.int (I (v7))), none] []) : ∀ (n : Nat) (v6 : Int) (v7 : Int) (C : Mem), wpO (f_X8_goBack_55 u5 k n v6 v7 C) Q → Wn K g (mrg Y C) 55 [some (.ref (gA g 95)), none, none, none, none, some (.int (I (u5))), some (.int (I (v6))), some (.int (I (v7))), none] [] := by
  intro n
  induction n with
  | zero => intro v6 v7 C h; exact (wpO_none h).elim
  | succ n ih =>
    intro v6 v7 C h
    unfold f_X8_goBack_55 at h
    refine r_iload hK dX8_goBack_55 rfl ?_
    refine r_iload hK dX8_goBack_57 rfl ?_
    refine r_icmp_ge hK dX8_goBack_59 (t := 166) (by decide) (wpO_lt h) (fun h => ?_) (fun h => ?_)
    · refine r_aload_n hK dX8_goBack_62 rfl ?_
      refine r_getR (k := 95) (k' := (96)) hK cls_8 fl_RX8_7 (by decide) (by omega) rfl rfl dX8_goBack_63 ?_
      refine r_iload hK dX8_goBack_66 rfl ?_
      refine r_aload_n hK dX8_goBack_68 rfl ?_
      refine r_getR (k := 95) (k' := (97)) hK cls_8 fl_RX8_17 (by decide) (by omega) rfl rfl dX8_goBack_69 ?_
      refine r_iload hK dX8_goBack_72 rfl ?_
      obtain ⟨hb74, h⟩ := wpO_ix h
      refine r_iaload (k := (97)) hK (by omega) rfl (by decide) hb74 dX8_goBack_74 (mrg_x (by omega)) ?_
      obtain ⟨hb75, h⟩ := wpO_ix h
      refine r_iastore (k := (96)) hK (by omega) rfl (by decide) hb75 dX8_goBack_75 (up_x (by omega)) ?_
      refine r_iconst hK dX8_goBack_76 ?_
      refine r_istore hK dX8_goBack_77 (by rw [hN]; decide) rfl (lv' := [some (.ref (gA g 95)), none, none, none, none, some (.int (I (u5))), some (.int (I (v6))), some (.int (I (v7))), some (.int (I (0)))]) rfl ?_
      refine w_X8_goBack_79 hK hN hr hQ (by omega) (u5) (v6) (v7) _ (fun v8_e79 C_e79 h => ?_) FU (0) (up C (96) (v6).toNat (C (97) (v7).toNat)) h
      refine r_aload_n hK dX8_goBack_122 rfl ?_
      refine r_getR (k := 95) (k' := (96)) hK cls_8 fl_RX8_7 (by decide) (by omega) rfl rfl dX8_goBack_123 ?_
      refine r_iload hK dX8_goBack_126 rfl ?_
      refine r_iconst hK dX8_goBack_128 ?_
      refine r_iadd hK dX8_goBack_129 ?_
      refine r_aload_n hK dX8_goBack_130 rfl ?_
      refine r_getR (k := 95) (k' := (97)) hK cls_8 fl_RX8_17 (by decide) (by omega) rfl rfl dX8_goBack_131 ?_
      refine r_iload hK dX8_goBack_134 rfl ?_
      obtain ⟨hb136, h⟩ := wpO_ix h
      refine r_iaload (k := (97)) hK (by omega) rfl (by decide) hb136 dX8_goBack_136 (mrg_x (by omega)) ?_
      refine r_iadd hK dX8_goBack_137 ?_
      refine r_aload_n hK dX8_goBack_138 rfl ?_
      refine r_getR (k := 95) (k' := (99)) hK cls_8 fl_RX8_23 (by decide) (by omega) rfl rfl dX8_goBack_139 ?_
      refine r_iload hK dX8_goBack_142 rfl ?_
      obtain ⟨hb144, h⟩ := wpO_ix h
      refine r_iaload (k := (99)) hK (by omega) rfl (by decide) hb144 dX8_goBack_144 (mrg_x (by omega)) ?_
      obtain ⟨hb145, h⟩ := wpO_ix h
      refine r_iastore (k := (96)) hK (by omega) rfl (by decide) hb145 dX8_goBack_145 (up_x (by omega)) ?_
      refine r_iload hK dX8_goBack_146 rfl ?_
      refine r_aload_n hK dX8_goBack_148 rfl ?_
      refine r_getR (k := 95) (k' := (97)) hK cls_8 fl_RX8_17 (by decide) (by omega) rfl rfl dX8_goBack_149 ?_
      refine r_iload hK dX8_goBack_152 rfl ?_
      obtain ⟨hb154, h⟩ := wpO_ix h
      refine r_iaload (k := (97)) hK (by omega) rfl (by decide) hb154 dX8_goBack_154 (mrg_x (by omega)) ?_
      refine r_iconst hK dX8_goBack_155 ?_
      refine r_iadd hK dX8_goBack_156 ?_
      refine r_iadd hK dX8_goBack_157 ?_
      refine r_istore hK dX8_goBack_158 (by rw [hN]; decide) rfl (lv' := [some (.ref (gA g 95)), none, none, none, none, some (.int (I (u5))), some (.int (I (v6 + (((up C_e79 (96) ((v6 + 1) + (C_e79 (97) (v7).toNat)).toNat (C_e79 (99) (v7).toNat)) (97) (v7).toNat) + 2)))), some (.int (I (v7))), some (.int (I (v8_e79)))]) rfl ?_
      refine r_iinc hK dX8_goBack_160 (by rw [hN]; decide) rfl rfl (lv' := [some (.ref (gA g 95)), none, none, none, none, some (.int (I (u5))), some (.int (I (v6 + (((up C_e79 (96) ((v6 + 1) + (C_e79 (97) (v7).toNat)).toNat (C_e79 (99) (v7).toNat)) (97) (v7).toNat) + 2)))), some (.int (I (v7 + 1))), some (.int (I (v8_e79)))]) rfl ?_
      refine r_goto hK dX8_goBack_163 (t := 55) (by decide) ?_
      refine r_cut [true, false, false, false, false, true, true, true, false] (lv' := [some (.ref (gA g 95)), none, none, none, none, some (.int (I (u5))), some (.int (I (v6 + (((up C_e79 (96) ((v6 + 1) + (C_e79 (97) (v7).toNat)).toNat (C_e79 (99) (v7).toNat)) (97) (v7).toNat) + 2)))), some (.int (I (v7 + 1))), none]) rfl ?_
      exact ih (v6 + (((up C_e79 (96) ((v6 + 1) + (C_e79 (97) (v7).toNat)).toNat (C_e79 (99) (v7).toNat)) (97) (v7).toNat) + 2)) (v7 + 1) (up C_e79 (96) ((v6 + 1) + (C_e79 (97) (v7).toNat)).toNat (C_e79 (99) (v7).toNat)) h
    · exact hk (v6) (v7) C h
set_option maxRecDepth 100000 in
set_option maxHeartbeats 4000000 in
theorem c_X8_goBack {l : Launch} {g : GT} {Y : Mem} {Q : Mem → Int → Prop} (a1 : Int) (a2 : Int) (a3 : Int) (a4 : Int) (a5 : Int) (C : Mem) (h : wpO (f_X8_goBack a1 a2 a3 a4 a5 C) Q) : MetC l yX8_goBack cX8_goBack 9 none 2 g [.ref (gA g 95), .int (I (a1)), .int (I (a2)), .int (I (a3)), .int (I (a4)), .int (I (a5))] (mrg Y C) (QV (fun c => mrg Y c) Q) := by
  refine met_at 3 (lv := [some (.ref (gA g 95)), some (.int (I (a1))), some (.int (I (a2))), some (.int (I (a3))), some (.int (I (a4))), some (.int (I (a5))), none, none, none]) (by decide) (Nat.le_of_ble_eq_true rfl) rfl rfl (fun K hK hN hr hQ => ?_)
  unfold f_X8_goBack at h
  refine r_aload_n hK dX8_goBack_0 rfl ?_
  refine r_iload_n hK dX8_goBack_1 rfl ?_
  refine r_callV hK ck_X8_clears im_X8_clears sl_X8_clears ml_RX8_79 (by omega) (c_X8_clears (l := kL K) (g := g) (Y := Y) (a1) C (wpO_bd h)) cls_8 (k := 95) (by omega) rfl (As := [.int (I (a1))]) (st := []) rfl (Nat.le_of_ble_eq_true rfl) dX8_goBack_2 (kkV (fun C2 h => ?_))
  refine r_aload_n hK dX8_goBack_5 rfl ?_
  refine r_getR (k := 95) (k' := (96)) hK cls_8 fl_RX8_7 (by decide) (by omega) rfl rfl dX8_goBack_6 ?_
  refine r_bipush hK dX8_goBack_9 (by decide) ?_
  refine r_iload_n hK dX8_goBack_11 rfl ?_
  refine r_imul hK dX8_goBack_12 ?_
  refine r_iload_n hK dX8_goBack_13 rfl ?_
  obtain ⟨hb14, h⟩ := wpO_ix h
  refine r_iastore (k := (96)) hK (by omega) rfl (by decide) hb14 dX8_goBack_14 (up_x (by omega)) ?_
  refine r_aload_n hK dX8_goBack_15 rfl ?_
  refine r_getR (k := 95) (k' := (96)) hK cls_8 fl_RX8_7 (by decide) (by omega) rfl rfl dX8_goBack_16 ?_
  refine r_bipush hK dX8_goBack_19 (by decide) ?_
  refine r_iload_n hK dX8_goBack_21 rfl ?_
  refine r_imul hK dX8_goBack_22 ?_
  refine r_iconst hK dX8_goBack_23 ?_
  refine r_iadd hK dX8_goBack_24 ?_
  refine r_iload hK dX8_goBack_25 rfl ?_
  refine r_iload hK dX8_goBack_27 rfl ?_
  refine r_isub hK dX8_goBack_29 ?_
  obtain ⟨hb30, h⟩ := wpO_ix h
  refine r_iastore (k := (96)) hK (by omega) rfl (by decide) hb30 dX8_goBack_30 (up_x (by omega)) ?_
  refine r_aload_n hK dX8_goBack_31 rfl ?_
  refine r_getR (k := 95) (k' := (96)) hK cls_8 fl_RX8_7 (by decide) (by omega) rfl rfl dX8_goBack_32 ?_
  refine r_bipush hK dX8_goBack_35 (by decide) ?_
  refine r_iload_n hK dX8_goBack_37 rfl ?_
  refine r_imul hK dX8_goBack_38 ?_
  refine r_iconst hK dX8_goBack_39 ?_
  refine r_iadd hK dX8_goBack_40 ?_
  refine r_iload_n hK dX8_goBack_41 rfl ?_
  obtain ⟨hb42, h⟩ := wpO_ix h
  refine r_iastore (k := (96)) hK (by omega) rfl (by decide) hb42 dX8_goBack_42 (up_x (by omega)) ?_
  refine r_bipush hK dX8_goBack_43 (by decide) ?_
  refine r_iload_n hK dX8_goBack_45 rfl ?_
  refine r_imul hK dX8_goBack_46 ?_
  refine r_iconst hK dX8_goBack_47 ?_
  refine r_iadd hK dX8_goBack_48 ?_
  refine r_istore hK dX8_goBack_49 (by rw [hN]; decide) rfl (lv' := [some (.ref (gA g 95)), some (.int (I (a1))), some (.int (I (a2))), some (.int (I (a3))), some (.int (I (a4))), some (.int (I (a5))), some (.int (I ((64 * a1) + 3))), none, none]) rfl ?_
  refine r_iload hK dX8_goBack_51 rfl ?_
  refine r_istore hK dX8_goBack_53 (by rw [hN]; decide) rfl (lv' := [some (.ref (gA g 95)), some (.int (I (a1))), some (.int (I (a2))), some (.int (I (a3))), some (.int (I (a4))), some (.int (I (a5))), some (.int (I ((64 * a1) + 3))), some (.int (I (a4))), none]) rfl ?_
  refine r_cut [true, false, false, false, false, true, true, true, false] (lv' := [some (.ref (gA g 95)), none, none, none, none, some (.int (I (a5))), some (.int (I ((64 * a1) + 3))), some (.int (I (a4))), none]) rfl ?_
  refine w_X8_goBack_55 hK hN hr hQ (by omega) (a5) _ (fun v6_e55 v7_e55 C_e55 h => ?_) FU ((64 * a1) + 3) (a4) (up (up (up C2 (96) (64 * a1).toNat (a2)) (96) ((64 * a1) + 1).toNat (a5 - a4)) (96) ((64 * a1) + 2).toNat (a3)) h
  exact r_return hK hr hQ dX8_goBack_166 ⟨C_e55, rfl, rfl, wpO_some h⟩
set_option maxRecDepth 100000 in
set_option maxHeartbeats 4000000 in
theorem w_X8_copies_26 {K : KT} {g : GT} {Y : Mem} {dd : Nat} (hK : Kok K g cX8_copies RX8 dd) (hN : kN K = 4) (hr : (kMe K).sig.returnType = none) {Q : Mem → Int → Prop} (hQ : kQ K = MQ (kB K) (Qc g (QV (fun c => mrg Y c) Q)) (kA K) (kS K) (kc K) (ks K) (gS g)) (hdd : 1 ≤ dd) (u1 : Int) (u2 : Int) (k : Int → Mem → Option (Mem × Int)) (hk : ∀ (v3 : Int) (C : Mem), wpO (k v3 C) Q → Wn K g (mrg Y C) 60 [some (.ref (gA g 95)), some (.int (I (u1))), some (.int (I (u2))), some (.int (I (v3)))] []) : ∀ (n : Nat) (v3 : Int) (C : Mem), wpO (f_X8_copies_26 u1 u2 k n v3 C) Q → Wn K g (mrg Y C) 26 [some (.ref (gA g 95)), some (.int (I (u1))), some (.int (I (u2))), some (.int (I (v3)))] [] := by
  intro n
  induction n with
  | zero => intro v3 C h; exact (wpO_none h).elim
  | succ n ih =>
    intro v3 C h
    unfold f_X8_copies_26 at h
    refine r_iload_n hK dX8_copies_26 rfl ?_
    refine r_bipush hK dX8_copies_27 (by decide) ?_
    refine r_icmp_ge hK dX8_copies_29 (t := 60) (by decide) (wpO_lt h) (fun h => ?_) (fun h => ?_)
    · refine r_aload_n hK dX8_copies_32 rfl ?_
      refine r_getR (k := 95) (k' := (98)) hK cls_8 fl_RX8_20 (by decide) (by omega) rfl rfl dX8_copies_33 ?_
      refine r_bipush hK dX8_copies_36 (by decide) ?_
      refine r_iload_n hK dX8_copies_38 rfl ?_
      refine r_imul hK dX8_copies_39 ?_
      refine r_iload_n hK dX8_copies_40 rfl ?_
      refine r_iadd hK dX8_copies_41 ?_
      refine r_aload_n hK dX8_copies_42 rfl ?_
      refine r_getR (k := 95) (k' := (98)) hK cls_8 fl_RX8_20 (by decide) (by omega) rfl rfl dX8_copies_43 ?_
      refine r_bipush hK dX8_copies_46 (by decide) ?_
      refine r_iload_n hK dX8_copies_48 rfl ?_
      refine r_imul hK dX8_copies_49 ?_
      refine r_iload_n hK dX8_copies_50 rfl ?_
      refine r_iadd hK dX8_copies_51 ?_
      obtain ⟨hb52, h⟩ := wpO_ix h
      refine r_iaload (k := (98)) hK (by omega) rfl (by decide) hb52 dX8_copies_52 (mrg_x (by omega)) ?_
      obtain ⟨hb53, h⟩ := wpO_ix h
      refine r_iastore (k := (98)) hK (by omega) rfl (by decide) hb53 dX8_copies_53 (up_x (by omega)) ?_
      refine r_iinc hK dX8_copies_54 (by rw [hN]; decide) rfl rfl (lv' := [some (.ref (gA g 95)), some (.int (I (u1))), some (.int (I (u2))), some (.int (I (v3 + 1)))]) rfl ?_
      refine r_goto hK dX8_copies_57 (t := 26) (by decide) ?_
      exact ih (v3 + 1) (up C (98) ((8 * u2) + v3).toNat (C (98) ((8 * u1) + v3).toNat)) h
    · exact hk (v3) C h
set_option maxRecDepth 100000 in
set_option maxHeartbeats 4000000 in
theorem c_X8_copies {l : Launch} {g : GT} {Y : Mem} {Q : Mem → Int → Prop} (a1 : Int) (a2 : Int) (C : Mem) (h : wpO (f_X8_copies a1 a2 C) Q) : MetC l yX8_copies cX8_copies 4 none 1 g [.ref (gA g 95), .int (I (a1)), .int (I (a2))] (mrg Y C) (QV (fun c => mrg Y c) Q) := by
  refine met_at 1 (lv := [some (.ref (gA g 95)), some (.int (I (a1))), some (.int (I (a2))), none]) (by decide) (Nat.le_of_ble_eq_true rfl) rfl rfl (fun K hK hN hr hQ => ?_)
  unfold f_X8_copies at h
  refine r_aload_n hK dX8_copies_0 rfl ?_
  refine r_getR (k := 95) (k' := (97)) hK cls_8 fl_RX8_17 (by decide) (by omega) rfl rfl dX8_copies_1 ?_
  refine r_iload_n hK dX8_copies_4 rfl ?_
  refine r_aload_n hK dX8_copies_5 rfl ?_
  refine r_getR (k := 95) (k' := (97)) hK cls_8 fl_RX8_17 (by decide) (by omega) rfl rfl dX8_copies_6 ?_
  refine r_iload_n hK dX8_copies_9 rfl ?_
  obtain ⟨hb10, h⟩ := wpO_ix h
  refine r_iaload (k := (97)) hK (by omega) rfl (by decide) hb10 dX8_copies_10 (mrg_x (by omega)) ?_
  obtain ⟨hb11, h⟩ := wpO_ix h
  refine r_iastore (k := (97)) hK (by omega) rfl (by decide) hb11 dX8_copies_11 (up_x (by omega)) ?_
  refine r_aload_n hK dX8_copies_12 rfl ?_
  refine r_getR (k := 95) (k' := (99)) hK cls_8 fl_RX8_23 (by decide) (by omega) rfl rfl dX8_copies_13 ?_
  refine r_iload_n hK dX8_copies_16 rfl ?_
  refine r_aload_n hK dX8_copies_17 rfl ?_
  refine r_getR (k := 95) (k' := (99)) hK cls_8 fl_RX8_23 (by decide) (by omega) rfl rfl dX8_copies_18 ?_
  refine r_iload_n hK dX8_copies_21 rfl ?_
  obtain ⟨hb22, h⟩ := wpO_ix h
  refine r_iaload (k := (99)) hK (by omega) rfl (by decide) hb22 dX8_copies_22 (mrg_x (by omega)) ?_
  obtain ⟨hb23, h⟩ := wpO_ix h
  refine r_iastore (k := (99)) hK (by omega) rfl (by decide) hb23 dX8_copies_23 (up_x (by omega)) ?_
  refine r_iconst hK dX8_copies_24 ?_
  refine r_istore_n hK dX8_copies_25 (by rw [hN]; decide) rfl (lv' := [some (.ref (gA g 95)), some (.int (I (a1))), some (.int (I (a2))), some (.int (I (0)))]) rfl ?_
  refine w_X8_copies_26 hK hN hr hQ (by omega) (a1) (a2) _ (fun v3_e26 C_e26 h => ?_) FU (0) (up (up C (97) (a2).toNat (C (97) (a1).toNat)) (99) (a2).toNat ((up C (97) (a2).toNat (C (97) (a1).toNat)) (99) (a1).toNat)) h
  exact r_return hK hr hQ dX8_copies_60 ⟨C_e26, rfl, rfl, wpO_some h⟩
set_option maxRecDepth 100000 in
set_option maxHeartbeats 4000000 in
theorem w_X8_comesIn_6 {K : KT} {g : GT} {Y : Mem} {dd : Nat} (hK : Kok K g cX8_comesIn RX8 dd) (hN : kN K = 6) (hr : (kMe K).sig.returnType = none) {Q : Mem → Int → Prop} (hQ : kQ K = MQ (kB K) (Qc g (QV (fun c => mrg Y c) Q)) (kA K) (kS K) (kc K) (ks K) (gS g)) (hdd : 2 ≤ dd) (u1 : Int) (u2 : Nat) (u3 : Int) (u4 : Int) (hu2 : u2 < 2) (k : Int → Mem → Option (Mem × Int)) (hk : ∀ (v5 : Int) (C : Mem), wpO (k v5 C) Q → Wn K g (mrg Y C) 28 [some (.ref (gA g 95)), some (.int (I (u1))), some (.ref (gA g (100 + u2))), some (.int (I (u3))), some (.int (I (u4))), some (.int (I (v5)))] []) : ∀ (n : Nat) (v5 : Int) (C : Mem), wpO (f_X8_comesIn_6 u1 u2 u3 u4 k n v5 C) Q → Wn K g (mrg Y C) 6 [some (.ref (gA g 95)), some (.int (I (u1))), some (.ref (gA g (100 + u2))), some (.int (I (u3))), some (.int (I (u4))), some (.int (I (v5)))] [] := by
  intro n
  induction n with
  | zero => intro v5 C h; exact (wpO_none h).elim
  | succ n ih =>
    intro v5 C h
    unfold f_X8_comesIn_6 at h
    refine r_iload hK dX8_comesIn_6 rfl ?_
    refine r_iload_n hK dX8_comesIn_8 rfl ?_
    refine r_icmp_le hK dX8_comesIn_9 (t := 28) (by decide) (wpO_lt h) (fun h => ?_) (fun h => ?_)
    · refine r_aload_n hK dX8_comesIn_12 rfl ?_
      refine r_iload hK dX8_comesIn_13 rfl ?_
      refine r_iconst hK dX8_comesIn_15 ?_
      refine r_isub hK dX8_comesIn_16 ?_
      refine r_iload hK dX8_comesIn_17 rfl ?_
      refine r_callV hK ck_X8_copies im_X8_copies sl_X8_copies ml_RX8_83 (by omega) (c_X8_copies (l := kL K) (g := g) (Y := Y) (v5 - 1) (v5) C (wpO_bd h)) cls_8 (k := 95) (by omega) rfl (As := [.int (I (v5 - 1)), .int (I (v5))]) (st := []) rfl (Nat.le_of_ble_eq_true rfl) dX8_comesIn_19 (kkV (fun C19 h => ?_))
      refine r_iinc hK dX8_comesIn_22 (by rw [hN]; decide) rfl rfl (lv' := [some (.ref (gA g 95)), some (.int (I (u1))), some (.ref (gA g (100 + u2))), some (.int (I (u3))), some (.int (I (u4))), some (.int (I (v5 + (-1))))]) rfl ?_
      refine r_goto hK dX8_comesIn_25 (t := 6) (by decide) ?_
      exact ih (v5 + (-1)) C19 h
    · exact hk (v5) C h
set_option maxRecDepth 100000 in
set_option maxHeartbeats 4000000 in
theorem w_X8_comesIn_46 {K : KT} {g : GT} {Y : Mem} {dd : Nat} (hK : Kok K g cX8_comesIn RX8 dd) (hN : kN K = 6) (hr : (kMe K).sig.returnType = none) {Q : Mem → Int → Prop} (hQ : kQ K = MQ (kB K) (Qc g (QV (fun c => mrg Y c) Q)) (kA K) (kS K) (kc K) (ks K) (gS g)) (hdd : 2 ≤ dd) (u1 : Int) (u2 : Nat) (u3 : Int) (hu2 : u2 < 2) (k : Int → Mem → Option (Mem × Int)) (hk : ∀ (v5 : Int) (C : Mem), wpO (k v5 C) Q → Wn K g (mrg Y C) 74 [some (.ref (gA g 95)), some (.int (I (u1))), some (.ref (gA g (100 + u2))), some (.int (I (u3))), none, some (.int (I (v5)))] []) : ∀ (n : Nat) (v5 : Int) (C : Mem), wpO (f_X8_comesIn_46 u1 u2 u3 k n v5 C) Q → Wn K g (mrg Y C) 46 [some (.ref (gA g 95)), some (.int (I (u1))), some (.ref (gA g (100 + u2))), some (.int (I (u3))), none, some (.int (I (v5)))] [] := by
  intro n
  induction n with
  | zero => intro v5 C h; exact (wpO_none h).elim
  | succ n ih =>
    intro v5 C h
    unfold f_X8_comesIn_46 at h
    refine r_iload hK dX8_comesIn_46 rfl ?_
    refine r_iload_n hK dX8_comesIn_48 rfl ?_
    refine r_icmp_ge hK dX8_comesIn_49 (t := 74) (by decide) (wpO_lt h) (fun h => ?_) (fun h => ?_)
    · refine r_aload_n hK dX8_comesIn_52 rfl ?_
      refine r_getR (k := 95) (k' := (98)) hK cls_8 fl_RX8_20 (by decide) (by omega) rfl rfl dX8_comesIn_53 ?_
      refine r_bipush hK dX8_comesIn_56 (by decide) ?_
      refine r_iload_n hK dX8_comesIn_58 rfl ?_
      refine r_imul hK dX8_comesIn_59 ?_
      refine r_iload hK dX8_comesIn_60 rfl ?_
      refine r_iadd hK dX8_comesIn_62 ?_
      refine r_aload_n hK dX8_comesIn_63 rfl ?_
      refine r_iload hK dX8_comesIn_64 rfl ?_
      obtain ⟨hb66, h⟩ := wpO_ix h
      refine r_iaload (k := (100 + u2)) hK (by omega) (sh_ua hu2) (by decide) hb66 dX8_comesIn_66 (mrg_x (by omega)) ?_
      obtain ⟨hb67, h⟩ := wpO_ix h
      refine r_iastore (k := (98)) hK (by omega) rfl (by decide) hb67 dX8_comesIn_67 (up_x (by omega)) ?_
      refine r_iinc hK dX8_comesIn_68 (by rw [hN]; decide) rfl rfl (lv' := [some (.ref (gA g 95)), some (.int (I (u1))), some (.ref (gA g (100 + u2))), some (.int (I (u3))), none, some (.int (I (v5 + 1)))]) rfl ?_
      refine r_goto hK dX8_comesIn_71 (t := 46) (by decide) ?_
      exact ih (v5 + 1) (up C (98) ((8 * u1) + v5).toNat (C (100 + u2) (v5).toNat)) h
    · exact hk (v5) C h
set_option maxRecDepth 100000 in
set_option maxHeartbeats 4000000 in
theorem c_X8_comesIn {l : Launch} {g : GT} {Y : Mem} {Q : Mem → Int → Prop} (a1 : Int) (a2 : Nat) (a3 : Int) (a4 : Int) (ha2 : a2 < 2) (C : Mem) (h : wpO (f_X8_comesIn a1 a2 a3 a4 C) Q) : MetC l yX8_comesIn cX8_comesIn 6 none 2 g [.ref (gA g 95), .int (I (a1)), .ref (gA g (100 + a2)), .int (I (a3)), .int (I (a4))] (mrg Y C) (QV (fun c => mrg Y c) Q) := by
  refine met_at 1 (lv := [some (.ref (gA g 95)), some (.int (I (a1))), some (.ref (gA g (100 + a2))), some (.int (I (a3))), some (.int (I (a4))), none]) (by decide) (Nat.le_of_ble_eq_true rfl) rfl rfl (fun K hK hN hr hQ => ?_)
  unfold f_X8_comesIn at h
  refine r_aload_n hK dX8_comesIn_0 rfl ?_
  refine r_getI (k := 95) hK cls_8 fl_RX8_76 (by decide) (by omega) rfl rfl dX8_comesIn_1 (mrg_x (by omega)) ?_
  refine r_istore hK dX8_comesIn_4 (by rw [hN]; decide) rfl (lv' := [some (.ref (gA g 95)), some (.int (I (a1))), some (.ref (gA g (100 + a2))), some (.int (I (a3))), some (.int (I (a4))), some (.int (I (C 95 6)))]) rfl ?_
  refine w_X8_comesIn_6 hK hN hr hQ (by omega) (a1) a2 (a3) (a4) ha2 _ (fun v5_e6 C_e6 h => ?_) FU (C 95 6) C h
  refine r_aload_n hK dX8_comesIn_28 rfl ?_
  refine r_getR (k := 95) (k' := (97)) hK cls_8 fl_RX8_17 (by decide) (by omega) rfl rfl dX8_comesIn_29 ?_
  refine r_iload_n hK dX8_comesIn_32 rfl ?_
  refine r_iload_n hK dX8_comesIn_33 rfl ?_
  obtain ⟨hb34, h⟩ := wpO_ix h
  refine r_iastore (k := (97)) hK (by omega) rfl (by decide) hb34 dX8_comesIn_34 (up_x (by omega)) ?_
  refine r_aload_n hK dX8_comesIn_35 rfl ?_
  refine r_getR (k := 95) (k' := (99)) hK cls_8 fl_RX8_23 (by decide) (by omega) rfl rfl dX8_comesIn_36 ?_
  refine r_iload_n hK dX8_comesIn_39 rfl ?_
  refine r_iload hK dX8_comesIn_40 rfl ?_
  obtain ⟨hb42, h⟩ := wpO_ix h
  refine r_iastore (k := (99)) hK (by omega) rfl (by decide) hb42 dX8_comesIn_42 (up_x (by omega)) ?_
  refine r_iconst hK dX8_comesIn_43 ?_
  refine r_istore hK dX8_comesIn_44 (by rw [hN]; decide) rfl (lv' := [some (.ref (gA g 95)), some (.int (I (a1))), some (.ref (gA g (100 + a2))), some (.int (I (a3))), some (.int (I (a4))), some (.int (I (0)))]) rfl ?_
  refine r_cut [true, true, true, true, false, true] (lv' := [some (.ref (gA g 95)), some (.int (I (a1))), some (.ref (gA g (100 + a2))), some (.int (I (a3))), none, some (.int (I (0)))]) rfl ?_
  refine w_X8_comesIn_46 hK hN hr hQ (by omega) (a1) a2 (a3) ha2 _ (fun v5_e46 C_e46 h => ?_) FU (0) (up (up C_e6 (97) (a1).toNat (a3)) (99) (a1).toNat (a4)) h
  refine r_aload_n hK dX8_comesIn_74 rfl ?_
  refine r_dup hK dX8_comesIn_75 rfl ?_
  refine r_getI (k := 95) hK cls_8 fl_RX8_76 (by decide) (by omega) rfl rfl dX8_comesIn_76 (mrg_x (by omega)) ?_
  refine r_iconst hK dX8_comesIn_79 ?_
  refine r_iadd hK dX8_comesIn_80 ?_
  refine r_put (k := 95) hK cls_8 fl_RX8_76 (by decide) (by omega) rfl rfl rfl rfl rfl dX8_comesIn_81 (up_x (by omega)) ?_
  exact r_return hK hr hQ dX8_comesIn_84 ⟨(up C_e46 95 6 ((C_e46 95 6) + 1)), rfl, rfl, wpO_some h⟩
set_option maxRecDepth 100000 in
set_option maxHeartbeats 4000000 in
theorem w_X8_goesOut_4 {K : KT} {g : GT} {Y : Mem} {dd : Nat} (hK : Kok K g cX8_goesOut RX8 dd) (hN : kN K = 3) (hr : (kMe K).sig.returnType = none) {Q : Mem → Int → Prop} (hQ : kQ K = MQ (kB K) (Qc g (QV (fun c => mrg Y c) Q)) (kA K) (kS K) (kc K) (ks K) (gS g)) (hdd : 2 ≤ dd) (k : Int → Mem → Option (Mem × Int)) (hk : ∀ (v2 : Int) (C : Mem), wpO (k v2 C) Q → Wn K g (mrg Y C) 26 [some (.ref (gA g 95)), none, some (.int (I (v2)))] []) : ∀ (n : Nat) (v2 : Int) (C : Mem), wpO (f_X8_goesOut_4 k n v2 C) Q → Wn K g (mrg Y C) 4 [some (.ref (gA g 95)), none, some (.int (I (v2)))] [] := by
  intro n
  induction n with
  | zero => intro v2 C h; exact (wpO_none h).elim
  | succ n ih =>
    intro v2 C h
    unfold f_X8_goesOut_4 at h
    refine r_iload_n hK dX8_goesOut_4 rfl ?_
    refine r_aload_n hK dX8_goesOut_5 rfl ?_
    refine r_getI (k := 95) hK cls_8 fl_RX8_76 (by decide) (by omega) rfl rfl dX8_goesOut_6 (mrg_x (by omega)) ?_
    refine r_icmp_ge hK dX8_goesOut_9 (t := 26) (by decide) (wpO_lt h) (fun h => ?_) (fun h => ?_)
    · refine r_aload_n hK dX8_goesOut_12 rfl ?_
      refine r_iload_n hK dX8_goesOut_13 rfl ?_
      refine r_iload_n hK dX8_goesOut_14 rfl ?_
      refine r_iconst hK dX8_goesOut_15 ?_
      refine r_isub hK dX8_goesOut_16 ?_
      refine r_callV hK ck_X8_copies im_X8_copies sl_X8_copies ml_RX8_83 (by omega) (c_X8_copies (l := kL K) (g := g) (Y := Y) (v2) (v2 - 1) C (wpO_bd h)) cls_8 (k := 95) (by omega) rfl (As := [.int (I (v2)), .int (I (v2 - 1))]) (st := []) rfl (Nat.le_of_ble_eq_true rfl) dX8_goesOut_17 (kkV (fun C17 h => ?_))
      refine r_iinc hK dX8_goesOut_20 (by rw [hN]; decide) rfl rfl (lv' := [some (.ref (gA g 95)), none, some (.int (I (v2 + 1)))]) rfl ?_
      refine r_goto hK dX8_goesOut_23 (t := 4) (by decide) ?_
      exact ih (v2 + 1) C17 h
    · exact hk (v2) C h
set_option maxRecDepth 100000 in
set_option maxHeartbeats 4000000 in
theorem c_X8_goesOut {l : Launch} {g : GT} {Y : Mem} {Q : Mem → Int → Prop} (a1 : Int) (C : Mem) (h : wpO (f_X8_goesOut a1 C) Q) : MetC l yX8_goesOut cX8_goesOut 3 none 2 g [.ref (gA g 95), .int (I (a1))] (mrg Y C) (QV (fun c => mrg Y c) Q) := by
  refine met_at 1 (lv := [some (.ref (gA g 95)), some (.int (I (a1))), none]) (by decide) (Nat.le_of_ble_eq_true rfl) rfl rfl (fun K hK hN hr hQ => ?_)
  unfold f_X8_goesOut at h
  refine r_iload_n hK dX8_goesOut_0 rfl ?_
  refine r_iconst hK dX8_goesOut_1 ?_
  refine r_iadd hK dX8_goesOut_2 ?_
  refine r_istore_n hK dX8_goesOut_3 (by rw [hN]; decide) rfl (lv' := [some (.ref (gA g 95)), some (.int (I (a1))), some (.int (I (a1 + 1)))]) rfl ?_
  refine r_cut [true, false, true] (lv' := [some (.ref (gA g 95)), none, some (.int (I (a1 + 1)))]) rfl ?_
  refine w_X8_goesOut_4 hK hN hr hQ (by omega) _ (fun v2_e4 C_e4 h => ?_) FU (a1 + 1) C h
  refine r_aload_n hK dX8_goesOut_26 rfl ?_
  refine r_dup hK dX8_goesOut_27 rfl ?_
  refine r_getI (k := 95) hK cls_8 fl_RX8_76 (by decide) (by omega) rfl rfl dX8_goesOut_28 (mrg_x (by omega)) ?_
  refine r_iconst hK dX8_goesOut_31 ?_
  refine r_isub hK dX8_goesOut_32 ?_
  refine r_put (k := 95) hK cls_8 fl_RX8_76 (by decide) (by omega) rfl rfl rfl rfl rfl dX8_goesOut_33 (up_x (by omega)) ?_
  exact r_return hK hr hQ dX8_goesOut_36 ⟨(up C_e4 95 6 ((C_e4 95 6) - 1)), rfl, rfl, wpO_some h⟩
set_option maxRecDepth 100000 in
set_option maxHeartbeats 4000000 in
theorem w_X8_half_12 {K : KT} {g : GT} {Y : Mem} {dd : Nat} (hK : Kok K g cX8_half RX8 dd) (hN : kN K = 3) (hr : (kMe K).sig.returnType = (some .int)) {Q : Mem → Int → Prop} (hQ : kQ K = MQ (kB K) (Qc g (QI (fun c => mrg Y c) Q)) (kA K) (kS K) (kc K) (ks K) (gS g)) (hdd : 2 ≤ dd) (u1 : Int) (k : Int → Mem → Option (Mem × Int)) (hk : ∀ (v2 : Int) (C : Mem), wpO (k v2 C) Q → Wn K g (mrg Y C) 30 [some (.ref (gA g 95)), some (.int (I (u1))), some (.int (I (v2)))] []) : ∀ (n : Nat) (v2 : Int) (C : Mem), wpO (f_X8_half_12 u1 k n v2 C) Q → Wn K g (mrg Y C) 12 [some (.ref (gA g 95)), some (.int (I (u1))), some (.int (I (v2)))] [] := by
  intro n
  induction n with
  | zero => intro v2 C h; exact (wpO_none h).elim
  | succ n ih =>
    intro v2 C h
    unfold f_X8_half_12 at h
    refine r_iconst hK dX8_half_12 ?_
    refine r_aload_n hK dX8_half_13 rfl ?_
    refine r_iconst hK dX8_half_14 ?_
    refine r_iload_n hK dX8_half_15 rfl ?_
    refine r_callV hK ck_X8_bytesOf im_X8_bytesOf sl_X8_bytesOf ml_RX8_87 (by omega) (c_X8_bytesOf (l := kL K) (g := g) (Y := Y) (0) (v2) C (wpO_bd h)) cls_8 (k := 95) (by omega) rfl (As := [.int (I (0)), .int (I (v2))]) (st := [.int (I (2))]) rfl (Nat.le_of_ble_eq_true rfl) dX8_half_16 (kkI (fun C16 r16 h => ?_))
    refine r_imul hK dX8_half_19 ?_
    refine r_iload_n hK dX8_half_20 rfl ?_
    refine r_icmp_ge hK dX8_half_21 (t := 30) (by decide) (wpO_lt h) (fun h => ?_) (fun h => ?_)
    · refine r_iinc hK dX8_half_24 (by rw [hN]; decide) rfl rfl (lv' := [some (.ref (gA g 95)), some (.int (I (u1))), some (.int (I (v2 + 1)))]) rfl ?_
      refine r_goto hK dX8_half_27 (t := 12) (by decide) ?_
      exact ih (v2 + 1) C16 h
    · exact hk (v2) C16 h
set_option maxRecDepth 100000 in
set_option maxHeartbeats 4000000 in
theorem c_X8_half {l : Launch} {g : GT} {Y : Mem} {Q : Mem → Int → Prop} (C : Mem) (h : wpO (f_X8_half C) Q) : MetC l yX8_half cX8_half 3 (some .int) 2 g [.ref (gA g 95)] (mrg Y C) (QI (fun c => mrg Y c) Q) := by
  refine met_at 2 (lv := [some (.ref (gA g 95)), none, none]) (by decide) (Nat.le_of_ble_eq_true rfl) rfl rfl (fun K hK hN hr hQ => ?_)
  unfold f_X8_half at h
  refine r_aload_n hK dX8_half_0 rfl ?_
  refine r_iconst hK dX8_half_1 ?_
  refine r_aload_n hK dX8_half_2 rfl ?_
  refine r_getI (k := 95) hK cls_8 fl_RX8_76 (by decide) (by omega) rfl rfl dX8_half_3 (mrg_x (by omega)) ?_
  refine r_callV hK ck_X8_bytesOf im_X8_bytesOf sl_X8_bytesOf ml_RX8_87 (by omega) (c_X8_bytesOf (l := kL K) (g := g) (Y := Y) (0) (C 95 6) C (wpO_bd h)) cls_8 (k := 95) (by omega) rfl (As := [.int (I (0)), .int (I (C 95 6))]) (st := []) rfl (Nat.le_of_ble_eq_true rfl) dX8_half_6 (kkI (fun C6 r6 h => ?_))
  refine r_istore_n hK dX8_half_9 (by rw [hN]; decide) rfl (lv' := [some (.ref (gA g 95)), some (.int (I (r6))), none]) rfl ?_
  refine r_iconst hK dX8_half_10 ?_
  refine r_istore_n hK dX8_half_11 (by rw [hN]; decide) rfl (lv' := [some (.ref (gA g 95)), some (.int (I (r6))), some (.int (I (0)))]) rfl ?_
  refine w_X8_half_12 hK hN hr hQ (by omega) (r6) _ (fun v2_e12 C_e12 h => ?_) FU (0) C6 h
  refine r_iload_n hK dX8_half_30 rfl ?_
  exact r_ireturn hK hr hQ rfl dX8_half_31 ⟨C_e12, v2_e12, rfl, rfl, wpO_some h⟩
set_option maxRecDepth 100000 in
set_option maxHeartbeats 4000000 in
theorem w_X8_shortest_2 {K : KT} {g : GT} {Y : Mem} {dd : Nat} (hK : Kok K g cX8_shortest RX8 dd) (hN : kN K = 3) (hr : (kMe K).sig.returnType = (some .int)) {Q : Mem → Int → Prop} (hQ : kQ K = MQ (kB K) (Qc g (QI (fun c => mrg Y c) Q)) (kA K) (kS K) (kc K) (ks K) (gS g)) (hdd : 1 ≤ dd) (u1 : Int) (k : Int → Mem → Option (Mem × Int)) (hk : ∀ (v2 : Int) (C : Mem), wpO (k v2 C) Q → Wn K g (mrg Y C) 57 [some (.ref (gA g 95)), some (.int (I (u1))), some (.int (I (v2)))] []) : ∀ (n : Nat) (v2 : Int) (C : Mem), wpO (f_X8_shortest_2 u1 k n v2 C) Q → Wn K g (mrg Y C) 2 [some (.ref (gA g 95)), some (.int (I (u1))), some (.int (I (v2)))] [] := by
  intro n
  induction n with
  | zero => intro v2 C h; exact (wpO_none h).elim
  | succ n ih =>
    intro v2 C h
    unfold f_X8_shortest_2 at h
    refine r_iload_n hK dX8_shortest_2 rfl ?_
    refine r_aload_n hK dX8_shortest_3 rfl ?_
    refine r_getR (k := 95) (k' := (97)) hK cls_8 fl_RX8_17 (by decide) (by omega) rfl rfl dX8_shortest_4 ?_
    refine r_iload_n hK dX8_shortest_7 rfl ?_
    refine r_iconst hK dX8_shortest_8 ?_
    refine r_isub hK dX8_shortest_9 ?_
    obtain ⟨hb10, h⟩ := wpO_ix h
    refine r_iaload (k := (97)) hK (by omega) rfl (by decide) hb10 dX8_shortest_10 (mrg_x (by omega)) ?_
    refine r_icmp_ge hK dX8_shortest_11 (t := 57) (by decide) (wpO_lt h) (fun h => ?_) (fun h => ?_)
    · refine r_iload_n hK dX8_shortest_14 rfl ?_
      refine r_aload_n hK dX8_shortest_15 rfl ?_
      refine r_getR (k := 95) (k' := (97)) hK cls_8 fl_RX8_17 (by decide) (by omega) rfl rfl dX8_shortest_16 ?_
      refine r_iload_n hK dX8_shortest_19 rfl ?_
      obtain ⟨hb20, h⟩ := wpO_ix h
      refine r_iaload (k := (97)) hK (by omega) rfl (by decide) hb20 dX8_shortest_20 (mrg_x (by omega)) ?_
      refine r_icmp_ge hK dX8_shortest_21 (t := 57) (by decide) (wpO_lt h) (fun h => ?_) (fun h => ?_)
      · refine r_aload_n hK dX8_shortest_24 rfl ?_
        refine r_getR (k := 95) (k' := (98)) hK cls_8 fl_RX8_20 (by decide) (by omega) rfl rfl dX8_shortest_25 ?_
        refine r_bipush hK dX8_shortest_28 (by decide) ?_
        refine r_iload_n hK dX8_shortest_30 rfl ?_
        refine r_iconst hK dX8_shortest_31 ?_
        refine r_isub hK dX8_shortest_32 ?_
        refine r_imul hK dX8_shortest_33 ?_
        refine r_iload_n hK dX8_shortest_34 rfl ?_
        refine r_iadd hK dX8_shortest_35 ?_
        obtain ⟨hb36, h⟩ := wpO_ix h
        refine r_iaload (k := (98)) hK (by omega) rfl (by decide) hb36 dX8_shortest_36 (mrg_x (by omega)) ?_
        refine r_aload_n hK dX8_shortest_37 rfl ?_
        refine r_getR (k := 95) (k' := (98)) hK cls_8 fl_RX8_20 (by decide) (by omega) rfl rfl dX8_shortest_38 ?_
        refine r_bipush hK dX8_shortest_41 (by decide) ?_
        refine r_iload_n hK dX8_shortest_43 rfl ?_
        refine r_imul hK dX8_shortest_44 ?_
        refine r_iload_n hK dX8_shortest_45 rfl ?_
        refine r_iadd hK dX8_shortest_46 ?_
        obtain ⟨hb47, h⟩ := wpO_ix h
        refine r_iaload (k := (98)) hK (by omega) rfl (by decide) hb47 dX8_shortest_47 (mrg_x (by omega)) ?_
        refine r_icmp_ne hK dX8_shortest_48 (t := 57) (by decide) (wpO_eq h) (fun h => ?_) (fun h => ?_)
        · refine r_iinc hK dX8_shortest_51 (by rw [hN]; decide) rfl rfl (lv' := [some (.ref (gA g 95)), some (.int (I (u1))), some (.int (I (v2 + 1)))]) rfl ?_
          refine r_goto hK dX8_shortest_54 (t := 2) (by decide) ?_
          exact ih (v2 + 1) C h
        · exact hk (v2) C h
      · exact hk (v2) C h
    · exact hk (v2) C h
set_option maxRecDepth 100000 in
set_option maxHeartbeats 4000000 in
theorem c_X8_shortest {l : Launch} {g : GT} {Y : Mem} {Q : Mem → Int → Prop} (a1 : Int) (C : Mem) (h : wpO (f_X8_shortest a1 C) Q) : MetC l yX8_shortest cX8_shortest 3 (some .int) 1 g [.ref (gA g 95), .int (I (a1))] (mrg Y C) (QI (fun c => mrg Y c) Q) := by
  refine met_at 1 (lv := [some (.ref (gA g 95)), some (.int (I (a1))), none]) (by decide) (Nat.le_of_ble_eq_true rfl) rfl rfl (fun K hK hN hr hQ => ?_)
  unfold f_X8_shortest at h
  refine r_iconst hK dX8_shortest_0 ?_
  refine r_istore_n hK dX8_shortest_1 (by rw [hN]; decide) rfl (lv' := [some (.ref (gA g 95)), some (.int (I (a1))), some (.int (I (0)))]) rfl ?_
  refine w_X8_shortest_2 hK hN hr hQ (by omega) (a1) _ (fun v2_e2 C_e2 h => ?_) FU (0) C h
  refine r_iload_n hK dX8_shortest_57 rfl ?_
  refine r_iconst hK dX8_shortest_58 ?_
  refine r_iadd hK dX8_shortest_59 ?_
  exact r_ireturn hK hr hQ rfl dX8_shortest_60 ⟨C_e2, (v2_e2 + 1), rfl, rfl, wpO_some h⟩
set_option maxRecDepth 100000 in
set_option maxHeartbeats 4000000 in
theorem w_X8_goesUp_7 {K : KT} {g : GT} {Y : Mem} {dd : Nat} (hK : Kok K g cX8_goesUp RX8 dd) (hN : kN K = 4) (hr : (kMe K).sig.returnType = none) {Q : Mem → Int → Prop} (hQ : kQ K = MQ (kB K) (Qc g (QV (fun c => mrg Y c) Q)) (kA K) (kS K) (kc K) (ks K) (gS g)) (hdd : 1 ≤ dd) (u1 : Int) (u2 : Int) (k : Int → Mem → Option (Mem × Int)) (hk : ∀ (v3 : Int) (C : Mem), wpO (k v3 C) Q → Wn K g (mrg Y C) 35 [some (.ref (gA g 95)), some (.int (I (u1))), some (.int (I (u2))), some (.int (I (v3)))] []) : ∀ (n : Nat) (v3 : Int) (C : Mem), wpO (f_X8_goesUp_7 u1 u2 k n v3 C) Q → Wn K g (mrg Y C) 7 [some (.ref (gA g 95)), some (.int (I (u1))), some (.int (I (u2))), some (.int (I (v3)))] [] := by
  intro n
  induction n with
  | zero => intro v3 C h; exact (wpO_none h).elim
  | succ n ih =>
    intro v3 C h
    unfold f_X8_goesUp_7 at h
    refine r_iload_n hK dX8_goesUp_7 rfl ?_
    refine r_iload_n hK dX8_goesUp_8 rfl ?_
    refine r_icmp_ge hK dX8_goesUp_9 (t := 35) (by decide) (wpO_lt h) (fun h => ?_) (fun h => ?_)
    · refine r_aload_n hK dX8_goesUp_12 rfl ?_
      refine r_getR (k := 95) (k' := (100)) hK cls_8 fl_RX8_26 (by decide) (by omega) rfl rfl dX8_goesUp_13 ?_
      refine r_iload_n hK dX8_goesUp_16 rfl ?_
      refine r_aload_n hK dX8_goesUp_17 rfl ?_
      refine r_getR (k := 95) (k' := (98)) hK cls_8 fl_RX8_20 (by decide) (by omega) rfl rfl dX8_goesUp_18 ?_
      refine r_bipush hK dX8_goesUp_21 (by decide) ?_
      refine r_iload_n hK dX8_goesUp_23 rfl ?_
      refine r_imul hK dX8_goesUp_24 ?_
      refine r_iload_n hK dX8_goesUp_25 rfl ?_
      refine r_iadd hK dX8_goesUp_26 ?_
      obtain ⟨hb27, h⟩ := wpO_ix h
      refine r_iaload (k := (98)) hK (by omega) rfl (by decide) hb27 dX8_goesUp_27 (mrg_x (by omega)) ?_
      obtain ⟨hb28, h⟩ := wpO_ix h
      refine r_iastore (k := (100)) hK (by omega) rfl (by decide) hb28 dX8_goesUp_28 (up_x (by omega)) ?_
      refine r_iinc hK dX8_goesUp_29 (by rw [hN]; decide) rfl rfl (lv' := [some (.ref (gA g 95)), some (.int (I (u1))), some (.int (I (u2))), some (.int (I (v3 + 1)))]) rfl ?_
      refine r_goto hK dX8_goesUp_32 (t := 7) (by decide) ?_
      exact ih (v3 + 1) (up C (100) (v3).toNat (C (98) ((8 * u1) + v3).toNat)) h
    · exact hk (v3) C h
set_option maxRecDepth 100000 in
set_option maxHeartbeats 4000000 in
theorem c_X8_goesUp {l : Launch} {g : GT} {Y : Mem} {Q : Mem → Int → Prop} (a1 : Int) (a2 : Int) (C : Mem) (h : wpO (f_X8_goesUp a1 a2 C) Q) : MetC l yX8_goesUp cX8_goesUp 4 none 1 g [.ref (gA g 95), .int (I (a1)), .int (I (a2))] (mrg Y C) (QV (fun c => mrg Y c) Q) := by
  refine met_at 1 (lv := [some (.ref (gA g 95)), some (.int (I (a1))), some (.int (I (a2))), none]) (by decide) (Nat.le_of_ble_eq_true rfl) rfl rfl (fun K hK hN hr hQ => ?_)
  unfold f_X8_goesUp at h
  refine r_aload_n hK dX8_goesUp_0 rfl ?_
  refine r_iload_n hK dX8_goesUp_1 rfl ?_
  refine r_put (k := 95) hK cls_8 fl_RX8_90 (by decide) (by omega) rfl rfl rfl rfl rfl dX8_goesUp_2 (up_x (by omega)) ?_
  refine r_iconst hK dX8_goesUp_5 ?_
  refine r_istore_n hK dX8_goesUp_6 (by rw [hN]; decide) rfl (lv' := [some (.ref (gA g 95)), some (.int (I (a1))), some (.int (I (a2))), some (.int (I (0)))]) rfl ?_
  refine w_X8_goesUp_7 hK hN hr hQ (by omega) (a1) (a2) _ (fun v3_e7 C_e7 h => ?_) FU (0) (up C 95 10 (a2)) h
  exact r_return hK hr hQ dX8_goesUp_35 ⟨C_e7, rfl, rfl, wpO_some h⟩
set_option maxRecDepth 100000 in
set_option maxHeartbeats 4000000 in
theorem c_X8_setUp {l : Launch} {g : GT} {Y : Mem} {Q : Mem → Int → Prop} (a1 : Int) (a2 : Int) (C : Mem) (h : wpO (f_X8_setUp a1 a2 C) Q) : MetC l yX8_setUp cX8_setUp 3 none 2 g [.ref (gA g 95), .int (I (a1)), .int (I (a2))] (mrg Y C) (QV (fun c => mrg Y c) Q) := by
  refine met_at 0 (lv := [some (.ref (gA g 95)), some (.int (I (a1))), some (.int (I (a2)))]) (by decide) (Nat.le_of_ble_eq_true rfl) rfl rfl (fun K hK hN hr hQ => ?_)
  unfold f_X8_setUp at h
  refine r_aload_n hK dX8_setUp_0 rfl ?_
  refine r_iload_n hK dX8_setUp_1 rfl ?_
  refine r_iload_n hK dX8_setUp_2 rfl ?_
  refine r_iconst hK dX8_setUp_3 ?_
  refine r_jn (J := fun j21 => ∀ (s2_21 : Int) (C_21 : Mem), wpO (j21 s2_21 C_21) Q → Wn K g (mrg Y C_21) 21 [none, none, none] [.int (I (s2_21)), .int (I (a2)), .ref (gA g 95)]) h ?_ ?_
  · intro s2_21 C_21 h
    refine r_callV hK ck_X8_goesUp im_X8_goesUp sl_X8_goesUp ml_RX8_97 (by omega) (c_X8_goesUp (l := kL K) (g := g) (Y := Y) (a2) (s2_21) C_21 (wpO_bd h)) cls_8 (k := 95) (by omega) rfl (As := [.int (I (a2)), .int (I (s2_21))]) (st := []) rfl (Nat.le_of_ble_eq_true rfl) dX8_setUp_21 (kkV (fun C21 h => ?_))
    exact r_return hK hr hQ dX8_setUp_24 ⟨C21, rfl, rfl, wpO_some h⟩
  · intro hj21 h
    refine r_icmp_ne hK dX8_setUp_4 (t := 15) (by decide) (wpO_eq h) (fun h => ?_) (fun h => ?_)
    · refine r_aload_n hK dX8_setUp_7 rfl ?_
      refine r_iload_n hK dX8_setUp_8 rfl ?_
      refine r_callV hK ck_X8_shortest im_X8_shortest sl_X8_shortest ml_RX8_93 (by omega) (c_X8_shortest (l := kL K) (g := g) (Y := Y) (a2) C (wpO_bd h)) cls_8 (k := 95) (by omega) rfl (As := [.int (I (a2))]) (st := [.int (I (a2)), .ref (gA g 95)]) rfl (Nat.le_of_ble_eq_true rfl) dX8_setUp_9 (kkI (fun C9 r9 h => ?_))
      refine r_goto hK dX8_setUp_12 (t := 21) (by decide) ?_
      refine r_cut [false, false, false] (lv' := [none, none, none]) rfl ?_
      exact hj21 (r9) C9 h
    · refine r_aload_n hK dX8_setUp_15 rfl ?_
      refine r_getR (k := 95) (k' := (97)) hK cls_8 fl_RX8_17 (by decide) (by omega) rfl rfl dX8_setUp_16 ?_
      refine r_iload_n hK dX8_setUp_19 rfl ?_
      obtain ⟨hb20, h⟩ := wpO_ix h
      refine r_iaload (k := (97)) hK (by omega) rfl (by decide) hb20 dX8_setUp_20 (mrg_x (by omega)) ?_
      refine r_cut [false, false, false] (lv' := [none, none, none]) rfl ?_
      exact hj21 (C (97) (a2).toNat) C h
set_option maxRecDepth 100000 in
set_option maxHeartbeats 4000000 in
theorem c_X8_share {l : Launch} {g : GT} {Y : Mem} {Q : Mem → Int → Prop} (a1 : Int) (a2 : Int) (a3 : Int) (a4 : Int) (a5 : Int) (C : Mem) (h : wpO (f_X8_share a1 a2 a3 a4 a5 C) Q) : MetC l yX8_share cX8_share 8 none 3 g [.ref (gA g 95), .int (I (a1)), .int (I (a2)), .int (I (a3)), .int (I (a4)), .int (I (a5))] (mrg Y C) (QV (fun c => mrg Y c) Q) := by
  refine met_at 2 (lv := [some (.ref (gA g 95)), some (.int (I (a1))), some (.int (I (a2))), some (.int (I (a3))), some (.int (I (a4))), some (.int (I (a5))), none, none]) (by decide) (Nat.le_of_ble_eq_true rfl) rfl rfl (fun K hK hN hr hQ => ?_)
  unfold f_X8_share at h
  refine r_aload_n hK dX8_share_0 rfl ?_
  refine r_callV hK ck_X8_half im_X8_half sl_X8_half ml_RX8_100 (by omega) (c_X8_half (l := kL K) (g := g) (Y := Y) C (wpO_bd h)) cls_8 (k := 95) (by omega) rfl (As := []) (st := []) rfl (Nat.le_of_ble_eq_true rfl) dX8_share_1 (kkI (fun C1 r1 h => ?_))
  refine r_istore hK dX8_share_4 (by rw [hN]; decide) rfl (lv' := [some (.ref (gA g 95)), some (.int (I (a1))), some (.int (I (a2))), some (.int (I (a3))), some (.int (I (a4))), some (.int (I (a5))), some (.int (I (r1))), none]) rfl ?_
  refine r_aload_n hK dX8_share_6 rfl ?_
  refine r_iload_n hK dX8_share_7 rfl ?_
  refine r_iload hK dX8_share_8 rfl ?_
  refine r_callV hK ck_X8_setUp im_X8_setUp sl_X8_setUp ml_RX8_104 (by omega) (c_X8_setUp (l := kL K) (g := g) (Y := Y) (a3) (r1) C1 (wpO_bd h)) cls_8 (k := 95) (by omega) rfl (As := [.int (I (a3)), .int (I (r1))]) (st := []) rfl (Nat.le_of_ble_eq_true rfl) dX8_share_10 (kkV (fun C10 h => ?_))
  refine r_iload_n hK dX8_share_13 rfl ?_
  refine r_iconst hK dX8_share_14 ?_
  refine r_icmp_ne hK dX8_share_15 (t := 47) (by decide) (wpO_eq h) (fun h => ?_) (fun h => ?_)
  · refine r_aload_n hK dX8_share_18 rfl ?_
    refine r_iload_n hK dX8_share_19 rfl ?_
    refine r_iconst hK dX8_share_20 ?_
    refine r_iload_n hK dX8_share_21 rfl ?_
    refine r_iconst hK dX8_share_22 ?_
    refine r_iadd hK dX8_share_23 ?_
    refine r_iconst hK dX8_share_24 ?_
    refine r_iload hK dX8_share_25 rfl ?_
    refine r_callV hK ck_X8_goBack im_X8_goBack sl_X8_goBack ml_RX8_107 (by omega) (c_X8_goBack (l := kL K) (g := g) (Y := Y) (a1) (1) (a2 + 1) (0) (r1) C10 (wpO_bd h)) cls_8 (k := 95) (by omega) rfl (As := [.int (I (a1)), .int (I (1)), .int (I (a2 + 1)), .int (I (0)), .int (I (r1))]) (st := []) rfl (Nat.le_of_ble_eq_true rfl) dX8_share_27 (kkV (fun C27 h => ?_))
    refine r_aload_n hK dX8_share_30 rfl ?_
    refine r_iload_n hK dX8_share_31 rfl ?_
    refine r_iconst hK dX8_share_32 ?_
    refine r_iload hK dX8_share_33 rfl ?_
    refine r_iload hK dX8_share_35 rfl ?_
    refine r_aload_n hK dX8_share_37 rfl ?_
    refine r_getI (k := 95) hK cls_8 fl_RX8_76 (by decide) (by omega) rfl rfl dX8_share_38 (mrg_x (by omega)) ?_
    refine r_callV hK ck_X8_goBack im_X8_goBack sl_X8_goBack ml_RX8_107 (by omega) (c_X8_goBack (l := kL K) (g := g) (Y := Y) (a2) (1) (a5) (r1) (C27 95 6) C27 (wpO_bd h)) cls_8 (k := 95) (by omega) rfl (As := [.int (I (a2)), .int (I (1)), .int (I (a5)), .int (I (r1)), .int (I (C27 95 6))]) (st := []) rfl (Nat.le_of_ble_eq_true rfl) dX8_share_41 (kkV (fun C41 h => ?_))
    refine r_goto hK dX8_share_44 (t := 83) (by decide) ?_
    exact r_return hK hr hQ dX8_share_83 ⟨C41, rfl, rfl, wpO_some h⟩
  · refine r_aload_n hK dX8_share_47 rfl ?_
    refine r_getR (k := 95) (k' := (99)) hK cls_8 fl_RX8_23 (by decide) (by omega) rfl rfl dX8_share_48 ?_
    refine r_iload hK dX8_share_51 rfl ?_
    obtain ⟨hb53, h⟩ := wpO_ix h
    refine r_iaload (k := (99)) hK (by omega) rfl (by decide) hb53 dX8_share_53 (mrg_x (by omega)) ?_
    refine r_istore hK dX8_share_54 (by rw [hN]; decide) rfl (lv' := [some (.ref (gA g 95)), some (.int (I (a1))), some (.int (I (a2))), some (.int (I (a3))), some (.int (I (a4))), some (.int (I (a5))), some (.int (I (r1))), some (.int (I (C10 (99) (r1).toNat)))]) rfl ?_
    refine r_aload_n hK dX8_share_56 rfl ?_
    refine r_iload_n hK dX8_share_57 rfl ?_
    refine r_iconst hK dX8_share_58 ?_
    refine r_iload hK dX8_share_59 rfl ?_
    refine r_iconst hK dX8_share_61 ?_
    refine r_iload hK dX8_share_62 rfl ?_
    refine r_callV hK ck_X8_goBack im_X8_goBack sl_X8_goBack ml_RX8_107 (by omega) (c_X8_goBack (l := kL K) (g := g) (Y := Y) (a1) (2) (a4) (0) (r1) C10 (wpO_bd h)) cls_8 (k := 95) (by omega) rfl (As := [.int (I (a1)), .int (I (2)), .int (I (a4)), .int (I (0)), .int (I (r1))]) (st := []) rfl (Nat.le_of_ble_eq_true rfl) dX8_share_64 (kkV (fun C64 h => ?_))
    refine r_aload_n hK dX8_share_67 rfl ?_
    refine r_iload_n hK dX8_share_68 rfl ?_
    refine r_iconst hK dX8_share_69 ?_
    refine r_iload hK dX8_share_70 rfl ?_
    refine r_iload hK dX8_share_72 rfl ?_
    refine r_iconst hK dX8_share_74 ?_
    refine r_iadd hK dX8_share_75 ?_
    refine r_aload_n hK dX8_share_76 rfl ?_
    refine r_getI (k := 95) hK cls_8 fl_RX8_76 (by decide) (by omega) rfl rfl dX8_share_77 (mrg_x (by omega)) ?_
    refine r_callV hK ck_X8_goBack im_X8_goBack sl_X8_goBack ml_RX8_107 (by omega) (c_X8_goBack (l := kL K) (g := g) (Y := Y) (a2) (2) (C10 (99) (r1).toNat) (r1 + 1) (C64 95 6) C64 (wpO_bd h)) cls_8 (k := 95) (by omega) rfl (As := [.int (I (a2)), .int (I (2)), .int (I (C10 (99) (r1).toNat)), .int (I (r1 + 1)), .int (I (C64 95 6))]) (st := []) rfl (Nat.le_of_ble_eq_true rfl) dX8_share_80 (kkV (fun C80 h => ?_))
    exact r_return hK hr hQ dX8_share_83 ⟨C80, rfl, rfl, wpO_some h⟩
set_option maxRecDepth 100000 in
set_option maxHeartbeats 4000000 in
theorem w_X8_spells_12 {K : KT} {g : GT} {Y : Mem} {dd : Nat} (hK : Kok K g cX8_spells RX8 dd) (hN : kN K = 5) (hr : (kMe K).sig.returnType = none) {Q : Mem → Int → Prop} (hQ : kQ K = MQ (kB K) (Qc g (QV (fun c => mrg Y c) Q)) (kA K) (kS K) (kc K) (ks K) (gS g)) (hdd : 1 ≤ dd) (k : Int → Int → Mem → Option (Mem × Int)) (hk : ∀ (v3 : Int) (v4 : Int) (C : Mem), wpO (k v3 v4 C) Q → Wn K g (mrg Y C) 42 [some (.ref (gA g 95)), none, none, some (.int (I (v3))), some (.int (I (v4)))] []) : ∀ (n : Nat) (v3 : Int) (v4 : Int) (C : Mem), wpO (f_X8_spells_12 k n v3 v4 C) Q → Wn K g (mrg Y C) 12 [some (.ref (gA g 95)), none, none, some (.int (I (v3))), some (.int (I (v4)))] [] := by
  intro n
  induction n with
  | zero => intro v3 v4 C h; exact (wpO_none h).elim
  | succ n ih =>
    intro v3 v4 C h
    unfold f_X8_spells_12 at h
    refine r_iload hK dX8_spells_12 rfl ?_
    refine r_if_lt hK dX8_spells_14 (t := 42) (by decide) (wpO_lt h) (fun h => ?_) (fun h => ?_)
    · exact hk (v3) (v4) C h
    · refine r_aload_n hK dX8_spells_17 rfl ?_
      refine r_getR (k := 95) (k' := (101)) hK cls_8 fl_RX8_29 (by decide) (by omega) rfl rfl dX8_spells_18 ?_
      refine r_iload hK dX8_spells_21 rfl ?_
      refine r_bipush hK dX8_spells_23 (by decide) ?_
      refine r_iload_n hK dX8_spells_25 rfl ?_
      refine r_bipush hK dX8_spells_26 (by decide) ?_
      obtain ⟨hd28, h⟩ := wpO_dv h
      refine r_irem hK hd28 (by decide) dX8_spells_28 ?_
      refine r_iadd hK dX8_spells_29 ?_
      obtain ⟨hb30, h⟩ := wpO_ix h
      refine r_iastore (k := (101)) hK (by omega) rfl (by decide) hb30 dX8_spells_30 (up_x (by omega)) ?_
      refine r_iload_n hK dX8_spells_31 rfl ?_
      refine r_bipush hK dX8_spells_32 (by decide) ?_
      obtain ⟨hd34, h⟩ := wpO_dv h
      refine r_idiv hK hd34 (by decide) dX8_spells_34 ?_
      refine r_istore_n hK dX8_spells_35 (by rw [hN]; decide) rfl (lv' := [some (.ref (gA g 95)), none, none, some (.int (I (v3 / 26))), some (.int (I (v4)))]) rfl ?_
      refine r_iinc hK dX8_spells_36 (by rw [hN]; decide) rfl rfl (lv' := [some (.ref (gA g 95)), none, none, some (.int (I (v3 / 26))), some (.int (I (v4 + (-1))))]) rfl ?_
      refine r_goto hK dX8_spells_39 (t := 12) (by decide) ?_
      exact ih (v3 / 26) (v4 + (-1)) (up C (101) (v4).toNat (97 + (v3 % 26))) h
set_option maxRecDepth 100000 in
set_option maxHeartbeats 4000000 in
theorem c_X8_spells {l : Launch} {g : GT} {Y : Mem} {Q : Mem → Int → Prop} (a1 : Int) (a2 : Int) (C : Mem) (h : wpO (f_X8_spells a1 a2 C) Q) : MetC l yX8_spells cX8_spells 5 none 1 g [.ref (gA g 95), .int (I (a1)), .int (I (a2))] (mrg Y C) (QV (fun c => mrg Y c) Q) := by
  refine met_at 2 (lv := [some (.ref (gA g 95)), some (.int (I (a1))), some (.int (I (a2))), none, none]) (by decide) (Nat.le_of_ble_eq_true rfl) rfl rfl (fun K hK hN hr hQ => ?_)
  unfold f_X8_spells at h
  refine r_iload_n hK dX8_spells_0 rfl ?_
  refine r_istore_n hK dX8_spells_1 (by rw [hN]; decide) rfl (lv' := [some (.ref (gA g 95)), some (.int (I (a1))), some (.int (I (a2))), some (.int (I (a1))), none]) rfl ?_
  refine r_aload_n hK dX8_spells_2 rfl ?_
  refine r_iload_n hK dX8_spells_3 rfl ?_
  refine r_put (k := 95) hK cls_8 fl_RX8_111 (by decide) (by omega) rfl rfl rfl rfl rfl dX8_spells_4 (up_x (by omega)) ?_
  refine r_iload_n hK dX8_spells_7 rfl ?_
  refine r_iconst hK dX8_spells_8 ?_
  refine r_isub hK dX8_spells_9 ?_
  refine r_istore hK dX8_spells_10 (by rw [hN]; decide) rfl (lv' := [some (.ref (gA g 95)), some (.int (I (a1))), some (.int (I (a2))), some (.int (I (a1))), some (.int (I (a2 - 1)))]) rfl ?_
  refine r_cut [true, false, false, true, true] (lv' := [some (.ref (gA g 95)), none, none, some (.int (I (a1))), some (.int (I (a2 - 1)))]) rfl ?_
  refine w_X8_spells_12 hK hN hr hQ (by omega) _ (fun v3_e12 v4_e12 C_e12 h => ?_) FU (a1) (a2 - 1) (up C 95 12 (a2)) h
  exact r_return hK hr hQ dX8_spells_42 ⟨C_e12, rfl, rfl, wpO_some h⟩
set_option maxRecDepth 100000 in
set_option maxHeartbeats 4000000 in
theorem w_X8_isSpelled_4 {K : KT} {g : GT} {Y : Mem} {dd : Nat} (hK : Kok K g cX8_isSpelled RX8 dd) (hN : kN K = 4) (hr : (kMe K).sig.returnType = (some .boolean)) {Q : Mem → Int → Prop} (hQ : kQ K = MQ (kB K) (Qc g (QI (fun c => mrg Y c) Q)) (kA K) (kS K) (kc K) (ks K) (gS g)) (hdd : 2 ≤ dd) (u0 : Int) (u1 : Int) (k : Int → Int → Mem → Option (Mem × Int)) (hk : ∀ (v2 : Int) (v3 : Int) (C : Mem), wpO (k v2 v3 C) Q → Wn K g (mrg Y C) 25 [some (.int (I (u0))), some (.int (I (u1))), some (.int (I (v2))), some (.int (I (v3)))] []) : ∀ (n : Nat) (v2 : Int) (v3 : Int) (C : Mem), wpO (f_X8_isSpelled_4 u0 u1 k n v2 v3 C) Q → Wn K g (mrg Y C) 4 [some (.int (I (u0))), some (.int (I (u1))), some (.int (I (v2))), some (.int (I (v3)))] [] := by
  intro n
  induction n with
  | zero => intro v2 v3 C h; exact (wpO_none h).elim
  | succ n ih =>
    intro v2 v3 C h
    unfold f_X8_isSpelled_4 at h
    refine r_iload_n hK dX8_isSpelled_4 rfl ?_
    refine r_iload_n hK dX8_isSpelled_5 rfl ?_
    refine r_icmp_ge hK dX8_isSpelled_6 (t := 25) (by decide) (wpO_lt h) (fun h => ?_) (fun h => ?_)
    · refine r_iload_n hK dX8_isSpelled_9 rfl ?_
      refine r_iconst hK dX8_isSpelled_10 ?_
      refine r_icmp_ge hK dX8_isSpelled_11 (t := 25) (by decide) (wpO_lt h) (fun h => ?_) (fun h => ?_)
      · refine r_iload_n hK dX8_isSpelled_14 rfl ?_
        refine r_bipush hK dX8_isSpelled_15 (by decide) ?_
        refine r_imul hK dX8_isSpelled_17 ?_
        refine r_istore_n hK dX8_isSpelled_18 (by rw [hN]; decide) rfl (lv' := [some (.int (I (u0))), some (.int (I (u1))), some (.int (I (v2 * 26))), some (.int (I (v3)))]) rfl ?_
        refine r_iinc hK dX8_isSpelled_19 (by rw [hN]; decide) rfl rfl (lv' := [some (.int (I (u0))), some (.int (I (u1))), some (.int (I (v2 * 26))), some (.int (I (v3 + 1)))]) rfl ?_
        refine r_goto hK dX8_isSpelled_22 (t := 4) (by decide) ?_
        exact ih (v2 * 26) (v3 + 1) C h
      · exact hk (v2) (v3) C h
    · exact hk (v2) (v3) C h
set_option maxRecDepth 100000 in
set_option maxHeartbeats 4000000 in
theorem c_X8_isSpelled {l : Launch} {g : GT} {Y : Mem} {Q : Mem → Int → Prop} (a0 : Int) (a1 : Int) (C : Mem) (h : wpO (f_X8_isSpelled a0 a1 C) Q) : MetC l yX8_isSpelled cX8_isSpelled 4 (some .boolean) 2 g [.int (I (a0)), .int (I (a1))] (mrg Y C) (QI (fun c => mrg Y c) Q) := by
  refine met_at 2 (lv := [some (.int (I (a0))), some (.int (I (a1))), none, none]) (by decide) (Nat.le_of_ble_eq_true rfl) rfl rfl (fun K hK hN hr hQ => ?_)
  unfold f_X8_isSpelled at h
  refine r_iconst hK dX8_isSpelled_0 ?_
  refine r_istore_n hK dX8_isSpelled_1 (by rw [hN]; decide) rfl (lv' := [some (.int (I (a0))), some (.int (I (a1))), some (.int (I (1))), none]) rfl ?_
  refine r_iconst hK dX8_isSpelled_2 ?_
  refine r_istore_n hK dX8_isSpelled_3 (by rw [hN]; decide) rfl (lv' := [some (.int (I (a0))), some (.int (I (a1))), some (.int (I (1))), some (.int (I (0)))]) rfl ?_
  refine w_X8_isSpelled_4 hK hN hr hQ (by omega) (a0) (a1) _ (fun v2_e4 v3_e4 C_e4 h => ?_) FU (1) (0) C h
  refine r_iload_n hK dX8_isSpelled_25 rfl ?_
  refine r_iconst hK dX8_isSpelled_26 ?_
  refine r_iconst hK dX8_isSpelled_27 ?_
  refine r_callS hK ck_X8_in sc_X8_in ml_RX8_114 (by omega) (c_X8_in (l := kL K) (g := g) (Y := Y) (a1) (1) (5) C_e4 (wpO_bd h)) (As := [.int (I (a1)), .int (I (1)), .int (I (5))]) (st := []) rfl (Nat.le_of_ble_eq_true rfl) dX8_isSpelled_28 (kkI (fun C28 r28 h => ?_))
  refine r_if_eq hK dX8_isSpelled_31 (t := 49) (by decide) (wpO_eq h) (fun h => ?_) (fun h => ?_)
  · refine r_iconst hK dX8_isSpelled_49 ?_
    exact r_ireturn hK hr hQ (nar_b (by decide)) dX8_isSpelled_50 ⟨C28, 0, rfl, rfl, wpO_some h⟩
  · refine r_iload_n hK dX8_isSpelled_34 rfl ?_
    refine r_iconst hK dX8_isSpelled_35 ?_
    refine r_iload_n hK dX8_isSpelled_36 rfl ?_
    refine r_iconst hK dX8_isSpelled_37 ?_
    refine r_isub hK dX8_isSpelled_38 ?_
    refine r_callS hK ck_X8_in sc_X8_in ml_RX8_114 (by omega) (c_X8_in (l := kL K) (g := g) (Y := Y) (a0) (0) (v2_e4 - 1) C28 (wpO_bd h)) (As := [.int (I (a0)), .int (I (0)), .int (I (v2_e4 - 1))]) (st := []) rfl (Nat.le_of_ble_eq_true rfl) dX8_isSpelled_39 (kkI (fun C39 r39 h => ?_))
    refine r_if_eq hK dX8_isSpelled_42 (t := 49) (by decide) (wpO_eq h) (fun h => ?_) (fun h => ?_)
    · refine r_iconst hK dX8_isSpelled_49 ?_
      exact r_ireturn hK hr hQ (nar_b (by decide)) dX8_isSpelled_50 ⟨C39, 0, rfl, rfl, wpO_some h⟩
    · refine r_iconst hK dX8_isSpelled_45 ?_
      refine r_goto hK dX8_isSpelled_46 (t := 50) (by decide) ?_
      exact r_ireturn hK hr hQ (nar_b (by decide)) dX8_isSpelled_50 ⟨C39, 1, rfl, rfl, wpO_some h⟩
set_option maxRecDepth 100000 in
set_option maxHeartbeats 4000000 in
theorem w_X8_against_10 {K : KT} {g : GT} {Y : Mem} {dd : Nat} (hK : Kok K g cX8_against RX8 dd) (hN : kN K = 5) (hr : (kMe K).sig.returnType = (some .int)) {Q : Mem → Int → Prop} (hQ : kQ K = MQ (kB K) (Qc g (QI (fun c => mrg Y c) Q)) (kA K) (kS K) (kc K) (ks K) (gS g)) (hdd : 2 ≤ dd) (u1 : Int) (u2 : Int) (u3 : Int) (k : Int → Mem → Option (Mem × Int)) (hk : ∀ (v4 : Int) (C : Mem), wpO (k v4 C) Q → Wn K g (mrg Y C) 52 [some (.ref (gA g 95)), some (.int (I (u1))), some (.int (I (u2))), some (.int (I (u3))), some (.int (I (v4)))] []) : ∀ (n : Nat) (v4 : Int) (C : Mem), wpO (f_X8_against_10 u1 u2 u3 k n v4 C) Q → Wn K g (mrg Y C) 10 [some (.ref (gA g 95)), some (.int (I (u1))), some (.int (I (u2))), some (.int (I (u3))), some (.int (I (v4)))] [] := by
  intro n
  induction n with
  | zero => intro v4 C h; exact (wpO_none h).elim
  | succ n ih =>
    intro v4 C h
    unfold f_X8_against_10 at h
    refine r_iload hK dX8_against_10 rfl ?_
    refine r_aload_n hK dX8_against_12 rfl ?_
    refine r_getI (k := 95) hK cls_8 fl_RX8_111 (by decide) (by omega) rfl rfl dX8_against_13 (mrg_x (by omega)) ?_
    refine r_icmp_ge hK dX8_against_16 (t := 52) (by decide) (wpO_lt h) (fun h => ?_) (fun h => ?_)
    · refine r_iload hK dX8_against_19 rfl ?_
      refine r_iload_n hK dX8_against_21 rfl ?_
      refine r_icmp_ge hK dX8_against_22 (t := 52) (by decide) (wpO_lt h) (fun h => ?_) (fun h => ?_)
      · refine r_aload_n hK dX8_against_25 rfl ?_
        refine r_getR (k := 95) (k' := (101)) hK cls_8 fl_RX8_29 (by decide) (by omega) rfl rfl dX8_against_26 ?_
        refine r_iload hK dX8_against_29 rfl ?_
        obtain ⟨hb31, h⟩ := wpO_ix h
        refine r_iaload (k := (101)) hK (by omega) rfl (by decide) hb31 dX8_against_31 (mrg_x (by omega)) ?_
        refine r_aload_n hK dX8_against_32 rfl ?_
        refine r_iload_n hK dX8_against_33 rfl ?_
        refine r_iload_n hK dX8_against_34 rfl ?_
        refine r_iconst hK dX8_against_35 ?_
        refine r_iadd hK dX8_against_36 ?_
        refine r_iload hK dX8_against_37 rfl ?_
        refine r_iadd hK dX8_against_39 ?_
        refine r_callV hK ck_X8_at im_X8_at sl_X8_at ml_RX8_69 (by omega) (c_X8_at (l := kL K) (g := g) (Y := Y) (u1) ((u2 + 1) + v4) C (wpO_bd h)) cls_8 (k := 95) (by omega) rfl (As := [.int (I (u1)), .int (I ((u2 + 1) + v4))]) (st := [.int (I (C (101) (v4).toNat))]) rfl (Nat.le_of_ble_eq_true rfl) dX8_against_40 (kkI (fun C40 r40 h => ?_))
        refine r_icmp_ne hK dX8_against_43 (t := 52) (by decide) (wpO_eq h) (fun h => ?_) (fun h => ?_)
        · refine r_iinc hK dX8_against_46 (by rw [hN]; decide) rfl rfl (lv' := [some (.ref (gA g 95)), some (.int (I (u1))), some (.int (I (u2))), some (.int (I (u3))), some (.int (I (v4 + 1)))]) rfl ?_
          refine r_goto hK dX8_against_49 (t := 10) (by decide) ?_
          exact ih (v4 + 1) C40 h
        · exact hk (v4) C40 h
      · exact hk (v4) C h
    · exact hk (v4) C h
set_option maxRecDepth 100000 in
set_option maxHeartbeats 4000000 in
theorem c_X8_against {l : Launch} {g : GT} {Y : Mem} {Q : Mem → Int → Prop} (a1 : Int) (a2 : Int) (C : Mem) (h : wpO (f_X8_against a1 a2 C) Q) : MetC l yX8_against cX8_against 5 (some .int) 2 g [.ref (gA g 95), .int (I (a1)), .int (I (a2))] (mrg Y C) (QI (fun c => mrg Y c) Q) := by
  refine met_at 2 (lv := [some (.ref (gA g 95)), some (.int (I (a1))), some (.int (I (a2))), none, none]) (by decide) (Nat.le_of_ble_eq_true rfl) rfl rfl (fun K hK hN hr hQ => ?_)
  unfold f_X8_against at h
  refine r_aload_n hK dX8_against_0 rfl ?_
  refine r_iload_n hK dX8_against_1 rfl ?_
  refine r_iload_n hK dX8_against_2 rfl ?_
  refine r_callV hK ck_X8_at im_X8_at sl_X8_at ml_RX8_69 (by omega) (c_X8_at (l := kL K) (g := g) (Y := Y) (a1) (a2) C (wpO_bd h)) cls_8 (k := 95) (by omega) rfl (As := [.int (I (a1)), .int (I (a2))]) (st := []) rfl (Nat.le_of_ble_eq_true rfl) dX8_against_3 (kkI (fun C3 r3 h => ?_))
  refine r_istore_n hK dX8_against_6 (by rw [hN]; decide) rfl (lv' := [some (.ref (gA g 95)), some (.int (I (a1))), some (.int (I (a2))), some (.int (I (r3))), none]) rfl ?_
  refine r_iconst hK dX8_against_7 ?_
  refine r_istore hK dX8_against_8 (by rw [hN]; decide) rfl (lv' := [some (.ref (gA g 95)), some (.int (I (a1))), some (.int (I (a2))), some (.int (I (r3))), some (.int (I (0)))]) rfl ?_
  refine w_X8_against_10 hK hN hr hQ (by omega) (a1) (a2) (r3) _ (fun v4_e10 C_e10 h => ?_) FU (0) C3 h
  refine r_iload hK dX8_against_52 rfl ?_
  refine r_aload_n hK dX8_against_54 rfl ?_
  refine r_getI (k := 95) hK cls_8 fl_RX8_111 (by decide) (by omega) rfl rfl dX8_against_55 (mrg_x (by omega)) ?_
  refine r_icmp_ge hK dX8_against_58 (t := 87) (by decide) (wpO_lt h) (fun h => ?_) (fun h => ?_)
  · refine r_iload hK dX8_against_61 rfl ?_
    refine r_iload_n hK dX8_against_63 rfl ?_
    refine r_icmp_ge hK dX8_against_64 (t := 87) (by decide) (wpO_lt h) (fun h => ?_) (fun h => ?_)
    · refine r_aload_n hK dX8_against_67 rfl ?_
      refine r_getR (k := 95) (k' := (101)) hK cls_8 fl_RX8_29 (by decide) (by omega) rfl rfl dX8_against_68 ?_
      refine r_iload hK dX8_against_71 rfl ?_
      obtain ⟨hb73, h⟩ := wpO_ix h
      refine r_iaload (k := (101)) hK (by omega) rfl (by decide) hb73 dX8_against_73 (mrg_x (by omega)) ?_
      refine r_aload_n hK dX8_against_74 rfl ?_
      refine r_iload_n hK dX8_against_75 rfl ?_
      refine r_iload_n hK dX8_against_76 rfl ?_
      refine r_iconst hK dX8_against_77 ?_
      refine r_iadd hK dX8_against_78 ?_
      refine r_iload hK dX8_against_79 rfl ?_
      refine r_iadd hK dX8_against_81 ?_
      refine r_callV hK ck_X8_at im_X8_at sl_X8_at ml_RX8_69 (by omega) (c_X8_at (l := kL K) (g := g) (Y := Y) (a1) ((a2 + 1) + v4_e10) C_e10 (wpO_bd h)) cls_8 (k := 95) (by omega) rfl (As := [.int (I (a1)), .int (I ((a2 + 1) + v4_e10))]) (st := [.int (I (C_e10 (101) (v4_e10).toNat))]) rfl (Nat.le_of_ble_eq_true rfl) dX8_against_82 (kkI (fun C82 r82 h => ?_))
      refine r_isub hK dX8_against_85 ?_
      exact r_ireturn hK hr hQ rfl dX8_against_86 ⟨C82, ((C_e10 (101) (v4_e10).toNat) - r82), rfl, rfl, wpO_some h⟩
    · refine r_aload_n hK dX8_against_87 rfl ?_
      refine r_getI (k := 95) hK cls_8 fl_RX8_111 (by decide) (by omega) rfl rfl dX8_against_88 (mrg_x (by omega)) ?_
      refine r_iload_n hK dX8_against_91 rfl ?_
      refine r_isub hK dX8_against_92 ?_
      exact r_ireturn hK hr hQ rfl dX8_against_93 ⟨C_e10, ((C_e10 95 12) - r3), rfl, rfl, wpO_some h⟩
  · refine r_aload_n hK dX8_against_87 rfl ?_
    refine r_getI (k := 95) hK cls_8 fl_RX8_111 (by decide) (by omega) rfl rfl dX8_against_88 (mrg_x (by omega)) ?_
    refine r_iload_n hK dX8_against_91 rfl ?_
    refine r_isub hK dX8_against_92 ?_
    exact r_ireturn hK hr hQ rfl dX8_against_93 ⟨C_e10, ((C_e10 95 12) - r3), rfl, rfl, wpO_some h⟩
set_option maxRecDepth 100000 in
set_option maxHeartbeats 4000000 in
theorem w_X8_goesDown_37 {K : KT} {g : GT} {Y : Mem} {dd : Nat} (hK : Kok K g cX8_goesDown RX8 dd) (hN : kN K = 5) (hr : (kMe K).sig.returnType = none) {Q : Mem → Int → Prop} (hQ : kQ K = MQ (kB K) (Qc g (QV (fun c => mrg Y c) Q)) (kA K) (kS K) (kc K) (ks K) (gS g)) (hdd : 4 ≤ dd) (u1 : Int) (u2 : Int) (k : Int → Int → Mem → Option (Mem × Int)) (hk : ∀ (v3 : Int) (v4 : Int) (C : Mem), wpO (k v3 v4 C) Q → Wn K g (mrg Y C) 77 [some (.ref (gA g 95)), some (.int (I (u1))), some (.int (I (u2))), some (.int (I (v3))), some (.int (I (v4)))] []) : ∀ (n : Nat) (v3 : Int) (v4 : Int) (C : Mem), wpO (f_X8_goesDown_37 u1 u2 k n v3 v4 C) Q → Wn K g (mrg Y C) 37 [some (.ref (gA g 95)), some (.int (I (u1))), some (.int (I (u2))), some (.int (I (v3))), some (.int (I (v4)))] [] := by
  intro n
  induction n with
  | zero => intro v3 v4 C h; exact (wpO_none h).elim
  | succ n ih =>
    intro v3 v4 C h
    unfold f_X8_goesDown_37 at h
    refine r_iload_n hK dX8_goesDown_37 rfl ?_
    refine r_aload_n hK dX8_goesDown_38 rfl ?_
    refine r_iload_n hK dX8_goesDown_39 rfl ?_
    refine r_iconst hK dX8_goesDown_40 ?_
    refine r_callV hK ck_X8_at im_X8_at sl_X8_at ml_RX8_69 (by omega) (c_X8_at (l := kL K) (g := g) (Y := Y) (u1) (1) C (wpO_bd h)) cls_8 (k := 95) (by omega) rfl (As := [.int (I (u1)), .int (I (1))]) (st := [.int (I (v3))]) rfl (Nat.le_of_ble_eq_true rfl) dX8_goesDown_41 (kkI (fun C41 r41 h => ?_))
    refine r_icmp_ge hK dX8_goesDown_44 (t := 77) (by decide) (wpO_lt h) (fun h => ?_) (fun h => ?_)
    · refine r_aload_n hK dX8_goesDown_47 rfl ?_
      refine r_iload_n hK dX8_goesDown_48 rfl ?_
      refine r_iload hK dX8_goesDown_49 rfl ?_
      refine r_callV hK ck_X8_against im_X8_against sl_X8_against ml_RX8_121 (by omega) (c_X8_against (l := kL K) (g := g) (Y := Y) (u1) (v4) C41 (wpO_bd h)) cls_8 (k := 95) (by omega) rfl (As := [.int (I (u1)), .int (I (v4))]) (st := []) rfl (Nat.le_of_ble_eq_true rfl) dX8_goesDown_51 (kkI (fun C51 r51 h => ?_))
      refine r_if_lt hK dX8_goesDown_54 (t := 77) (by decide) (wpO_lt h) (fun h => ?_) (fun h => ?_)
      · exact hk (v3) (v4) C51 h
      · refine r_iload hK dX8_goesDown_57 rfl ?_
        refine r_aload_n hK dX8_goesDown_59 rfl ?_
        refine r_iload_n hK dX8_goesDown_60 rfl ?_
        refine r_iload hK dX8_goesDown_61 rfl ?_
        refine r_callV hK ck_X8_at im_X8_at sl_X8_at ml_RX8_69 (by omega) (c_X8_at (l := kL K) (g := g) (Y := Y) (u1) (v4) C51 (wpO_bd h)) cls_8 (k := 95) (by omega) rfl (As := [.int (I (u1)), .int (I (v4))]) (st := [.int (I (v4))]) rfl (Nat.le_of_ble_eq_true rfl) dX8_goesDown_63 (kkI (fun C63 r63 h => ?_))
        refine r_iconst hK dX8_goesDown_66 ?_
        refine r_iadd hK dX8_goesDown_67 ?_
        refine r_iadd hK dX8_goesDown_68 ?_
        refine r_istore hK dX8_goesDown_69 (by rw [hN]; decide) rfl (lv' := [some (.ref (gA g 95)), some (.int (I (u1))), some (.int (I (u2))), some (.int (I (v3))), some (.int (I (v4 + (r63 + 2))))]) rfl ?_
        refine r_iinc hK dX8_goesDown_71 (by rw [hN]; decide) rfl rfl (lv' := [some (.ref (gA g 95)), some (.int (I (u1))), some (.int (I (u2))), some (.int (I (v3 + 1))), some (.int (I (v4 + (r63 + 2))))]) rfl ?_
        refine r_goto hK dX8_goesDown_74 (t := 37) (by decide) ?_
        exact ih (v3 + 1) (v4 + (r63 + 2)) C63 h
    · exact hk (v3) (v4) C41 h
set_option maxRecDepth 100000 in
set_option maxHeartbeats 4000000 in
theorem w_X8_goesDown_7 {K : KT} {g : GT} {Y : Mem} {dd : Nat} (hK : Kok K g cX8_goesDown RX8 dd) (hN : kN K = 5) (hr : (kMe K).sig.returnType = none) {Q : Mem → Int → Prop} (hQ : kQ K = MQ (kB K) (Qc g (QV (fun c => mrg Y c) Q)) (kA K) (kS K) (kc K) (ks K) (gS g)) (hdd : 4 ≤ dd) (k : Int → Int → Mem → Option (Mem × Int)) (hk : ∀ (v1 : Int) (v2 : Int) (C : Mem), wpO (k v1 v2 C) Q → Wn K g (mrg Y C) 97 [some (.ref (gA g 95)), some (.int (I (v1))), some (.int (I (v2))), none, none] []) : ∀ (n : Nat) (v1 : Int) (v2 : Int) (C : Mem), wpO (f_X8_goesDown_7 k n v1 v2 C) Q → Wn K g (mrg Y C) 7 [some (.ref (gA g 95)), some (.int (I (v1))), some (.int (I (v2))), none, none] [] := by
  intro n
  induction n with
  | zero => intro v1 v2 C h; exact (wpO_none h).elim
  | succ n ih =>
    intro v1 v2 C h
    unfold f_X8_goesDown_7 at h
    refine r_iload_n hK dX8_goesDown_7 rfl ?_
    refine r_aload_n hK dX8_goesDown_8 rfl ?_
    refine r_getI (k := 95) hK cls_8 fl_RX8_13 (by decide) (by omega) rfl rfl dX8_goesDown_9 (mrg_x (by omega)) ?_
    refine r_icmp_ge hK dX8_goesDown_12 (t := 97) (by decide) (wpO_lt h) (fun h => ?_) (fun h => ?_)
    · refine r_aload_n hK dX8_goesDown_15 rfl ?_
      refine r_getR (k := 95) (k' := (102)) hK cls_8 fl_RX8_32 (by decide) (by omega) rfl rfl dX8_goesDown_16 ?_
      refine r_iload_n hK dX8_goesDown_19 rfl ?_
      refine r_iload_n hK dX8_goesDown_20 rfl ?_
      obtain ⟨hb21, h⟩ := wpO_ix h
      refine r_iastore (k := (102)) hK (by omega) rfl (by decide) hb21 dX8_goesDown_21 (up_x (by omega)) ?_
      refine r_iload_n hK dX8_goesDown_22 rfl ?_
      refine r_aload_n hK dX8_goesDown_23 rfl ?_
      refine r_getI (k := 95) hK cls_8 fl_RX8_13 (by decide) (by omega) rfl rfl dX8_goesDown_24 (mrg_x (by omega)) ?_
      refine r_iconst hK dX8_goesDown_27 ?_
      refine r_isub hK dX8_goesDown_28 ?_
      refine r_icmp_ge hK dX8_goesDown_29 (t := 91) (by decide) (wpO_lt h) (fun h => ?_) (fun h => ?_)
      · refine r_iconst hK dX8_goesDown_32 ?_
        refine r_istore_n hK dX8_goesDown_33 (by rw [hN]; decide) rfl (lv' := [some (.ref (gA g 95)), some (.int (I (v1))), some (.int (I (v2))), some (.int (I (0))), none]) rfl ?_
        refine r_iconst hK dX8_goesDown_34 ?_
        refine r_istore hK dX8_goesDown_35 (by rw [hN]; decide) rfl (lv' := [some (.ref (gA g 95)), some (.int (I (v1))), some (.int (I (v2))), some (.int (I (0))), some (.int (I (3)))]) rfl ?_
        refine w_X8_goesDown_37 hK hN hr hQ (by omega) (v1) (v2) _ (fun v3_e37 v4_e37 C_e37 h => ?_) FU (0) (3) (up C (102) (v2).toNat (v1)) h
        refine r_aload_n hK dX8_goesDown_77 rfl ?_
        refine r_getR (k := 95) (k' := (103)) hK cls_8 fl_RX8_35 (by decide) (by omega) rfl rfl dX8_goesDown_78 ?_
        refine r_iload_n hK dX8_goesDown_81 rfl ?_
        refine r_iload_n hK dX8_goesDown_82 rfl ?_
        obtain ⟨hb83, h⟩ := wpO_ix h
        refine r_iastore (k := (103)) hK (by omega) rfl (by decide) hb83 dX8_goesDown_83 (up_x (by omega)) ?_
        refine r_aload_n hK dX8_goesDown_84 rfl ?_
        refine r_iload_n hK dX8_goesDown_85 rfl ?_
        refine r_iload_n hK dX8_goesDown_86 rfl ?_
        refine r_callV hK ck_X8_childOf im_X8_childOf sl_X8_childOf ml_RX8_124 (by omega) (c_X8_childOf (l := kL K) (g := g) (Y := Y) (v1) (v3_e37) (up C_e37 (103) (v2).toNat (v3_e37)) (wpO_bd h)) cls_8 (k := 95) (by omega) rfl (As := [.int (I (v1)), .int (I (v3_e37))]) (st := []) rfl (Nat.le_of_ble_eq_true rfl) dX8_goesDown_87 (kkI (fun C87 r87 h => ?_))
        refine r_istore_n hK dX8_goesDown_90 (by rw [hN]; decide) rfl (lv' := [some (.ref (gA g 95)), some (.int (I (r87))), some (.int (I (v2))), some (.int (I (v3_e37))), some (.int (I (v4_e37)))]) rfl ?_
        refine r_iinc hK dX8_goesDown_91 (by rw [hN]; decide) rfl rfl (lv' := [some (.ref (gA g 95)), some (.int (I (r87))), some (.int (I (v2 + 1))), some (.int (I (v3_e37))), some (.int (I (v4_e37)))]) rfl ?_
        refine r_goto hK dX8_goesDown_94 (t := 7) (by decide) ?_
        refine r_cut [true, true, true, false, false] (lv' := [some (.ref (gA g 95)), some (.int (I (r87))), some (.int (I (v2 + 1))), none, none]) rfl ?_
        exact ih (r87) (v2 + 1) C87 h
      · refine r_iinc hK dX8_goesDown_91 (by rw [hN]; decide) rfl rfl (lv' := [some (.ref (gA g 95)), some (.int (I (v1))), some (.int (I (v2 + 1))), none, none]) rfl ?_
        refine r_goto hK dX8_goesDown_94 (t := 7) (by decide) ?_
        exact ih (v1) (v2 + 1) (up C (102) (v2).toNat (v1)) h
    · exact hk (v1) (v2) C h
set_option maxRecDepth 100000 in
set_option maxHeartbeats 4000000 in
theorem c_X8_goesDown {l : Launch} {g : GT} {Y : Mem} {Q : Mem → Int → Prop} (C : Mem) (h : wpO (f_X8_goesDown C) Q) : MetC l yX8_goesDown cX8_goesDown 5 none 4 g [.ref (gA g 95)] (mrg Y C) (QV (fun c => mrg Y c) Q) := by
  refine met_at 4 (lv := [some (.ref (gA g 95)), none, none, none, none]) (by decide) (Nat.le_of_ble_eq_true rfl) rfl rfl (fun K hK hN hr hQ => ?_)
  unfold f_X8_goesDown at h
  refine r_aload_n hK dX8_goesDown_0 rfl ?_
  refine r_getI (k := 95) hK cls_8 fl_RX8_118 (by decide) (by omega) rfl rfl dX8_goesDown_1 (mrg_x (by omega)) ?_
  refine r_istore_n hK dX8_goesDown_4 (by rw [hN]; decide) rfl (lv' := [some (.ref (gA g 95)), some (.int (I (C 95 1))), none, none, none]) rfl ?_
  refine r_iconst hK dX8_goesDown_5 ?_
  refine r_istore_n hK dX8_goesDown_6 (by rw [hN]; decide) rfl (lv' := [some (.ref (gA g 95)), some (.int (I (C 95 1))), some (.int (I (0))), none, none]) rfl ?_
  refine w_X8_goesDown_7 hK hN hr hQ (by omega) _ (fun v1_e7 v2_e7 C_e7 h => ?_) FU (C 95 1) (0) C h
  exact r_return hK hr hQ dX8_goesDown_97 ⟨C_e7, rfl, rfl, wpO_some h⟩
set_option maxRecDepth 100000 in
set_option maxHeartbeats 4000000 in
theorem w_X8_placeIn_4 {K : KT} {g : GT} {Y : Mem} {dd : Nat} (hK : Kok K g cX8_placeIn RX8 dd) (hN : kN K = 4) (hr : (kMe K).sig.returnType = (some .int)) {Q : Mem → Int → Prop} (hQ : kQ K = MQ (kB K) (Qc g (QI (fun c => mrg Y c) Q)) (kA K) (kS K) (kc K) (ks K) (gS g)) (hdd : 3 ≤ dd) (u1 : Int) (k : Int → Int → Mem → Option (Mem × Int)) (hk : ∀ (v2 : Int) (v3 : Int) (C : Mem), wpO (k v2 v3 C) Q → Wn K g (mrg Y C) 40 [some (.ref (gA g 95)), some (.int (I (u1))), some (.int (I (v2))), some (.int (I (v3)))] []) : ∀ (n : Nat) (v2 : Int) (v3 : Int) (C : Mem), wpO (f_X8_placeIn_4 u1 k n v2 v3 C) Q → Wn K g (mrg Y C) 4 [some (.ref (gA g 95)), some (.int (I (u1))), some (.int (I (v2))), some (.int (I (v3)))] [] := by
  intro n
  induction n with
  | zero => intro v2 v3 C h; exact (wpO_none h).elim
  | succ n ih =>
    intro v2 v3 C h
    unfold f_X8_placeIn_4 at h
    refine r_iload_n hK dX8_placeIn_4 rfl ?_
    refine r_aload_n hK dX8_placeIn_5 rfl ?_
    refine r_iload_n hK dX8_placeIn_6 rfl ?_
    refine r_iconst hK dX8_placeIn_7 ?_
    refine r_callV hK ck_X8_at im_X8_at sl_X8_at ml_RX8_69 (by omega) (c_X8_at (l := kL K) (g := g) (Y := Y) (u1) (1) C (wpO_bd h)) cls_8 (k := 95) (by omega) rfl (As := [.int (I (u1)), .int (I (1))]) (st := [.int (I (v2))]) rfl (Nat.le_of_ble_eq_true rfl) dX8_placeIn_8 (kkI (fun C8 r8 h => ?_))
    refine r_icmp_ge hK dX8_placeIn_11 (t := 40) (by decide) (wpO_lt h) (fun h => ?_) (fun h => ?_)
    · refine r_aload_n hK dX8_placeIn_14 rfl ?_
      refine r_iload_n hK dX8_placeIn_15 rfl ?_
      refine r_iload_n hK dX8_placeIn_16 rfl ?_
      refine r_callV hK ck_X8_against im_X8_against sl_X8_against ml_RX8_121 (by omega) (c_X8_against (l := kL K) (g := g) (Y := Y) (u1) (v3) C8 (wpO_bd h)) cls_8 (k := 95) (by omega) rfl (As := [.int (I (u1)), .int (I (v3))]) (st := []) rfl (Nat.le_of_ble_eq_true rfl) dX8_placeIn_17 (kkI (fun C17 r17 h => ?_))
      refine r_if_le hK dX8_placeIn_20 (t := 40) (by decide) (wpO_lt h) (fun h => ?_) (fun h => ?_)
      · refine r_iload_n hK dX8_placeIn_23 rfl ?_
        refine r_aload_n hK dX8_placeIn_24 rfl ?_
        refine r_iload_n hK dX8_placeIn_25 rfl ?_
        refine r_iload_n hK dX8_placeIn_26 rfl ?_
        refine r_callV hK ck_X8_at im_X8_at sl_X8_at ml_RX8_69 (by omega) (c_X8_at (l := kL K) (g := g) (Y := Y) (u1) (v3) C17 (wpO_bd h)) cls_8 (k := 95) (by omega) rfl (As := [.int (I (u1)), .int (I (v3))]) (st := [.int (I (v3))]) rfl (Nat.le_of_ble_eq_true rfl) dX8_placeIn_27 (kkI (fun C27 r27 h => ?_))
        refine r_iconst hK dX8_placeIn_30 ?_
        refine r_iadd hK dX8_placeIn_31 ?_
        refine r_iadd hK dX8_placeIn_32 ?_
        refine r_istore_n hK dX8_placeIn_33 (by rw [hN]; decide) rfl (lv' := [some (.ref (gA g 95)), some (.int (I (u1))), some (.int (I (v2))), some (.int (I (v3 + (r27 + 2))))]) rfl ?_
        refine r_iinc hK dX8_placeIn_34 (by rw [hN]; decide) rfl rfl (lv' := [some (.ref (gA g 95)), some (.int (I (u1))), some (.int (I (v2 + 1))), some (.int (I (v3 + (r27 + 2))))]) rfl ?_
        refine r_goto hK dX8_placeIn_37 (t := 4) (by decide) ?_
        exact ih (v2 + 1) (v3 + (r27 + 2)) C27 h
      · exact hk (v2) (v3) C17 h
    · exact hk (v2) (v3) C8 h
set_option maxRecDepth 100000 in
set_option maxHeartbeats 4000000 in
theorem c_X8_placeIn {l : Launch} {g : GT} {Y : Mem} {Q : Mem → Int → Prop} (a1 : Int) (C : Mem) (h : wpO (f_X8_placeIn a1 C) Q) : MetC l yX8_placeIn cX8_placeIn 4 (some .int) 3 g [.ref (gA g 95), .int (I (a1))] (mrg Y C) (QI (fun c => mrg Y c) Q) := by
  refine met_at 2 (lv := [some (.ref (gA g 95)), some (.int (I (a1))), none, none]) (by decide) (Nat.le_of_ble_eq_true rfl) rfl rfl (fun K hK hN hr hQ => ?_)
  unfold f_X8_placeIn at h
  refine r_iconst hK dX8_placeIn_0 ?_
  refine r_istore_n hK dX8_placeIn_1 (by rw [hN]; decide) rfl (lv' := [some (.ref (gA g 95)), some (.int (I (a1))), some (.int (I (0))), none]) rfl ?_
  refine r_iconst hK dX8_placeIn_2 ?_
  refine r_istore_n hK dX8_placeIn_3 (by rw [hN]; decide) rfl (lv' := [some (.ref (gA g 95)), some (.int (I (a1))), some (.int (I (0))), some (.int (I (3)))]) rfl ?_
  refine w_X8_placeIn_4 hK hN hr hQ (by omega) (a1) _ (fun v2_e4 v3_e4 C_e4 h => ?_) FU (0) (3) C h
  refine r_iload_n hK dX8_placeIn_40 rfl ?_
  exact r_ireturn hK hr hQ rfl dX8_placeIn_41 ⟨C_e4, v2_e4, rfl, rfl, wpO_some h⟩
set_option maxRecDepth 100000 in
set_option maxHeartbeats 4000000 in
theorem c_X8_isAt {l : Launch} {g : GT} {Y : Mem} {Q : Mem → Int → Prop} (a1 : Int) (a2 : Int) (C : Mem) (h : wpO (f_X8_isAt a1 a2 C) Q) : MetC l yX8_isAt cX8_isAt 3 (some .boolean) 3 g [.ref (gA g 95), .int (I (a1)), .int (I (a2))] (mrg Y C) (QI (fun c => mrg Y c) Q) := by
  refine met_at 0 (lv := [some (.ref (gA g 95)), some (.int (I (a1))), some (.int (I (a2)))]) (by decide) (Nat.le_of_ble_eq_true rfl) rfl rfl (fun K hK hN hr hQ => ?_)
  unfold f_X8_isAt at h
  refine r_iload_n hK dX8_isAt_0 rfl ?_
  refine r_aload_n hK dX8_isAt_1 rfl ?_
  refine r_iload_n hK dX8_isAt_2 rfl ?_
  refine r_iconst hK dX8_isAt_3 ?_
  refine r_callV hK ck_X8_at im_X8_at sl_X8_at ml_RX8_69 (by omega) (c_X8_at (l := kL K) (g := g) (Y := Y) (a1) (1) C (wpO_bd h)) cls_8 (k := 95) (by omega) rfl (As := [.int (I (a1)), .int (I (1))]) (st := [.int (I (a2))]) rfl (Nat.le_of_ble_eq_true rfl) dX8_isAt_4 (kkI (fun C4 r4 h => ?_))
  refine r_icmp_ge hK dX8_isAt_7 (t := 28) (by decide) (wpO_lt h) (fun h => ?_) (fun h => ?_)
  · refine r_aload_n hK dX8_isAt_10 rfl ?_
    refine r_iload_n hK dX8_isAt_11 rfl ?_
    refine r_aload_n hK dX8_isAt_12 rfl ?_
    refine r_iload_n hK dX8_isAt_13 rfl ?_
    refine r_iload_n hK dX8_isAt_14 rfl ?_
    refine r_callV hK ck_X8_startOf im_X8_startOf sl_X8_startOf ml_RX8_73 (by omega) (c_X8_startOf (l := kL K) (g := g) (Y := Y) (a1) (a2) C4 (wpO_bd h)) cls_8 (k := 95) (by omega) rfl (As := [.int (I (a1)), .int (I (a2))]) (st := [.int (I (a1)), .ref (gA g 95)]) rfl (Nat.le_of_ble_eq_true rfl) dX8_isAt_15 (kkI (fun C15 r15 h => ?_))
    refine r_callV hK ck_X8_against im_X8_against sl_X8_against ml_RX8_121 (by omega) (c_X8_against (l := kL K) (g := g) (Y := Y) (a1) (r15) C15 (wpO_bd h)) cls_8 (k := 95) (by omega) rfl (As := [.int (I (a1)), .int (I (r15))]) (st := []) rfl (Nat.le_of_ble_eq_true rfl) dX8_isAt_18 (kkI (fun C18 r18 h => ?_))
    refine r_if_ne hK dX8_isAt_21 (t := 28) (by decide) (wpO_eq h) (fun h => ?_) (fun h => ?_)
    · refine r_iconst hK dX8_isAt_24 ?_
      refine r_goto hK dX8_isAt_25 (t := 29) (by decide) ?_
      exact r_ireturn hK hr hQ (nar_b (by decide)) dX8_isAt_29 ⟨C18, 1, rfl, rfl, wpO_some h⟩
    · refine r_iconst hK dX8_isAt_28 ?_
      exact r_ireturn hK hr hQ (nar_b (by decide)) dX8_isAt_29 ⟨C18, 0, rfl, rfl, wpO_some h⟩
  · refine r_iconst hK dX8_isAt_28 ?_
    exact r_ireturn hK hr hQ (nar_b (by decide)) dX8_isAt_29 ⟨C4, 0, rfl, rfl, wpO_some h⟩
set_option maxRecDepth 100000 in
set_option maxHeartbeats 4000000 in
theorem c_X8_tellAt {l : Launch} {g : GT} {Y : Mem} {Q : Mem → Int → Prop} (a1 : Int) (a2 : Int) (C : Mem) (h : wpO (f_X8_tellAt a1 a2 C) Q) : MetC l yX8_tellAt cX8_tellAt 4 (some .int) 3 g [.ref (gA g 95), .int (I (a1)), .int (I (a2))] (mrg Y C) (QI (fun c => mrg Y c) Q) := by
  refine met_at 1 (lv := [some (.ref (gA g 95)), some (.int (I (a1))), some (.int (I (a2))), none]) (by decide) (Nat.le_of_ble_eq_true rfl) rfl rfl (fun K hK hN hr hQ => ?_)
  unfold f_X8_tellAt at h
  refine r_aload_n hK dX8_tellAt_0 rfl ?_
  refine r_iload_n hK dX8_tellAt_1 rfl ?_
  refine r_iload_n hK dX8_tellAt_2 rfl ?_
  refine r_callV hK ck_X8_startOf im_X8_startOf sl_X8_startOf ml_RX8_73 (by omega) (c_X8_startOf (l := kL K) (g := g) (Y := Y) (a1) (a2) C (wpO_bd h)) cls_8 (k := 95) (by omega) rfl (As := [.int (I (a1)), .int (I (a2))]) (st := []) rfl (Nat.le_of_ble_eq_true rfl) dX8_tellAt_3 (kkI (fun C3 r3 h => ?_))
  refine r_istore_n hK dX8_tellAt_6 (by rw [hN]; decide) rfl (lv' := [some (.ref (gA g 95)), some (.int (I (a1))), some (.int (I (a2))), some (.int (I (r3)))]) rfl ?_
  refine r_bipush hK dX8_tellAt_7 (by decide) ?_
  refine r_iload_n hK dX8_tellAt_9 rfl ?_
  refine r_imul hK dX8_tellAt_10 ?_
  refine r_iload_n hK dX8_tellAt_11 rfl ?_
  refine r_iadd hK dX8_tellAt_12 ?_
  refine r_aload_n hK dX8_tellAt_13 rfl ?_
  refine r_iload_n hK dX8_tellAt_14 rfl ?_
  refine r_iload_n hK dX8_tellAt_15 rfl ?_
  refine r_callV hK ck_X8_at im_X8_at sl_X8_at ml_RX8_69 (by omega) (c_X8_at (l := kL K) (g := g) (Y := Y) (a1) (r3) C3 (wpO_bd h)) cls_8 (k := 95) (by omega) rfl (As := [.int (I (a1)), .int (I (r3))]) (st := [.int (I ((64 * a1) + r3))]) rfl (Nat.le_of_ble_eq_true rfl) dX8_tellAt_16 (kkI (fun C16 r16 h => ?_))
  refine r_iadd hK dX8_tellAt_19 ?_
  refine r_iconst hK dX8_tellAt_20 ?_
  refine r_iadd hK dX8_tellAt_21 ?_
  exact r_ireturn hK hr hQ rfl dX8_tellAt_22 ⟨C16, ((((64 * a1) + r3) + r16) + 1), rfl, rfl, wpO_some h⟩
set_option maxRecDepth 100000 in
set_option maxHeartbeats 4000000 in
theorem c_X8_valueOf {l : Launch} {g : GT} {Y : Mem} {Q : Mem → Int → Prop} (C : Mem) (h : wpO (f_X8_valueOf C) Q) : MetC l yX8_valueOf cX8_valueOf 3 (some .int) 5 g [.ref (gA g 95)] (mrg Y C) (QI (fun c => mrg Y c) Q) := by
  refine met_at 2 (lv := [some (.ref (gA g 95)), none, none]) (by decide) (Nat.le_of_ble_eq_true rfl) rfl rfl (fun K hK hN hr hQ => ?_)
  unfold f_X8_valueOf at h
  refine r_aload_n hK dX8_valueOf_0 rfl ?_
  refine r_callV hK ck_X8_goesDown im_X8_goesDown sl_X8_goesDown ml_RX8_127 (by omega) (c_X8_goesDown (l := kL K) (g := g) (Y := Y) C (wpO_bd h)) cls_8 (k := 95) (by omega) rfl (As := []) (st := []) rfl (Nat.le_of_ble_eq_true rfl) dX8_valueOf_1 (kkV (fun C1 h => ?_))
  refine r_aload_n hK dX8_valueOf_4 rfl ?_
  refine r_getR (k := 95) (k' := (102)) hK cls_8 fl_RX8_32 (by decide) (by omega) rfl rfl dX8_valueOf_5 ?_
  refine r_aload_n hK dX8_valueOf_8 rfl ?_
  refine r_getI (k := 95) hK cls_8 fl_RX8_13 (by decide) (by omega) rfl rfl dX8_valueOf_9 (mrg_x (by omega)) ?_
  refine r_iconst hK dX8_valueOf_12 ?_
  refine r_isub hK dX8_valueOf_13 ?_
  obtain ⟨hb14, h⟩ := wpO_ix h
  refine r_iaload (k := (102)) hK (by omega) rfl (by decide) hb14 dX8_valueOf_14 (mrg_x (by omega)) ?_
  refine r_istore_n hK dX8_valueOf_15 (by rw [hN]; decide) rfl (lv' := [some (.ref (gA g 95)), some (.int (I (C1 (102) ((C1 95 2) - 1).toNat))), none]) rfl ?_
  refine r_aload_n hK dX8_valueOf_16 rfl ?_
  refine r_iload_n hK dX8_valueOf_17 rfl ?_
  refine r_callV hK ck_X8_placeIn im_X8_placeIn sl_X8_placeIn ml_RX8_130 (by omega) (c_X8_placeIn (l := kL K) (g := g) (Y := Y) (C1 (102) ((C1 95 2) - 1).toNat) C1 (wpO_bd h)) cls_8 (k := 95) (by omega) rfl (As := [.int (I (C1 (102) ((C1 95 2) - 1).toNat))]) (st := []) rfl (Nat.le_of_ble_eq_true rfl) dX8_valueOf_18 (kkI (fun C18 r18 h => ?_))
  refine r_istore_n hK dX8_valueOf_21 (by rw [hN]; decide) rfl (lv' := [some (.ref (gA g 95)), some (.int (I (C1 (102) ((C1 95 2) - 1).toNat))), some (.int (I (r18)))]) rfl ?_
  refine r_aload_n hK dX8_valueOf_22 rfl ?_
  refine r_iload_n hK dX8_valueOf_23 rfl ?_
  refine r_iload_n hK dX8_valueOf_24 rfl ?_
  refine r_callV hK ck_X8_isAt im_X8_isAt sl_X8_isAt ml_RX8_133 (by omega) (c_X8_isAt (l := kL K) (g := g) (Y := Y) (C1 (102) ((C1 95 2) - 1).toNat) (r18) C18 (wpO_bd h)) cls_8 (k := 95) (by omega) rfl (As := [.int (I (C1 (102) ((C1 95 2) - 1).toNat)), .int (I (r18))]) (st := []) rfl (Nat.le_of_ble_eq_true rfl) dX8_valueOf_25 (kkI (fun C25 r25 h => ?_))
  refine r_if_eq hK dX8_valueOf_28 (t := 45) (by decide) (wpO_eq h) (fun h => ?_) (fun h => ?_)
  · refine r_bipush hK dX8_valueOf_45 (by decide) ?_
    exact r_ireturn hK hr hQ rfl dX8_valueOf_47 ⟨C25, (-9), rfl, rfl, wpO_some h⟩
  · refine r_aload_n hK dX8_valueOf_31 rfl ?_
    refine r_getR (k := 95) (k' := (96)) hK cls_8 fl_RX8_7 (by decide) (by omega) rfl rfl dX8_valueOf_32 ?_
    refine r_aload_n hK dX8_valueOf_35 rfl ?_
    refine r_iload_n hK dX8_valueOf_36 rfl ?_
    refine r_iload_n hK dX8_valueOf_37 rfl ?_
    refine r_callV hK ck_X8_tellAt im_X8_tellAt sl_X8_tellAt ml_RX8_137 (by omega) (c_X8_tellAt (l := kL K) (g := g) (Y := Y) (C1 (102) ((C1 95 2) - 1).toNat) (r18) C25 (wpO_bd h)) cls_8 (k := 95) (by omega) rfl (As := [.int (I (C1 (102) ((C1 95 2) - 1).toNat)), .int (I (r18))]) (st := [.ref (gA g (96))]) rfl (Nat.le_of_ble_eq_true rfl) dX8_valueOf_38 (kkI (fun C38 r38 h => ?_))
    obtain ⟨hb41, h⟩ := wpO_ix h
    refine r_iaload (k := (96)) hK (by omega) rfl (by decide) hb41 dX8_valueOf_41 (mrg_x (by omega)) ?_
    refine r_goto hK dX8_valueOf_42 (t := 47) (by decide) ?_
    exact r_ireturn hK hr hQ rfl dX8_valueOf_47 ⟨C38, (C38 (96) (r38).toNat), rfl, rfl, wpO_some h⟩
set_option maxRecDepth 100000 in
set_option maxHeartbeats 4000000 in
theorem c_X8_newRoot {l : Launch} {g : GT} {Y : Mem} {Q : Mem → Int → Prop} (a1 : Int) (a2 : Int) (C : Mem) (h : wpO (f_X8_newRoot a1 a2 C) Q) : MetC l yX8_newRoot cX8_newRoot 3 none 3 g [.ref (gA g 95), .int (I (a1)), .int (I (a2))] (mrg Y C) (QV (fun c => mrg Y c) Q) := by
  refine met_at 0 (lv := [some (.ref (gA g 95)), some (.int (I (a1))), some (.int (I (a2)))]) (by decide) (Nat.le_of_ble_eq_true rfl) rfl rfl (fun K hK hN hr hQ => ?_)
  unfold f_X8_newRoot at h
  refine r_aload_n hK dX8_newRoot_0 rfl ?_
  refine r_aload_n hK dX8_newRoot_1 rfl ?_
  refine r_callV hK ck_X8_lowestFree im_X8_lowestFree sl_X8_lowestFree ml_RX8_150 (by omega) (c_X8_lowestFree (l := kL K) (g := g) (Y := Y) C (wpO_bd h)) cls_8 (k := 95) (by omega) rfl (As := []) (st := [.ref (gA g 95)]) rfl (Nat.le_of_ble_eq_true rfl) dX8_newRoot_2 (kkI (fun C2 r2 h => ?_))
  refine r_put (k := 95) hK cls_8 fl_RX8_118 (by decide) (by omega) rfl rfl rfl rfl rfl dX8_newRoot_5 (up_x (by omega)) ?_
  refine r_aload_n hK dX8_newRoot_8 rfl ?_
  refine r_dup hK dX8_newRoot_9 rfl ?_
  refine r_getI (k := 95) hK cls_8 fl_RX8_13 (by decide) (by omega) rfl rfl dX8_newRoot_10 (mrg_x (by omega)) ?_
  refine r_iconst hK dX8_newRoot_13 ?_
  refine r_iadd hK dX8_newRoot_14 ?_
  refine r_put (k := 95) hK cls_8 fl_RX8_13 (by decide) (by omega) rfl rfl rfl rfl rfl dX8_newRoot_15 (up_x (by omega)) ?_
  refine r_aload_n hK dX8_newRoot_18 rfl ?_
  refine r_iconst hK dX8_newRoot_19 ?_
  refine r_put (k := 95) hK cls_8 fl_RX8_76 (by decide) (by omega) rfl rfl rfl rfl rfl dX8_newRoot_20 (up_x (by omega)) ?_
  refine r_aload_n hK dX8_newRoot_23 rfl ?_
  refine r_iconst hK dX8_newRoot_24 ?_
  refine r_aload_n hK dX8_newRoot_25 rfl ?_
  refine r_getR (k := 95) (k' := (100)) hK cls_8 fl_RX8_26 (by decide) (by omega) rfl rfl dX8_newRoot_26 ?_
  refine r_aload_n hK dX8_newRoot_29 rfl ?_
  refine r_getI (k := 95) hK cls_8 fl_RX8_90 (by decide) (by omega) rfl rfl dX8_newRoot_30 (mrg_x (by omega)) ?_
  refine r_iload_n hK dX8_newRoot_33 rfl ?_
  refine r_callV hK ck_X8_comesIn im_X8_comesIn sl_X8_comesIn ml_RX8_146 (by omega) (c_X8_comesIn (l := kL K) (g := g) (Y := Y) (0) 0 ((up (up (up C2 95 1 (r2)) 95 2 (((up C2 95 1 (r2)) 95 2) + 1)) 95 6 (0)) 95 10) (a2) (by decide) (up (up (up C2 95 1 (r2)) 95 2 (((up C2 95 1 (r2)) 95 2) + 1)) 95 6 (0)) (wpO_bd h)) cls_8 (k := 95) (by omega) rfl (As := [.int (I (0)), .ref (gA g (100)), .int (I ((up (up (up C2 95 1 (r2)) 95 2 (((up C2 95 1 (r2)) 95 2) + 1)) 95 6 (0)) 95 10)), .int (I (a2))]) (st := []) rfl (Nat.le_of_ble_eq_true rfl) dX8_newRoot_34 (kkV (fun C34 h => ?_))
  refine r_aload_n hK dX8_newRoot_37 rfl ?_
  refine r_aload_n hK dX8_newRoot_38 rfl ?_
  refine r_getI (k := 95) hK cls_8 fl_RX8_118 (by decide) (by omega) rfl rfl dX8_newRoot_39 (mrg_x (by omega)) ?_
  refine r_iconst hK dX8_newRoot_42 ?_
  refine r_iload_n hK dX8_newRoot_43 rfl ?_
  refine r_iconst hK dX8_newRoot_44 ?_
  refine r_iconst hK dX8_newRoot_45 ?_
  refine r_callV hK ck_X8_goBack im_X8_goBack sl_X8_goBack ml_RX8_107 (by omega) (c_X8_goBack (l := kL K) (g := g) (Y := Y) (C34 95 1) (2) (a1) (0) (1) C34 (wpO_bd h)) cls_8 (k := 95) (by omega) rfl (As := [.int (I (C34 95 1)), .int (I (2)), .int (I (a1)), .int (I (0)), .int (I (1))]) (st := []) rfl (Nat.le_of_ble_eq_true rfl) dX8_newRoot_46 (kkV (fun C46 h => ?_))
  exact r_return hK hr hQ dX8_newRoot_49 ⟨C46, rfl, rfl, wpO_some h⟩

set_option maxRecDepth 100000 in
set_option maxHeartbeats 4000000 in
theorem c_X7_isWithin {l : Launch} {g : GT} {X : Mem} {Q : Mem → Int → Prop} (a0 : Int) (a1 : Int) (a2 : Int) (C : Mem) (h : wpO (f_X7_isWithin a0 a1 a2 C) Q) : MetC l yX7_isWithin cX7_isWithin 3 (some .boolean) 1 g [.int (I (a0)), .int (I (a1)), .int (I (a2))] (mrg C X) (QI (fun c => mrg c X) Q) := by
  refine met_at 0 (lv := [some (.int (I (a0))), some (.int (I (a1))), some (.int (I (a2)))]) (by decide) (Nat.le_of_ble_eq_true rfl) rfl rfl (fun K hK hN hr hQ => ?_)
  unfold f_X7_isWithin at h
  refine r_iload_n hK dX7_isWithin_0 rfl ?_
  refine r_iload_n hK dX7_isWithin_1 rfl ?_
  refine r_icmp_lt hK dX7_isWithin_2 (t := 14) (by decide) (wpO_lt h) (fun h => ?_) (fun h => ?_)
  · refine r_iconst hK dX7_isWithin_14 ?_
    exact r_ireturn hK hr hQ (nar_b (by decide)) dX7_isWithin_15 ⟨C, 0, rfl, rfl, wpO_some h⟩
  · refine r_iload_n hK dX7_isWithin_5 rfl ?_
    refine r_iload_n hK dX7_isWithin_6 rfl ?_
    refine r_icmp_gt hK dX7_isWithin_7 (t := 14) (by decide) (wpO_lt h) (fun h => ?_) (fun h => ?_)
    · refine r_iconst hK dX7_isWithin_14 ?_
      exact r_ireturn hK hr hQ (nar_b (by decide)) dX7_isWithin_15 ⟨C, 0, rfl, rfl, wpO_some h⟩
    · refine r_iconst hK dX7_isWithin_10 ?_
      refine r_goto hK dX7_isWithin_11 (t := 15) (by decide) ?_
      exact r_ireturn hK hr hQ (nar_b (by decide)) dX7_isWithin_15 ⟨C, 1, rfl, rfl, wpO_some h⟩
set_option maxRecDepth 100000 in
set_option maxHeartbeats 4000000 in
theorem c_X7_isByte {l : Launch} {g : GT} {X : Mem} {Q : Mem → Int → Prop} (a0 : Int) (C : Mem) (h : wpO (f_X7_isByte a0 C) Q) : MetC l yX7_isByte cX7_isByte 1 (some .boolean) 2 g [.int (I (a0))] (mrg C X) (QI (fun c => mrg c X) Q) := by
  refine met_at 0 (lv := [some (.int (I (a0)))]) (by decide) (Nat.le_of_ble_eq_true rfl) rfl rfl (fun K hK hN hr hQ => ?_)
  unfold f_X7_isByte at h
  refine r_iload_n hK dX7_isByte_0 rfl ?_
  refine r_iconst hK dX7_isByte_1 ?_
  refine r_sipush hK dX7_isByte_2 (by decide) ?_
  refine r_callS hK ck_X7_isWithin sc_X7_isWithin ml_RX7_108 (by omega) (c_X7_isWithin (l := kL K) (g := g) (X := X) (a0) (0) (255) C (wpO_bd h)) (As := [.int (I (a0)), .int (I (0)), .int (I (255))]) (st := []) rfl (Nat.le_of_ble_eq_true rfl) dX7_isByte_5 (kkI (fun C5 r5 h => ?_))
  obtain ⟨hbo8, h⟩ := wpO_bo h
  exact r_ireturn hK hr hQ (nar_b hbo8) dX7_isByte_8 ⟨C5, r5, rfl, rfl, wpO_some h⟩
set_option maxRecDepth 100000 in
set_option maxHeartbeats 4000000 in
theorem c_X7_isLetter {l : Launch} {g : GT} {X : Mem} {Q : Mem → Int → Prop} (a0 : Int) (C : Mem) (h : wpO (f_X7_isLetter a0 C) Q) : MetC l yX7_isLetter cX7_isLetter 1 (some .boolean) 1 g [.int (I (a0))] (mrg C X) (QI (fun c => mrg c X) Q) := by
  refine met_at 0 (lv := [some (.int (I (a0)))]) (by decide) (Nat.le_of_ble_eq_true rfl) rfl rfl (fun K hK hN hr hQ => ?_)
  unfold f_X7_isLetter at h
  refine r_iload_n hK dX7_isLetter_0 rfl ?_
  refine r_bipush hK dX7_isLetter_1 (by decide) ?_
  refine r_icmp_lt hK dX7_isLetter_3 (t := 16) (by decide) (wpO_lt h) (fun h => ?_) (fun h => ?_)
  · refine r_iconst hK dX7_isLetter_16 ?_
    exact r_ireturn hK hr hQ (nar_b (by decide)) dX7_isLetter_17 ⟨C, 0, rfl, rfl, wpO_some h⟩
  · refine r_iload_n hK dX7_isLetter_6 rfl ?_
    refine r_bipush hK dX7_isLetter_7 (by decide) ?_
    refine r_icmp_gt hK dX7_isLetter_9 (t := 16) (by decide) (wpO_lt h) (fun h => ?_) (fun h => ?_)
    · refine r_iconst hK dX7_isLetter_16 ?_
      exact r_ireturn hK hr hQ (nar_b (by decide)) dX7_isLetter_17 ⟨C, 0, rfl, rfl, wpO_some h⟩
    · refine r_iconst hK dX7_isLetter_12 ?_
      refine r_goto hK dX7_isLetter_13 (t := 17) (by decide) ?_
      exact r_ireturn hK hr hQ (nar_b (by decide)) dX7_isLetter_17 ⟨C, 1, rfl, rfl, wpO_some h⟩
set_option maxRecDepth 100000 in
set_option maxHeartbeats 4000000 in
theorem c_X7_endsInTime {l : Launch} {g : GT} {X : Mem} {Q : Mem → Int → Prop} (a0 : Int) (a1 : Int) (a2 : Int) (C : Mem) (h : wpO (f_X7_endsInTime a0 a1 a2 C) Q) : MetC l yX7_endsInTime cX7_endsInTime 3 (some .boolean) 1 g [.int (I (a0)), .int (I (a1)), .int (I (a2))] (mrg C X) (QI (fun c => mrg c X) Q) := by
  refine met_at 0 (lv := [some (.int (I (a0))), some (.int (I (a1))), some (.int (I (a2)))]) (by decide) (Nat.le_of_ble_eq_true rfl) rfl rfl (fun K hK hN hr hQ => ?_)
  unfold f_X7_endsInTime at h
  refine r_iload_n hK dX7_endsInTime_0 rfl ?_
  refine r_iload_n hK dX7_endsInTime_1 rfl ?_
  refine r_iload_n hK dX7_endsInTime_2 rfl ?_
  refine r_iconst hK dX7_endsInTime_3 ?_
  refine r_isub hK dX7_endsInTime_4 ?_
  refine r_imul hK dX7_endsInTime_5 ?_
  refine r_iadd hK dX7_endsInTime_6 ?_
  refine r_sipush hK dX7_endsInTime_7 (by decide) ?_
  refine r_icmp_gt hK dX7_endsInTime_10 (t := 17) (by decide) (wpO_lt h) (fun h => ?_) (fun h => ?_)
  · refine r_iconst hK dX7_endsInTime_17 ?_
    exact r_ireturn hK hr hQ (nar_b (by decide)) dX7_endsInTime_18 ⟨C, 0, rfl, rfl, wpO_some h⟩
  · refine r_iconst hK dX7_endsInTime_13 ?_
    refine r_goto hK dX7_endsInTime_14 (t := 18) (by decide) ?_
    exact r_ireturn hK hr hQ (nar_b (by decide)) dX7_endsInTime_18 ⟨C, 1, rfl, rfl, wpO_some h⟩
set_option maxRecDepth 100000 in
set_option maxHeartbeats 4000000 in
theorem w_X7_isSpelled_15 {K : KT} {g : GT} {X : Mem} {dd : Nat} (hK : Kok K g cX7_isSpelled RX7 dd) (hN : kN K = 4) (hr : (kMe K).sig.returnType = (some .boolean)) {Q : Mem → Int → Prop} (hQ : kQ K = MQ (kB K) (Qc g (QI (fun c => mrg c X) Q)) (kA K) (kS K) (kc K) (ks K) (gS g)) (hdd : 2 ≤ dd) (u0 : Int) (u1 : Int) (k : Int → Int → Mem → Option (Mem × Int)) (hk : ∀ (v2 : Int) (v3 : Int) (C : Mem), wpO (k v2 v3 C) Q → Wn K g (mrg C X) 31 [some (.int (I (u0))), some (.int (I (u1))), some (.int (I (v2))), some (.int (I (v3)))] []) : ∀ (n : Nat) (v2 : Int) (v3 : Int) (C : Mem), wpO (f_X7_isSpelled_15 u0 u1 k n v2 v3 C) Q → Wn K g (mrg C X) 15 [some (.int (I (u0))), some (.int (I (u1))), some (.int (I (v2))), some (.int (I (v3)))] [] := by
  intro n
  induction n with
  | zero => intro v2 v3 C h; exact (wpO_none h).elim
  | succ n ih =>
    intro v2 v3 C h
    unfold f_X7_isSpelled_15 at h
    refine r_iload_n hK dX7_isSpelled_15 rfl ?_
    refine r_iload_n hK dX7_isSpelled_16 rfl ?_
    refine r_icmp_ge hK dX7_isSpelled_17 (t := 31) (by decide) (wpO_lt h) (fun h => ?_) (fun h => ?_)
    · refine r_iload_n hK dX7_isSpelled_20 rfl ?_
      refine r_bipush hK dX7_isSpelled_21 (by decide) ?_
      refine r_imul hK dX7_isSpelled_23 ?_
      refine r_istore_n hK dX7_isSpelled_24 (by rw [hN]; decide) rfl (lv' := [some (.int (I (u0))), some (.int (I (u1))), some (.int (I (v2 * 26))), some (.int (I (v3)))]) rfl ?_
      refine r_iinc hK dX7_isSpelled_25 (by rw [hN]; decide) rfl rfl (lv' := [some (.int (I (u0))), some (.int (I (u1))), some (.int (I (v2 * 26))), some (.int (I (v3 + 1)))]) rfl ?_
      refine r_goto hK dX7_isSpelled_28 (t := 15) (by decide) ?_
      exact ih (v2 * 26) (v3 + 1) C h
    · exact hk (v2) (v3) C h
set_option maxRecDepth 100000 in
set_option maxHeartbeats 4000000 in
theorem c_X7_isSpelled {l : Launch} {g : GT} {X : Mem} {Q : Mem → Int → Prop} (a0 : Int) (a1 : Int) (C : Mem) (h : wpO (f_X7_isSpelled a0 a1 C) Q) : MetC l yX7_isSpelled cX7_isSpelled 4 (some .boolean) 2 g [.int (I (a0)), .int (I (a1))] (mrg C X) (QI (fun c => mrg c X) Q) := by
  refine met_at 2 (lv := [some (.int (I (a0))), some (.int (I (a1))), none, none]) (by decide) (Nat.le_of_ble_eq_true rfl) rfl rfl (fun K hK hN hr hQ => ?_)
  unfold f_X7_isSpelled at h
  refine r_iload_n hK dX7_isSpelled_0 rfl ?_
  refine r_iconst hK dX7_isSpelled_1 ?_
  refine r_iconst hK dX7_isSpelled_2 ?_
  refine r_callS hK ck_X7_isWithin sc_X7_isWithin ml_RX7_108 (by omega) (c_X7_isWithin (l := kL K) (g := g) (X := X) (a1) (1) (5) C (wpO_bd h)) (As := [.int (I (a1)), .int (I (1)), .int (I (5))]) (st := []) rfl (Nat.le_of_ble_eq_true rfl) dX7_isSpelled_3 (kkI (fun C3 r3 h => ?_))
  refine r_if_ne hK dX7_isSpelled_6 (t := 11) (by decide) (wpO_eq h) (fun h => ?_) (fun h => ?_)
  · refine r_iconst hK dX7_isSpelled_9 ?_
    exact r_ireturn hK hr hQ (nar_b (by decide)) dX7_isSpelled_10 ⟨C3, 0, rfl, rfl, wpO_some h⟩
  · refine r_iconst hK dX7_isSpelled_11 ?_
    refine r_istore_n hK dX7_isSpelled_12 (by rw [hN]; decide) rfl (lv' := [some (.int (I (a0))), some (.int (I (a1))), some (.int (I (1))), none]) rfl ?_
    refine r_iconst hK dX7_isSpelled_13 ?_
    refine r_istore_n hK dX7_isSpelled_14 (by rw [hN]; decide) rfl (lv' := [some (.int (I (a0))), some (.int (I (a1))), some (.int (I (1))), some (.int (I (0)))]) rfl ?_
    refine w_X7_isSpelled_15 hK hN hr hQ (by omega) (a0) (a1) _ (fun v2_e15 v3_e15 C_e15 h => ?_) FU (1) (0) C3 h
    refine r_iload_n hK dX7_isSpelled_31 rfl ?_
    refine r_iconst hK dX7_isSpelled_32 ?_
    refine r_iload_n hK dX7_isSpelled_33 rfl ?_
    refine r_iconst hK dX7_isSpelled_34 ?_
    refine r_isub hK dX7_isSpelled_35 ?_
    refine r_callS hK ck_X7_isWithin sc_X7_isWithin ml_RX7_108 (by omega) (c_X7_isWithin (l := kL K) (g := g) (X := X) (a0) (0) (v2_e15 - 1) C_e15 (wpO_bd h)) (As := [.int (I (a0)), .int (I (0)), .int (I (v2_e15 - 1))]) (st := []) rfl (Nat.le_of_ble_eq_true rfl) dX7_isSpelled_36 (kkI (fun C36 r36 h => ?_))
    obtain ⟨hbo39, h⟩ := wpO_bo h
    exact r_ireturn hK hr hQ (nar_b hbo39) dX7_isSpelled_39 ⟨C36, r36, rfl, rfl, wpO_some h⟩
set_option maxRecDepth 100000 in
set_option maxHeartbeats 4000000 in
theorem c_X7_isPage {l : Launch} {g : GT} {X : Mem} {Q : Mem → Int → Prop} (a0 : Int) (C : Mem) (h : wpO (f_X7_isPage a0 C) Q) : MetC l yX7_isPage cX7_isPage 1 (some .boolean) 2 g [.int (I (a0))] (mrg C X) (QI (fun c => mrg c X) Q) := by
  refine met_at 0 (lv := [some (.int (I (a0)))]) (by decide) (Nat.le_of_ble_eq_true rfl) rfl rfl (fun K hK hN hr hQ => ?_)
  unfold f_X7_isPage at h
  refine r_iload_n hK dX7_isPage_0 rfl ?_
  refine r_iconst hK dX7_isPage_1 ?_
  refine r_bipush hK dX7_isPage_2 (by decide) ?_
  refine r_callS hK ck_X7_isWithin sc_X7_isWithin ml_RX7_108 (by omega) (c_X7_isWithin (l := kL K) (g := g) (X := X) (a0) (0) (31) C (wpO_bd h)) (As := [.int (I (a0)), .int (I (0)), .int (I (31))]) (st := []) rfl (Nat.le_of_ble_eq_true rfl) dX7_isPage_4 (kkI (fun C4 r4 h => ?_))
  obtain ⟨hbo7, h⟩ := wpO_bo h
  exact r_ireturn hK hr hQ (nar_b hbo7) dX7_isPage_7 ⟨C4, r4, rfl, rfl, wpO_some h⟩

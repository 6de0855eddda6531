set_option maxRecDepth 100000 in
set_option maxHeartbeats 4000000 in
theorem c_X6_pageOf {l : Launch} {g : GT} {X : Mem} {Q : Mem → Nat → Prop} (a1 : Int) (C : Mem) (h : wpO (f_X6_pageOf a1 C) Q) : MetC l yX6_pageOf cX6_pageOf 2 (some (.object "SortedPages$Page")) 1 g [.ref (gA g 1), .int (I (a1))] (mrg C X) (QP g (fun c => mrg c X) Q) := by
  refine met_at 0 (lv := [some (.ref (gA g 1)), some (.int (I (a1)))]) (by decide) (Nat.le_of_ble_eq_true rfl) rfl rfl (fun K hK hN hr hQ => ?_)
  unfold f_X6_pageOf at h
  refine r_iload_n hK dX6_pageOf_0 rfl ?_
  refine r_if_lt hK dX6_pageOf_1 (t := 22) (by decide) (wpO_lt h) (fun h => ?_) (fun h => ?_)
  · refine r_aload_n hK dX6_pageOf_22 rfl ?_
    refine r_getR (k := 1) (k' := (27 + 32)) hK cls_6 fl_RX6_20 (by decide) (by omega) rfl rfl dX6_pageOf_23 ?_
    exact r_areturn hK hr hQ dX6_pageOf_26 ⟨C, (32), rfl, (by decide), rfl, wpO_some h⟩
  · refine r_iload_n hK dX6_pageOf_4 rfl ?_
    refine r_aload_n hK dX6_pageOf_5 rfl ?_
    refine r_getR (k := 1) (k' := (20)) hK cls_6 fl_RX6_11 (by decide) (by omega) rfl rfl dX6_pageOf_6 ?_
    refine r_alen (k := (20)) hK (by omega) rfl (by decide) dX6_pageOf_9 ?_
    refine r_icmp_ge hK dX6_pageOf_10 (t := 22) (by decide) (wpO_lt h) (fun h => ?_) (fun h => ?_)
    · refine r_aload_n hK dX6_pageOf_13 rfl ?_
      refine r_getR (k := 1) (k' := (20)) hK cls_6 fl_RX6_11 (by decide) (by omega) rfl rfl dX6_pageOf_14 ?_
      refine r_iload_n hK dX6_pageOf_17 rfl ?_
      obtain ⟨hb18, h⟩ := wpO_ix h
      have hN18 : (a1).toNat < 34 := by omega
      refine r_aaload (k := (20)) hK (by omega) rfl (Or.inr rfl) (by decide) hb18 dX6_pageOf_18 ?_
      refine r_goto hK dX6_pageOf_19 (t := 26) (by decide) ?_
      exact r_areturn hK hr hQ dX6_pageOf_26 ⟨C, ((a1).toNat), rfl, hN18, rfl, wpO_some h⟩
    · refine r_aload_n hK dX6_pageOf_22 rfl ?_
      refine r_getR (k := 1) (k' := (27 + 32)) hK cls_6 fl_RX6_20 (by decide) (by omega) rfl rfl dX6_pageOf_23 ?_
      exact r_areturn hK hr hQ dX6_pageOf_26 ⟨C, (32), rfl, (by decide), rfl, wpO_some h⟩
set_option maxRecDepth 100000 in
set_option maxHeartbeats 4000000 in
theorem w_X6_goDown_12 {K : KT} {g : GT} {X : Mem} {dd : Nat} (hK : Kok K g cX6_goDown RX6 dd) (hN : kN K = 4) (hr : (kMe K).sig.returnType = none) {Q : Mem → Int → Prop} (hQ : kQ K = MQ (kB K) (Qc g (QV (fun c => mrg c X) Q)) (kA K) (kS K) (kc K) (ks K) (gS g)) (hdd : 4 ≤ dd) (u1 : Nat) (hu1 : u1 < 5) (k : Int → Mem → Option (Mem × Int)) (hk : ∀ (v2 : Int) (C : Mem), wpO (k v2 C) Q → Wn K g (mrg C X) 85 [some (.ref (gA g 1)), some (.ref (gA g (10 + 2 * u1))), some (.int (I (v2))), none] []) : ∀ (n : Nat) (v2 : Int) (C : Mem), wpO (f_X6_goDown_12 u1 k n v2 C) Q → Wn K g (mrg C X) 12 [some (.ref (gA g 1)), some (.ref (gA g (10 + 2 * u1))), some (.int (I (v2))), none] [] := by
  intro n
  induction n with
  | zero => intro v2 C h; exact (wpO_none h).elim
  | succ n ih =>
    intro v2 C h
    unfold f_X6_goDown_12 at h
    refine r_iload_n hK dX6_goDown_12 rfl ?_
    refine r_aload_n hK dX6_goDown_13 rfl ?_
    refine r_getI (k := 1) hK cls_6 fl_RX6_31 (by decide) (by omega) rfl rfl dX6_goDown_14 (mrg_c (by omega)) ?_
    refine r_icmp_ge hK dX6_goDown_17 (t := 85) (by decide) (wpO_lt h) (fun h => ?_) (fun h => ?_)
    · refine r_iload_n hK dX6_goDown_20 rfl ?_
      refine r_aload_n hK dX6_goDown_21 rfl ?_
      refine r_getR (k := 1) (k' := (21)) hK cls_6 fl_RX6_24 (by decide) (by omega) rfl rfl dX6_goDown_22 ?_
      refine r_alen (k := (21)) hK (by omega) rfl (by decide) dX6_goDown_25 ?_
      refine r_icmp_ge hK dX6_goDown_26 (t := 85) (by decide) (wpO_lt h) (fun h => ?_) (fun h => ?_)
      · refine r_iload_n hK dX6_goDown_29 rfl ?_
        refine r_aload_n hK dX6_goDown_30 rfl ?_
        refine r_getR (k := 1) (k' := (22)) hK cls_6 fl_RX6_28 (by decide) (by omega) rfl rfl dX6_goDown_31 ?_
        refine r_alen (k := (22)) hK (by omega) rfl (by decide) dX6_goDown_34 ?_
        refine r_icmp_ge hK dX6_goDown_35 (t := 85) (by decide) (wpO_lt h) (fun h => ?_) (fun h => ?_)
        · refine r_aload_n hK dX6_goDown_38 rfl ?_
          refine r_aload_n hK dX6_goDown_39 rfl ?_
          refine r_getR (k := 1) (k' := (21)) hK cls_6 fl_RX6_24 (by decide) (by omega) rfl rfl dX6_goDown_40 ?_
          refine r_iload_n hK dX6_goDown_43 rfl ?_
          refine r_iconst hK dX6_goDown_44 ?_
          refine r_isub hK dX6_goDown_45 ?_
          obtain ⟨hb46, h⟩ := wpO_ix h
          refine r_iaload (k := (21)) hK (by omega) rfl (by decide) hb46 dX6_goDown_46 (mrg_c (by omega)) ?_
          refine r_callV hK ck_X6_pageOf im_X6_pageOf sl_X6_pageOf ml_RX6_39 (by omega) (c_X6_pageOf (l := kL K) (g := g) (X := X) (C (21) (v2 - 1).toNat) C (wpO_bd h)) cls_6 (k := 1) (by omega) rfl (As := [.int (I (C (21) (v2 - 1).toNat))]) (st := []) rfl (Nat.le_of_ble_eq_true rfl) dX6_goDown_47 (kkP (fun C47 r47 hr47 h => ?_))
          refine r_astore_n hK dX6_goDown_50 (by rw [hN]; decide) rfl (lv' := [some (.ref (gA g 1)), some (.ref (gA g (10 + 2 * u1))), some (.int (I (v2))), some (.ref (gA g (27 + r47)))]) rfl ?_
          refine r_aload_n hK dX6_goDown_51 rfl ?_
          refine r_getR (k := 1) (k' := (22)) hK cls_6 fl_RX6_28 (by decide) (by omega) rfl rfl dX6_goDown_52 ?_
          refine r_iload_n hK dX6_goDown_55 rfl ?_
          refine r_aload_n hK dX6_goDown_56 rfl ?_
          refine r_aload_n hK dX6_goDown_57 rfl ?_
          refine r_iconst hK dX6_goDown_58 ?_
          refine r_callV hK ck_X4_entriesBelow im_X4_entriesBelow sl_X4_entriesBelow ml_RX6_50 (by omega) (c_X4_entriesBelow (l := kL K) (g := g) (X := X) r47 u1 (1) hr47 hu1 C47 (wpO_bd h)) cls_4 (k := (27 + r47)) (by omega) (sh_page hr47) (As := [.ref (gA g (10 + 2 * u1)), .int (I (1))]) (st := [.int (I (v2)), .ref (gA g (22))]) rfl (Nat.le_of_ble_eq_true rfl) dX6_goDown_59 (kkI (fun C59 r59 h => ?_))
          obtain ⟨hb62, h⟩ := wpO_ix h
          refine r_iastore (k := (22)) hK (by omega) rfl (by decide) hb62 dX6_goDown_62 (up_c (by omega)) ?_
          refine r_aload_n hK dX6_goDown_63 rfl ?_
          refine r_getR (k := 1) (k' := (21)) hK cls_6 fl_RX6_24 (by decide) (by omega) rfl rfl dX6_goDown_64 ?_
          refine r_iload_n hK dX6_goDown_67 rfl ?_
          refine r_aload_n hK dX6_goDown_68 rfl ?_
          refine r_aload_n hK dX6_goDown_69 rfl ?_
          refine r_getR (k := 1) (k' := (22)) hK cls_6 fl_RX6_28 (by decide) (by omega) rfl rfl dX6_goDown_70 ?_
          refine r_iload_n hK dX6_goDown_73 rfl ?_
          obtain ⟨hb74, h⟩ := wpO_ix h
          refine r_iaload (k := (22)) hK (by omega) rfl (by decide) hb74 dX6_goDown_74 (mrg_c (by omega)) ?_
          refine r_callV hK ck_X4_child im_X4_child sl_X4_child ml_RX6_54 (by omega) (c_X4_child (l := kL K) (g := g) (X := X) r47 ((up C59 (22) (v2).toNat (r59)) (22) (v2).toNat) hr47 (up C59 (22) (v2).toNat (r59)) (wpO_bd h)) cls_4 (k := (27 + r47)) (by omega) (sh_page hr47) (As := [.int (I ((up C59 (22) (v2).toNat (r59)) (22) (v2).toNat))]) (st := [.int (I (v2)), .ref (gA g (21))]) rfl (Nat.le_of_ble_eq_true rfl) dX6_goDown_75 (kkI (fun C75 r75 h => ?_))
          obtain ⟨hb78, h⟩ := wpO_ix h
          refine r_iastore (k := (21)) hK (by omega) rfl (by decide) hb78 dX6_goDown_78 (up_c (by omega)) ?_
          refine r_iinc hK dX6_goDown_79 (by rw [hN]; decide) rfl rfl (lv' := [some (.ref (gA g 1)), some (.ref (gA g (10 + 2 * u1))), some (.int (I (v2 + 1))), some (.ref (gA g (27 + r47)))]) rfl ?_
          refine r_goto hK dX6_goDown_82 (t := 12) (by decide) ?_
          refine r_cut [true, true, true, false] (lv' := [some (.ref (gA g 1)), some (.ref (gA g (10 + 2 * u1))), some (.int (I (v2 + 1))), none]) rfl ?_
          exact ih (v2 + 1) (up C75 (21) (v2).toNat (r75)) h
        · exact hk (v2) C h
      · exact hk (v2) C h
    · exact hk (v2) C h
set_option maxRecDepth 100000 in
set_option maxHeartbeats 4000000 in
theorem c_X6_goDown {l : Launch} {g : GT} {X : Mem} {Q : Mem → Int → Prop} (a1 : Nat) (ha1 : a1 < 5) (C : Mem) (h : wpO (f_X6_goDown a1 C) Q) : MetC l yX6_goDown cX6_goDown 4 none 4 g [.ref (gA g 1), .ref (gA g (10 + 2 * a1))] (mrg C X) (QV (fun c => mrg c X) Q) := by
  refine met_at 2 (lv := [some (.ref (gA g 1)), some (.ref (gA g (10 + 2 * a1))), none, none]) (by decide) (Nat.le_of_ble_eq_true rfl) rfl rfl (fun K hK hN hr hQ => ?_)
  unfold f_X6_goDown at h
  refine r_aload_n hK dX6_goDown_0 rfl ?_
  refine r_getR (k := 1) (k' := (21)) hK cls_6 fl_RX6_24 (by decide) (by omega) rfl rfl dX6_goDown_1 ?_
  refine r_iconst hK dX6_goDown_4 ?_
  refine r_aload_n hK dX6_goDown_5 rfl ?_
  refine r_getI (k := 1) hK cls_6 fl_RX6_47 (by decide) (by omega) rfl rfl dX6_goDown_6 (mrg_c (by omega)) ?_
  obtain ⟨hb9, h⟩ := wpO_ix h
  refine r_iastore (k := (21)) hK (by omega) rfl (by decide) hb9 dX6_goDown_9 (up_c (by omega)) ?_
  refine r_iconst hK dX6_goDown_10 ?_
  refine r_istore_n hK dX6_goDown_11 (by rw [hN]; decide) rfl (lv' := [some (.ref (gA g 1)), some (.ref (gA g (10 + 2 * a1))), some (.int (I (1))), none]) rfl ?_
  refine w_X6_goDown_12 hK hN hr hQ (by omega) a1 ha1 _ (fun v2_e12 C_e12 h => ?_) FU (1) (up C (21) 0 (C 1 4)) h
  exact r_return hK hr hQ dX6_goDown_85 ⟨C_e12, rfl, rfl, wpO_some h⟩
set_option maxRecDepth 100000 in
set_option maxHeartbeats 4000000 in
theorem c_X6_numberOn {l : Launch} {g : GT} {X : Mem} {Q : Mem → Int → Prop} (a1 : Int) (C : Mem) (h : wpO (f_X6_numberOn a1 C) Q) : MetC l yX6_numberOn cX6_numberOn 2 (some .int) 1 g [.ref (gA g 1), .int (I (a1))] (mrg C X) (QI (fun c => mrg c X) Q) := by
  refine met_at 0 (lv := [some (.ref (gA g 1)), some (.int (I (a1)))]) (by decide) (Nat.le_of_ble_eq_true rfl) rfl rfl (fun K hK hN hr hQ => ?_)
  unfold f_X6_numberOn at h
  refine r_iload_n hK dX6_numberOn_0 rfl ?_
  refine r_if_lt hK dX6_numberOn_1 (t := 22) (by decide) (wpO_lt h) (fun h => ?_) (fun h => ?_)
  · refine r_iconst hK dX6_numberOn_22 ?_
    exact r_ireturn hK hr hQ rfl dX6_numberOn_23 ⟨C, 0, rfl, rfl, wpO_some h⟩
  · refine r_iload_n hK dX6_numberOn_4 rfl ?_
    refine r_aload_n hK dX6_numberOn_5 rfl ?_
    refine r_getR (k := 1) (k' := (21)) hK cls_6 fl_RX6_24 (by decide) (by omega) rfl rfl dX6_numberOn_6 ?_
    refine r_alen (k := (21)) hK (by omega) rfl (by decide) dX6_numberOn_9 ?_
    refine r_icmp_ge hK dX6_numberOn_10 (t := 22) (by decide) (wpO_lt h) (fun h => ?_) (fun h => ?_)
    · refine r_aload_n hK dX6_numberOn_13 rfl ?_
      refine r_getR (k := 1) (k' := (21)) hK cls_6 fl_RX6_24 (by decide) (by omega) rfl rfl dX6_numberOn_14 ?_
      refine r_iload_n hK dX6_numberOn_17 rfl ?_
      obtain ⟨hb18, h⟩ := wpO_ix h
      refine r_iaload (k := (21)) hK (by omega) rfl (by decide) hb18 dX6_numberOn_18 (mrg_c (by omega)) ?_
      refine r_goto hK dX6_numberOn_19 (t := 23) (by decide) ?_
      exact r_ireturn hK hr hQ rfl dX6_numberOn_23 ⟨C, (C (21) (a1).toNat), rfl, rfl, wpO_some h⟩
    · refine r_iconst hK dX6_numberOn_22 ?_
      exact r_ireturn hK hr hQ rfl dX6_numberOn_23 ⟨C, 0, rfl, rfl, wpO_some h⟩
set_option maxRecDepth 100000 in
set_option maxHeartbeats 4000000 in
theorem c_X6_pageOn {l : Launch} {g : GT} {X : Mem} {Q : Mem → Nat → Prop} (a1 : Int) (C : Mem) (h : wpO (f_X6_pageOn a1 C) Q) : MetC l yX6_pageOn cX6_pageOn 2 (some (.object "SortedPages$Page")) 2 g [.ref (gA g 1), .int (I (a1))] (mrg C X) (QP g (fun c => mrg c X) Q) := by
  refine met_at 0 (lv := [some (.ref (gA g 1)), some (.int (I (a1)))]) (by decide) (Nat.le_of_ble_eq_true rfl) rfl rfl (fun K hK hN hr hQ => ?_)
  unfold f_X6_pageOn at h
  refine r_aload_n hK dX6_pageOn_0 rfl ?_
  refine r_aload_n hK dX6_pageOn_1 rfl ?_
  refine r_iload_n hK dX6_pageOn_2 rfl ?_
  refine r_callV hK ck_X6_numberOn im_X6_numberOn sl_X6_numberOn ml_RX6_58 (by omega) (c_X6_numberOn (l := kL K) (g := g) (X := X) (a1) C (wpO_bd h)) cls_6 (k := 1) (by omega) rfl (As := [.int (I (a1))]) (st := [.ref (gA g 1)]) rfl (Nat.le_of_ble_eq_true rfl) dX6_pageOn_3 (kkI (fun C3 r3 h => ?_))
  refine r_callV hK ck_X6_pageOf im_X6_pageOf sl_X6_pageOf ml_RX6_39 (by omega) (c_X6_pageOf (l := kL K) (g := g) (X := X) (r3) C3 (wpO_bd h)) cls_6 (k := 1) (by omega) rfl (As := [.int (I (r3))]) (st := []) rfl (Nat.le_of_ble_eq_true rfl) dX6_pageOn_6 (kkP (fun C6 r6 hr6 h => ?_))
  exact r_areturn hK hr hQ dX6_pageOn_9 ⟨C6, (r6), rfl, hr6, rfl, wpO_some h⟩
set_option maxRecDepth 100000 in
set_option maxHeartbeats 4000000 in
theorem w_X6_pagesOfSort_4 {K : KT} {g : GT} {X : Mem} {dd : Nat} (hK : Kok K g cX6_pagesOfSort RX6 dd) (hN : kN K = 4) (hr : (kMe K).sig.returnType = (some .int)) {Q : Mem → Int → Prop} (hQ : kQ K = MQ (kB K) (Qc g (QI (fun c => mrg c X) Q)) (kA K) (kS K) (kc K) (ks K) (gS g)) (hdd : 2 ≤ dd) (u1 : Int) (k : Int → Int → Mem → Option (Mem × Int)) (hk : ∀ (v2 : Int) (v3 : Int) (C : Mem), wpO (k v2 v3 C) Q → Wn K g (mrg C X) 36 [some (.ref (gA g 1)), some (.int (I (u1))), some (.int (I (v2))), some (.int (I (v3)))] []) : ∀ (n : Nat) (v2 : Int) (v3 : Int) (C : Mem), wpO (f_X6_pagesOfSort_4 u1 k n v2 v3 C) Q → Wn K g (mrg C X) 4 [some (.ref (gA g 1)), some (.int (I (u1))), some (.int (I (v2))), some (.int (I (v3)))] [] := by
  intro n
  induction n with
  | zero => intro v2 v3 C h; exact (wpO_none h).elim
  | succ n ih =>
    intro v2 v3 C h
    unfold f_X6_pagesOfSort_4 at h
    refine r_iload_n hK dX6_pagesOfSort_4 rfl ?_
    refine r_bipush hK dX6_pagesOfSort_5 (by decide) ?_
    refine r_icmp_ge hK dX6_pagesOfSort_7 (t := 36) (by decide) (wpO_lt h) (fun h => ?_) (fun h => ?_)
    · refine r_iload_n hK dX6_pagesOfSort_10 rfl ?_
      refine r_aload_n hK dX6_pagesOfSort_11 rfl ?_
      refine r_iload_n hK dX6_pagesOfSort_12 rfl ?_
      refine r_callV hK ck_X6_pageOf im_X6_pageOf sl_X6_pageOf ml_RX6_39 (by omega) (c_X6_pageOf (l := kL K) (g := g) (X := X) (v3) C (wpO_bd h)) cls_6 (k := 1) (by omega) rfl (As := [.int (I (v3))]) (st := [.int (I (v2))]) rfl (Nat.le_of_ble_eq_true rfl) dX6_pagesOfSort_13 (kkP (fun C13 r13 hr13 h => ?_))
      refine r_callV hK ck_X4_sort im_X4_sort sl_X4_sort ml_RX6_43 (by omega) (c_X4_sort (l := kL K) (g := g) (X := X) r13 hr13 C13 (wpO_bd h)) cls_4 (k := (27 + r13)) (by omega) (sh_page hr13) (As := []) (st := [.int (I (v2))]) rfl (Nat.le_of_ble_eq_true rfl) dX6_pagesOfSort_16 (kkI (fun C16 r16 h => ?_))
      refine r_iload_n hK dX6_pagesOfSort_19 rfl ?_
      refine r_icmp_ne hK dX6_pagesOfSort_20 (t := 27) (by decide) (wpO_eq h) (fun h => ?_) (fun h => ?_)
      · refine r_iconst hK dX6_pagesOfSort_23 ?_
        refine r_goto hK dX6_pagesOfSort_24 (t := 28) (by decide) ?_
        refine r_iadd hK dX6_pagesOfSort_28 ?_
        refine r_istore_n hK dX6_pagesOfSort_29 (by rw [hN]; decide) rfl (lv' := [some (.ref (gA g 1)), some (.int (I (u1))), some (.int (I (v2 + 1))), some (.int (I (v3)))]) rfl ?_
        refine r_iinc hK dX6_pagesOfSort_30 (by rw [hN]; decide) rfl rfl (lv' := [some (.ref (gA g 1)), some (.int (I (u1))), some (.int (I (v2 + 1))), some (.int (I (v3 + 1)))]) rfl ?_
        refine r_goto hK dX6_pagesOfSort_33 (t := 4) (by decide) ?_
        exact ih (v2 + 1) (v3 + 1) C16 h
      · refine r_iconst hK dX6_pagesOfSort_27 ?_
        refine r_iadd hK dX6_pagesOfSort_28 ?_
        refine r_istore_n hK dX6_pagesOfSort_29 (by rw [hN]; decide) rfl (lv' := [some (.ref (gA g 1)), some (.int (I (u1))), some (.int (I (v2 + 0))), some (.int (I (v3)))]) rfl ?_
        refine r_iinc hK dX6_pagesOfSort_30 (by rw [hN]; decide) rfl rfl (lv' := [some (.ref (gA g 1)), some (.int (I (u1))), some (.int (I (v2 + 0))), some (.int (I (v3 + 1)))]) rfl ?_
        refine r_goto hK dX6_pagesOfSort_33 (t := 4) (by decide) ?_
        exact ih (v2 + 0) (v3 + 1) C16 h
    · exact hk (v2) (v3) C h
set_option maxRecDepth 100000 in
set_option maxHeartbeats 4000000 in
theorem c_X6_pagesOfSort {l : Launch} {g : GT} {X : Mem} {Q : Mem → Int → Prop} (a1 : Int) (C : Mem) (h : wpO (f_X6_pagesOfSort a1 C) Q) : MetC l yX6_pagesOfSort cX6_pagesOfSort 4 (some .int) 2 g [.ref (gA g 1), .int (I (a1))] (mrg C X) (QI (fun c => mrg c X) Q) := by
  refine met_at 2 (lv := [some (.ref (gA g 1)), some (.int (I (a1))), none, none]) (by decide) (Nat.le_of_ble_eq_true rfl) rfl rfl (fun K hK hN hr hQ => ?_)
  unfold f_X6_pagesOfSort at h
  refine r_iconst hK dX6_pagesOfSort_0 ?_
  refine r_istore_n hK dX6_pagesOfSort_1 (by rw [hN]; decide) rfl (lv' := [some (.ref (gA g 1)), some (.int (I (a1))), some (.int (I (0))), none]) rfl ?_
  refine r_iconst hK dX6_pagesOfSort_2 ?_
  refine r_istore_n hK dX6_pagesOfSort_3 (by rw [hN]; decide) rfl (lv' := [some (.ref (gA g 1)), some (.int (I (a1))), some (.int (I (0))), some (.int (I (0)))]) rfl ?_
  refine w_X6_pagesOfSort_4 hK hN hr hQ (by omega) (a1) _ (fun v2_e4 v3_e4 C_e4 h => ?_) FU (0) (0) C h
  refine r_iload_n hK dX6_pagesOfSort_36 rfl ?_
  exact r_ireturn hK hr hQ rfl dX6_pagesOfSort_37 ⟨C_e4, v2_e4, rfl, rfl, wpO_some h⟩
set_option maxRecDepth 100000 in
set_option maxHeartbeats 4000000 in
theorem w_X6_lowestFree_2 {K : KT} {g : GT} {X : Mem} {dd : Nat} (hK : Kok K g cX6_lowestFree RX6 dd) (hN : kN K = 2) (hr : (kMe K).sig.returnType = (some .int)) {Q : Mem → Int → Prop} (hQ : kQ K = MQ (kB K) (Qc g (QI (fun c => mrg c X) Q)) (kA K) (kS K) (kc K) (ks K) (gS g)) (hdd : 2 ≤ dd) (k : Int → Mem → Option (Mem × Int)) (hk : ∀ (v1 : Int) (C : Mem), wpO (k v1 C) Q → Wn K g (mrg C X) 25 [some (.ref (gA g 1)), some (.int (I (v1)))] []) : ∀ (n : Nat) (v1 : Int) (C : Mem), wpO (f_X6_lowestFree_2 k n v1 C) Q → Wn K g (mrg C X) 2 [some (.ref (gA g 1)), some (.int (I (v1)))] [] := by
  intro n
  induction n with
  | zero => intro v1 C h; exact (wpO_none h).elim
  | succ n ih =>
    intro v1 C h
    unfold f_X6_lowestFree_2 at h
    refine r_iload_n hK dX6_lowestFree_2 rfl ?_
    refine r_bipush hK dX6_lowestFree_3 (by decide) ?_
    refine r_icmp_ge hK dX6_lowestFree_5 (t := 25) (by decide) (wpO_lt h) (fun h => ?_) (fun h => ?_)
    · refine r_aload_n hK dX6_lowestFree_8 rfl ?_
      refine r_iload_n hK dX6_lowestFree_9 rfl ?_
      refine r_callV hK ck_X6_pageOf im_X6_pageOf sl_X6_pageOf ml_RX6_39 (by omega) (c_X6_pageOf (l := kL K) (g := g) (X := X) (v1) C (wpO_bd h)) cls_6 (k := 1) (by omega) rfl (As := [.int (I (v1))]) (st := []) rfl (Nat.le_of_ble_eq_true rfl) dX6_lowestFree_10 (kkP (fun C10 r10 hr10 h => ?_))
      refine r_callV hK ck_X4_sort im_X4_sort sl_X4_sort ml_RX6_43 (by omega) (c_X4_sort (l := kL K) (g := g) (X := X) r10 hr10 C10 (wpO_bd h)) cls_4 (k := (27 + r10)) (by omega) (sh_page hr10) (As := []) (st := []) rfl (Nat.le_of_ble_eq_true rfl) dX6_lowestFree_13 (kkI (fun C13 r13 h => ?_))
      refine r_if_eq hK dX6_lowestFree_16 (t := 25) (by decide) (wpO_eq h) (fun h => ?_) (fun h => ?_)
      · exact hk (v1) C13 h
      · refine r_iinc hK dX6_lowestFree_19 (by rw [hN]; decide) rfl rfl (lv' := [some (.ref (gA g 1)), some (.int (I (v1 + 1)))]) rfl ?_
        refine r_goto hK dX6_lowestFree_22 (t := 2) (by decide) ?_
        exact ih (v1 + 1) C13 h
    · exact hk (v1) C h
set_option maxRecDepth 100000 in
set_option maxHeartbeats 4000000 in
theorem c_X6_lowestFree {l : Launch} {g : GT} {X : Mem} {Q : Mem → Int → Prop} (C : Mem) (h : wpO (f_X6_lowestFree C) Q) : MetC l yX6_lowestFree cX6_lowestFree 2 (some .int) 2 g [.ref (gA g 1)] (mrg C X) (QI (fun c => mrg c X) Q) := by
  refine met_at 1 (lv := [some (.ref (gA g 1)), none]) (by decide) (Nat.le_of_ble_eq_true rfl) rfl rfl (fun K hK hN hr hQ => ?_)
  unfold f_X6_lowestFree at h
  refine r_iconst hK dX6_lowestFree_0 ?_
  refine r_istore_n hK dX6_lowestFree_1 (by rw [hN]; decide) rfl (lv' := [some (.ref (gA g 1)), some (.int (I (0)))]) rfl ?_
  refine w_X6_lowestFree_2 hK hN hr hQ (by omega) _ (fun v1_e2 C_e2 h => ?_) FU (0) C h
  refine r_iload_n hK dX6_lowestFree_25 rfl ?_
  exact r_ireturn hK hr hQ rfl dX6_lowestFree_26 ⟨C_e2, v1_e2, rfl, rfl, wpO_some h⟩
set_option maxRecDepth 100000 in
set_option maxHeartbeats 4000000 in
theorem c_X6_slotOn {l : Launch} {g : GT} {X : Mem} {Q : Mem → Int → Prop} (a1 : Int) (C : Mem) (h : wpO (f_X6_slotOn a1 C) Q) : MetC l yX6_slotOn cX6_slotOn 2 (some .int) 1 g [.ref (gA g 1), .int (I (a1))] (mrg C X) (QI (fun c => mrg c X) Q) := by
  refine met_at 0 (lv := [some (.ref (gA g 1)), some (.int (I (a1)))]) (by decide) (Nat.le_of_ble_eq_true rfl) rfl rfl (fun K hK hN hr hQ => ?_)
  unfold f_X6_slotOn at h
  refine r_iload_n hK dX6_slotOn_0 rfl ?_
  refine r_if_lt hK dX6_slotOn_1 (t := 22) (by decide) (wpO_lt h) (fun h => ?_) (fun h => ?_)
  · refine r_iconst hK dX6_slotOn_22 ?_
    exact r_ireturn hK hr hQ rfl dX6_slotOn_23 ⟨C, 0, rfl, rfl, wpO_some h⟩
  · refine r_iload_n hK dX6_slotOn_4 rfl ?_
    refine r_aload_n hK dX6_slotOn_5 rfl ?_
    refine r_getR (k := 1) (k' := (22)) hK cls_6 fl_RX6_28 (by decide) (by omega) rfl rfl dX6_slotOn_6 ?_
    refine r_alen (k := (22)) hK (by omega) rfl (by decide) dX6_slotOn_9 ?_
    refine r_icmp_ge hK dX6_slotOn_10 (t := 22) (by decide) (wpO_lt h) (fun h => ?_) (fun h => ?_)
    · refine r_aload_n hK dX6_slotOn_13 rfl ?_
      refine r_getR (k := 1) (k' := (22)) hK cls_6 fl_RX6_28 (by decide) (by omega) rfl rfl dX6_slotOn_14 ?_
      refine r_iload_n hK dX6_slotOn_17 rfl ?_
      obtain ⟨hb18, h⟩ := wpO_ix h
      refine r_iaload (k := (22)) hK (by omega) rfl (by decide) hb18 dX6_slotOn_18 (mrg_c (by omega)) ?_
      refine r_goto hK dX6_slotOn_19 (t := 23) (by decide) ?_
      exact r_ireturn hK hr hQ rfl dX6_slotOn_23 ⟨C, (C (22) (a1).toNat), rfl, rfl, wpO_some h⟩
    · refine r_iconst hK dX6_slotOn_22 ?_
      exact r_ireturn hK hr hQ rfl dX6_slotOn_23 ⟨C, 0, rfl, rfl, wpO_some h⟩
set_option maxRecDepth 100000 in
set_option maxHeartbeats 4000000 in
theorem w_X6_firstLeaf_7 {K : KT} {g : GT} {X : Mem} {dd : Nat} (hK : Kok K g cX6_firstLeaf RX6 dd) (hN : kN K = 3) (hr : (kMe K).sig.returnType = (some .int)) {Q : Mem → Int → Prop} (hQ : kQ K = MQ (kB K) (Qc g (QI (fun c => mrg c X) Q)) (kA K) (kS K) (kc K) (ks K) (gS g)) (hdd : 2 ≤ dd) (k : Int → Int → Mem → Option (Mem × Int)) (hk : ∀ (v1 : Int) (v2 : Int) (C : Mem), wpO (k v1 v2 C) Q → Wn K g (mrg C X) 30 [some (.ref (gA g 1)), some (.int (I (v1))), some (.int (I (v2)))] []) : ∀ (n : Nat) (v1 : Int) (v2 : Int) (C : Mem), wpO (f_X6_firstLeaf_7 k n v1 v2 C) Q → Wn K g (mrg C X) 7 [some (.ref (gA g 1)), some (.int (I (v1))), some (.int (I (v2)))] [] := by
  intro n
  induction n with
  | zero => intro v1 v2 C h; exact (wpO_none h).elim
  | succ n ih =>
    intro v1 v2 C h
    unfold f_X6_firstLeaf_7 at h
    refine r_iload_n hK dX6_firstLeaf_7 rfl ?_
    refine r_aload_n hK dX6_firstLeaf_8 rfl ?_
    refine r_getI (k := 1) hK cls_6 fl_RX6_31 (by decide) (by omega) rfl rfl dX6_firstLeaf_9 (mrg_c (by omega)) ?_
    refine r_icmp_ge hK dX6_firstLeaf_12 (t := 30) (by decide) (wpO_lt h) (fun h => ?_) (fun h => ?_)
    · refine r_aload_n hK dX6_firstLeaf_15 rfl ?_
      refine r_iload_n hK dX6_firstLeaf_16 rfl ?_
      refine r_callV hK ck_X6_pageOf im_X6_pageOf sl_X6_pageOf ml_RX6_39 (by omega) (c_X6_pageOf (l := kL K) (g := g) (X := X) (v1) C (wpO_bd h)) cls_6 (k := 1) (by omega) rfl (As := [.int (I (v1))]) (st := []) rfl (Nat.le_of_ble_eq_true rfl) dX6_firstLeaf_17 (kkP (fun C17 r17 hr17 h => ?_))
      refine r_callV hK ck_X4_link im_X4_link sl_X4_link ml_RX6_61 (by omega) (c_X4_link (l := kL K) (g := g) (X := X) r17 hr17 C17 (wpO_bd h)) cls_4 (k := (27 + r17)) (by omega) (sh_page hr17) (As := []) (st := []) rfl (Nat.le_of_ble_eq_true rfl) dX6_firstLeaf_20 (kkI (fun C20 r20 h => ?_))
      refine r_istore_n hK dX6_firstLeaf_23 (by rw [hN]; decide) rfl (lv' := [some (.ref (gA g 1)), some (.int (I (r20))), some (.int (I (v2)))]) rfl ?_
      refine r_iinc hK dX6_firstLeaf_24 (by rw [hN]; decide) rfl rfl (lv' := [some (.ref (gA g 1)), some (.int (I (r20))), some (.int (I (v2 + 1)))]) rfl ?_
      refine r_goto hK dX6_firstLeaf_27 (t := 7) (by decide) ?_
      exact ih (r20) (v2 + 1) C20 h
    · exact hk (v1) (v2) C h
set_option maxRecDepth 100000 in
set_option maxHeartbeats 4000000 in
theorem c_X6_firstLeaf {l : Launch} {g : GT} {X : Mem} {Q : Mem → Int → Prop} (C : Mem) (h : wpO (f_X6_firstLeaf C) Q) : MetC l yX6_firstLeaf cX6_firstLeaf 3 (some .int) 2 g [.ref (gA g 1)] (mrg C X) (QI (fun c => mrg c X) Q) := by
  refine met_at 2 (lv := [some (.ref (gA g 1)), none, none]) (by decide) (Nat.le_of_ble_eq_true rfl) rfl rfl (fun K hK hN hr hQ => ?_)
  unfold f_X6_firstLeaf at h
  refine r_aload_n hK dX6_firstLeaf_0 rfl ?_
  refine r_getI (k := 1) hK cls_6 fl_RX6_47 (by decide) (by omega) rfl rfl dX6_firstLeaf_1 (mrg_c (by omega)) ?_
  refine r_istore_n hK dX6_firstLeaf_4 (by rw [hN]; decide) rfl (lv' := [some (.ref (gA g 1)), some (.int (I (C 1 4))), none]) rfl ?_
  refine r_iconst hK dX6_firstLeaf_5 ?_
  refine r_istore_n hK dX6_firstLeaf_6 (by rw [hN]; decide) rfl (lv' := [some (.ref (gA g 1)), some (.int (I (C 1 4))), some (.int (I (1)))]) rfl ?_
  refine w_X6_firstLeaf_7 hK hN hr hQ (by omega) _ (fun v1_e7 v2_e7 C_e7 h => ?_) FU (C 1 4) (1) C h
  refine r_iload_n hK dX6_firstLeaf_30 rfl ?_
  exact r_ireturn hK hr hQ rfl dX6_firstLeaf_31 ⟨C_e7, v1_e7, rfl, rfl, wpO_some h⟩
set_option maxRecDepth 100000 in
set_option maxHeartbeats 4000000 in
theorem w_X6_placeOfKey_10 {K : KT} {g : GT} {X : Mem} {dd : Nat} (hK : Kok K g cX6_placeOfKey RX6 dd) (hN : kN K = 6) (hr : (kMe K).sig.returnType = (some .int)) {Q : Mem → Int → Prop} (hQ : kQ K = MQ (kB K) (Qc g (QI (fun c => mrg c X) Q)) (kA K) (kS K) (kc K) (ks K) (gS g)) (hdd : 3 ≤ dd) (k : Int → Int → Int → Mem → Option (Mem × Int)) (hk : ∀ (v2 : Int) (v3 : Int) (v4 : Int) (C : Mem), wpO (k v2 v3 v4 C) Q → Wn K g (mrg C X) 70 [some (.ref (gA g 1)), none, some (.int (I (v2))), some (.int (I (v3))), some (.int (I (v4))), none] []) : ∀ (n : Nat) (v2 : Int) (v3 : Int) (v4 : Int) (C : Mem), wpO (f_X6_placeOfKey_10 k n v2 v3 v4 C) Q → Wn K g (mrg C X) 10 [some (.ref (gA g 1)), none, some (.int (I (v2))), some (.int (I (v3))), some (.int (I (v4))), none] [] := by
  intro n
  induction n with
  | zero => intro v2 v3 v4 C h; exact (wpO_none h).elim
  | succ n ih =>
    intro v2 v3 v4 C h
    unfold f_X6_placeOfKey_10 at h
    refine r_iload hK dX6_placeOfKey_10 rfl ?_
    refine r_bipush hK dX6_placeOfKey_12 (by decide) ?_
    refine r_icmp_ge hK dX6_placeOfKey_14 (t := 70) (by decide) (wpO_lt h) (fun h => ?_) (fun h => ?_)
    · refine r_iload_n hK dX6_placeOfKey_17 rfl ?_
      refine r_if_lt hK dX6_placeOfKey_18 (t := 70) (by decide) (wpO_lt h) (fun h => ?_) (fun h => ?_)
      · exact hk (v2) (v3) (v4) C h
      · refine r_iload_n hK dX6_placeOfKey_21 rfl ?_
        refine r_if_lt hK dX6_placeOfKey_22 (t := 70) (by decide) (wpO_lt h) (fun h => ?_) (fun h => ?_)
        · exact hk (v2) (v3) (v4) C h
        · refine r_aload_n hK dX6_placeOfKey_25 rfl ?_
          refine r_iload_n hK dX6_placeOfKey_26 rfl ?_
          refine r_callV hK ck_X6_pageOf im_X6_pageOf sl_X6_pageOf ml_RX6_39 (by omega) (c_X6_pageOf (l := kL K) (g := g) (X := X) (v3) C (wpO_bd h)) cls_6 (k := 1) (by omega) rfl (As := [.int (I (v3))]) (st := []) rfl (Nat.le_of_ble_eq_true rfl) dX6_placeOfKey_27 (kkP (fun C27 r27 hr27 h => ?_))
          refine r_astore hK dX6_placeOfKey_30 (by rw [hN]; decide) rfl (lv' := [some (.ref (gA g 1)), none, some (.int (I (v2))), some (.int (I (v3))), some (.int (I (v4))), some (.ref (gA g (27 + r27)))]) rfl ?_
          refine r_iload_n hK dX6_placeOfKey_32 rfl ?_
          refine r_aload hK dX6_placeOfKey_33 rfl ?_
          refine r_callV hK ck_X4_entries im_X4_entries sl_X4_entries ml_RX6_67 (by omega) (c_X4_entries (l := kL K) (g := g) (X := X) r27 hr27 C27 (wpO_bd h)) cls_4 (k := (27 + r27)) (by omega) (sh_page hr27) (As := []) (st := [.int (I (v2))]) rfl (Nat.le_of_ble_eq_true rfl) dX6_placeOfKey_35 (kkI (fun C35 r35 h => ?_))
          refine r_icmp_ge hK dX6_placeOfKey_38 (t := 48) (by decide) (wpO_lt h) (fun h => ?_) (fun h => ?_)
          · refine r_iload_n hK dX6_placeOfKey_41 rfl ?_
            refine r_bipush hK dX6_placeOfKey_42 (by decide) ?_
            refine r_imul hK dX6_placeOfKey_44 ?_
            refine r_iload_n hK dX6_placeOfKey_45 rfl ?_
            refine r_iadd hK dX6_placeOfKey_46 ?_
            exact r_ireturn hK hr hQ rfl dX6_placeOfKey_47 ⟨C35, ((v3 * 64) + v2), rfl, rfl, wpO_some h⟩
          · refine r_iload_n hK dX6_placeOfKey_48 rfl ?_
            refine r_aload hK dX6_placeOfKey_49 rfl ?_
            refine r_callV hK ck_X4_entries im_X4_entries sl_X4_entries ml_RX6_67 (by omega) (c_X4_entries (l := kL K) (g := g) (X := X) r27 hr27 C35 (wpO_bd h)) cls_4 (k := (27 + r27)) (by omega) (sh_page hr27) (As := []) (st := [.int (I (v2))]) rfl (Nat.le_of_ble_eq_true rfl) dX6_placeOfKey_51 (kkI (fun C51 r51 h => ?_))
            refine r_isub hK dX6_placeOfKey_54 ?_
            refine r_istore_n hK dX6_placeOfKey_55 (by rw [hN]; decide) rfl (lv' := [some (.ref (gA g 1)), none, some (.int (I (v2 - r51))), some (.int (I (v3))), some (.int (I (v4))), some (.ref (gA g (27 + r27)))]) rfl ?_
            refine r_aload hK dX6_placeOfKey_56 rfl ?_
            refine r_callV hK ck_X4_link im_X4_link sl_X4_link ml_RX6_61 (by omega) (c_X4_link (l := kL K) (g := g) (X := X) r27 hr27 C51 (wpO_bd h)) cls_4 (k := (27 + r27)) (by omega) (sh_page hr27) (As := []) (st := []) rfl (Nat.le_of_ble_eq_true rfl) dX6_placeOfKey_58 (kkI (fun C58 r58 h => ?_))
            refine r_iconst hK dX6_placeOfKey_61 ?_
            refine r_isub hK dX6_placeOfKey_62 ?_
            refine r_istore_n hK dX6_placeOfKey_63 (by rw [hN]; decide) rfl (lv' := [some (.ref (gA g 1)), none, some (.int (I (v2 - r51))), some (.int (I (r58 - 1))), some (.int (I (v4))), some (.ref (gA g (27 + r27)))]) rfl ?_
            refine r_iinc hK dX6_placeOfKey_64 (by rw [hN]; decide) rfl rfl (lv' := [some (.ref (gA g 1)), none, some (.int (I (v2 - r51))), some (.int (I (r58 - 1))), some (.int (I (v4 + 1))), some (.ref (gA g (27 + r27)))]) rfl ?_
            refine r_goto hK dX6_placeOfKey_67 (t := 10) (by decide) ?_
            refine r_cut [true, false, true, true, true, false] (lv' := [some (.ref (gA g 1)), none, some (.int (I (v2 - r51))), some (.int (I (r58 - 1))), some (.int (I (v4 + 1))), none]) rfl ?_
            exact ih (v2 - r51) (r58 - 1) (v4 + 1) C58 h
    · exact hk (v2) (v3) (v4) C h
set_option maxRecDepth 100000 in
set_option maxHeartbeats 4000000 in
theorem c_X6_placeOfKey {l : Launch} {g : GT} {X : Mem} {Q : Mem → Int → Prop} (a1 : Int) (C : Mem) (h : wpO (f_X6_placeOfKey a1 C) Q) : MetC l yX6_placeOfKey cX6_placeOfKey 6 (some .int) 3 g [.ref (gA g 1), .int (I (a1))] (mrg C X) (QI (fun c => mrg c X) Q) := by
  refine met_at 4 (lv := [some (.ref (gA g 1)), some (.int (I (a1))), none, none, none, none]) (by decide) (Nat.le_of_ble_eq_true rfl) rfl rfl (fun K hK hN hr hQ => ?_)
  unfold f_X6_placeOfKey at h
  refine r_iload_n hK dX6_placeOfKey_0 rfl ?_
  refine r_istore_n hK dX6_placeOfKey_1 (by rw [hN]; decide) rfl (lv' := [some (.ref (gA g 1)), some (.int (I (a1))), some (.int (I (a1))), none, none, none]) rfl ?_
  refine r_aload_n hK dX6_placeOfKey_2 rfl ?_
  refine r_callV hK ck_X6_firstLeaf im_X6_firstLeaf sl_X6_firstLeaf ml_RX6_64 (by omega) (c_X6_firstLeaf (l := kL K) (g := g) (X := X) C (wpO_bd h)) cls_6 (k := 1) (by omega) rfl (As := []) (st := []) rfl (Nat.le_of_ble_eq_true rfl) dX6_placeOfKey_3 (kkI (fun C3 r3 h => ?_))
  refine r_istore_n hK dX6_placeOfKey_6 (by rw [hN]; decide) rfl (lv' := [some (.ref (gA g 1)), some (.int (I (a1))), some (.int (I (a1))), some (.int (I (r3))), none, none]) rfl ?_
  refine r_iconst hK dX6_placeOfKey_7 ?_
  refine r_istore hK dX6_placeOfKey_8 (by rw [hN]; decide) rfl (lv' := [some (.ref (gA g 1)), some (.int (I (a1))), some (.int (I (a1))), some (.int (I (r3))), some (.int (I (0))), none]) rfl ?_
  refine r_cut [true, false, true, true, true, false] (lv' := [some (.ref (gA g 1)), none, some (.int (I (a1))), some (.int (I (r3))), some (.int (I (0))), none]) rfl ?_
  refine w_X6_placeOfKey_10 hK hN hr hQ (by omega) _ (fun v2_e10 v3_e10 v4_e10 C_e10 h => ?_) FU (a1) (r3) (0) C3 h
  refine r_iconst hK dX6_placeOfKey_70 ?_
  exact r_ireturn hK hr hQ rfl dX6_placeOfKey_71 ⟨C_e10, (-1), rfl, rfl, wpO_some h⟩
set_option maxRecDepth 100000 in
set_option maxHeartbeats 4000000 in
theorem w_X6_keys_4 {K : KT} {g : GT} {X : Mem} {dd : Nat} (hK : Kok K g cX6_keys RX6 dd) (hN : kN K = 3) (hr : (kMe K).sig.returnType = (some .int)) {Q : Mem → Int → Prop} (hQ : kQ K = MQ (kB K) (Qc g (QI (fun c => mrg c X) Q)) (kA K) (kS K) (kc K) (ks K) (gS g)) (hdd : 2 ≤ dd) (k : Int → Int → Mem → Option (Mem × Int)) (hk : ∀ (v1 : Int) (v2 : Int) (C : Mem), wpO (k v1 v2 C) Q → Wn K g (mrg C X) 43 [some (.ref (gA g 1)), some (.int (I (v1))), some (.int (I (v2)))] []) : ∀ (n : Nat) (v1 : Int) (v2 : Int) (C : Mem), wpO (f_X6_keys_4 k n v1 v2 C) Q → Wn K g (mrg C X) 4 [some (.ref (gA g 1)), some (.int (I (v1))), some (.int (I (v2)))] [] := by
  intro n
  induction n with
  | zero => intro v1 v2 C h; exact (wpO_none h).elim
  | succ n ih =>
    intro v1 v2 C h
    unfold f_X6_keys_4 at h
    refine r_iload_n hK dX6_keys_4 rfl ?_
    refine r_bipush hK dX6_keys_5 (by decide) ?_
    refine r_icmp_ge hK dX6_keys_7 (t := 43) (by decide) (wpO_lt h) (fun h => ?_) (fun h => ?_)
    · refine r_iload_n hK dX6_keys_10 rfl ?_
      refine r_aload_n hK dX6_keys_11 rfl ?_
      refine r_iload_n hK dX6_keys_12 rfl ?_
      refine r_callV hK ck_X6_pageOf im_X6_pageOf sl_X6_pageOf ml_RX6_39 (by omega) (c_X6_pageOf (l := kL K) (g := g) (X := X) (v2) C (wpO_bd h)) cls_6 (k := 1) (by omega) rfl (As := [.int (I (v2))]) (st := [.int (I (v1))]) rfl (Nat.le_of_ble_eq_true rfl) dX6_keys_13 (kkP (fun C13 r13 hr13 h => ?_))
      refine r_callV hK ck_X4_sort im_X4_sort sl_X4_sort ml_RX6_43 (by omega) (c_X4_sort (l := kL K) (g := g) (X := X) r13 hr13 C13 (wpO_bd h)) cls_4 (k := (27 + r13)) (by omega) (sh_page hr13) (As := []) (st := [.int (I (v1))]) rfl (Nat.le_of_ble_eq_true rfl) dX6_keys_16 (kkI (fun C16 r16 h => ?_))
      refine r_iconst hK dX6_keys_19 ?_
      refine r_icmp_ne hK dX6_keys_20 (t := 34) (by decide) (wpO_eq h) (fun h => ?_) (fun h => ?_)
      · refine r_aload_n hK dX6_keys_23 rfl ?_
        refine r_iload_n hK dX6_keys_24 rfl ?_
        refine r_callV hK ck_X6_pageOf im_X6_pageOf sl_X6_pageOf ml_RX6_39 (by omega) (c_X6_pageOf (l := kL K) (g := g) (X := X) (v2) C16 (wpO_bd h)) cls_6 (k := 1) (by omega) rfl (As := [.int (I (v2))]) (st := [.int (I (v1))]) rfl (Nat.le_of_ble_eq_true rfl) dX6_keys_25 (kkP (fun C25 r25 hr25 h => ?_))
        refine r_callV hK ck_X4_entries im_X4_entries sl_X4_entries ml_RX6_67 (by omega) (c_X4_entries (l := kL K) (g := g) (X := X) r25 hr25 C25 (wpO_bd h)) cls_4 (k := (27 + r25)) (by omega) (sh_page hr25) (As := []) (st := [.int (I (v1))]) rfl (Nat.le_of_ble_eq_true rfl) dX6_keys_28 (kkI (fun C28 r28 h => ?_))
        refine r_goto hK dX6_keys_31 (t := 35) (by decide) ?_
        refine r_iadd hK dX6_keys_35 ?_
        refine r_istore_n hK dX6_keys_36 (by rw [hN]; decide) rfl (lv' := [some (.ref (gA g 1)), some (.int (I (v1 + r28))), some (.int (I (v2)))]) rfl ?_
        refine r_iinc hK dX6_keys_37 (by rw [hN]; decide) rfl rfl (lv' := [some (.ref (gA g 1)), some (.int (I (v1 + r28))), some (.int (I (v2 + 1)))]) rfl ?_
        refine r_goto hK dX6_keys_40 (t := 4) (by decide) ?_
        exact ih (v1 + r28) (v2 + 1) C28 h
      · refine r_iconst hK dX6_keys_34 ?_
        refine r_iadd hK dX6_keys_35 ?_
        refine r_istore_n hK dX6_keys_36 (by rw [hN]; decide) rfl (lv' := [some (.ref (gA g 1)), some (.int (I (v1 + 0))), some (.int (I (v2)))]) rfl ?_
        refine r_iinc hK dX6_keys_37 (by rw [hN]; decide) rfl rfl (lv' := [some (.ref (gA g 1)), some (.int (I (v1 + 0))), some (.int (I (v2 + 1)))]) rfl ?_
        refine r_goto hK dX6_keys_40 (t := 4) (by decide) ?_
        exact ih (v1 + 0) (v2 + 1) C16 h
    · exact hk (v1) (v2) C h
set_option maxRecDepth 100000 in
set_option maxHeartbeats 4000000 in
theorem c_X6_keys {l : Launch} {g : GT} {X : Mem} {Q : Mem → Int → Prop} (C : Mem) (h : wpO (f_X6_keys C) Q) : MetC l yX6_keys cX6_keys 3 (some .int) 2 g [.ref (gA g 1)] (mrg C X) (QI (fun c => mrg c X) Q) := by
  refine met_at 2 (lv := [some (.ref (gA g 1)), none, none]) (by decide) (Nat.le_of_ble_eq_true rfl) rfl rfl (fun K hK hN hr hQ => ?_)
  unfold f_X6_keys at h
  refine r_iconst hK dX6_keys_0 ?_
  refine r_istore_n hK dX6_keys_1 (by rw [hN]; decide) rfl (lv' := [some (.ref (gA g 1)), some (.int (I (0))), none]) rfl ?_
  refine r_iconst hK dX6_keys_2 ?_
  refine r_istore_n hK dX6_keys_3 (by rw [hN]; decide) rfl (lv' := [some (.ref (gA g 1)), some (.int (I (0))), some (.int (I (0)))]) rfl ?_
  refine w_X6_keys_4 hK hN hr hQ (by omega) _ (fun v1_e4 v2_e4 C_e4 h => ?_) FU (0) (0) C h
  refine r_iload_n hK dX6_keys_43 rfl ?_
  exact r_ireturn hK hr hQ rfl dX6_keys_44 ⟨C_e4, v1_e4, rfl, rfl, wpO_some h⟩
set_option maxRecDepth 100000 in
set_option maxHeartbeats 4000000 in
theorem w_X6_usedOfAll_4 {K : KT} {g : GT} {X : Mem} {dd : Nat} (hK : Kok K g cX6_usedOfAll RX6 dd) (hN : kN K = 3) (hr : (kMe K).sig.returnType = (some .int)) {Q : Mem → Int → Prop} (hQ : kQ K = MQ (kB K) (Qc g (QI (fun c => mrg c X) Q)) (kA K) (kS K) (kc K) (ks K) (gS g)) (hdd : 3 ≤ dd) (k : Int → Int → Mem → Option (Mem × Int)) (hk : ∀ (v1 : Int) (v2 : Int) (C : Mem), wpO (k v1 v2 C) Q → Wn K g (mrg C X) 27 [some (.ref (gA g 1)), some (.int (I (v1))), some (.int (I (v2)))] []) : ∀ (n : Nat) (v1 : Int) (v2 : Int) (C : Mem), wpO (f_X6_usedOfAll_4 k n v1 v2 C) Q → Wn K g (mrg C X) 4 [some (.ref (gA g 1)), some (.int (I (v1))), some (.int (I (v2)))] [] := by
  intro n
  induction n with
  | zero => intro v1 v2 C h; exact (wpO_none h).elim
  | succ n ih =>
    intro v1 v2 C h
    unfold f_X6_usedOfAll_4 at h
    refine r_iload_n hK dX6_usedOfAll_4 rfl ?_
    refine r_bipush hK dX6_usedOfAll_5 (by decide) ?_
    refine r_icmp_ge hK dX6_usedOfAll_7 (t := 27) (by decide) (wpO_lt h) (fun h => ?_) (fun h => ?_)
    · refine r_iload_n hK dX6_usedOfAll_10 rfl ?_
      refine r_aload_n hK dX6_usedOfAll_11 rfl ?_
      refine r_iload_n hK dX6_usedOfAll_12 rfl ?_
      refine r_callV hK ck_X6_pageOf im_X6_pageOf sl_X6_pageOf ml_RX6_39 (by omega) (c_X6_pageOf (l := kL K) (g := g) (X := X) (v2) C (wpO_bd h)) cls_6 (k := 1) (by omega) rfl (As := [.int (I (v2))]) (st := [.int (I (v1))]) rfl (Nat.le_of_ble_eq_true rfl) dX6_usedOfAll_13 (kkP (fun C13 r13 hr13 h => ?_))
      refine r_callV hK ck_X4_used im_X4_used sl_X4_used ml_RX6_70 (by omega) (c_X4_used (l := kL K) (g := g) (X := X) r13 hr13 C13 (wpO_bd h)) cls_4 (k := (27 + r13)) (by omega) (sh_page hr13) (As := []) (st := [.int (I (v1))]) rfl (Nat.le_of_ble_eq_true rfl) dX6_usedOfAll_16 (kkI (fun C16 r16 h => ?_))
      refine r_iadd hK dX6_usedOfAll_19 ?_
      refine r_istore_n hK dX6_usedOfAll_20 (by rw [hN]; decide) rfl (lv' := [some (.ref (gA g 1)), some (.int (I (v1 + r16))), some (.int (I (v2)))]) rfl ?_
      refine r_iinc hK dX6_usedOfAll_21 (by rw [hN]; decide) rfl rfl (lv' := [some (.ref (gA g 1)), some (.int (I (v1 + r16))), some (.int (I (v2 + 1)))]) rfl ?_
      refine r_goto hK dX6_usedOfAll_24 (t := 4) (by decide) ?_
      exact ih (v1 + r16) (v2 + 1) C16 h
    · exact hk (v1) (v2) C h
set_option maxRecDepth 100000 in
set_option maxHeartbeats 4000000 in
theorem c_X6_usedOfAll {l : Launch} {g : GT} {X : Mem} {Q : Mem → Int → Prop} (C : Mem) (h : wpO (f_X6_usedOfAll C) Q) : MetC l yX6_usedOfAll cX6_usedOfAll 3 (some .int) 3 g [.ref (gA g 1)] (mrg C X) (QI (fun c => mrg c X) Q) := by
  refine met_at 2 (lv := [some (.ref (gA g 1)), none, none]) (by decide) (Nat.le_of_ble_eq_true rfl) rfl rfl (fun K hK hN hr hQ => ?_)
  unfold f_X6_usedOfAll at h
  refine r_iconst hK dX6_usedOfAll_0 ?_
  refine r_istore_n hK dX6_usedOfAll_1 (by rw [hN]; decide) rfl (lv' := [some (.ref (gA g 1)), some (.int (I (0))), none]) rfl ?_
  refine r_iconst hK dX6_usedOfAll_2 ?_
  refine r_istore_n hK dX6_usedOfAll_3 (by rw [hN]; decide) rfl (lv' := [some (.ref (gA g 1)), some (.int (I (0))), some (.int (I (0)))]) rfl ?_
  refine w_X6_usedOfAll_4 hK hN hr hQ (by omega) _ (fun v1_e4 v2_e4 C_e4 h => ?_) FU (0) (0) C h
  refine r_iload_n hK dX6_usedOfAll_27 rfl ?_
  exact r_ireturn hK hr hQ rfl dX6_usedOfAll_28 ⟨C_e4, v1_e4, rfl, rfl, wpO_some h⟩
set_option maxRecDepth 100000 in
set_option maxHeartbeats 4000000 in
theorem w_X6_separatorLetters_4 {K : KT} {g : GT} {X : Mem} {dd : Nat} (hK : Kok K g cX6_separatorLetters RX6 dd) (hN : kN K = 4) (hr : (kMe K).sig.returnType = (some .int)) {Q : Mem → Int → Prop} (hQ : kQ K = MQ (kB K) (Qc g (QI (fun c => mrg c X) Q)) (kA K) (kS K) (kc K) (ks K) (gS g)) (hdd : 3 ≤ dd) (k : Int → Int → Mem → Option (Mem × Int)) (hk : ∀ (v1 : Int) (v2 : Int) (C : Mem), wpO (k v1 v2 C) Q → Wn K g (mrg C X) 46 [some (.ref (gA g 1)), some (.int (I (v1))), some (.int (I (v2))), none] []) : ∀ (n : Nat) (v1 : Int) (v2 : Int) (C : Mem), wpO (f_X6_separatorLetters_4 k n v1 v2 C) Q → Wn K g (mrg C X) 4 [some (.ref (gA g 1)), some (.int (I (v1))), some (.int (I (v2))), none] [] := by
  intro n
  induction n with
  | zero => intro v1 v2 C h; exact (wpO_none h).elim
  | succ n ih =>
    intro v1 v2 C h
    unfold f_X6_separatorLetters_4 at h
    refine r_iload_n hK dX6_separatorLetters_4 rfl ?_
    refine r_bipush hK dX6_separatorLetters_5 (by decide) ?_
    refine r_icmp_ge hK dX6_separatorLetters_7 (t := 46) (by decide) (wpO_lt h) (fun h => ?_) (fun h => ?_)
    · refine r_aload_n hK dX6_separatorLetters_10 rfl ?_
      refine r_iload_n hK dX6_separatorLetters_11 rfl ?_
      refine r_callV hK ck_X6_pageOf im_X6_pageOf sl_X6_pageOf ml_RX6_39 (by omega) (c_X6_pageOf (l := kL K) (g := g) (X := X) (v2) C (wpO_bd h)) cls_6 (k := 1) (by omega) rfl (As := [.int (I (v2))]) (st := []) rfl (Nat.le_of_ble_eq_true rfl) dX6_separatorLetters_12 (kkP (fun C12 r12 hr12 h => ?_))
      refine r_astore_n hK dX6_separatorLetters_15 (by rw [hN]; decide) rfl (lv' := [some (.ref (gA g 1)), some (.int (I (v1))), some (.int (I (v2))), some (.ref (gA g (27 + r12)))]) rfl ?_
      refine r_aload_n hK dX6_separatorLetters_16 rfl ?_
      refine r_callV hK ck_X4_sort im_X4_sort sl_X4_sort ml_RX6_43 (by omega) (c_X4_sort (l := kL K) (g := g) (X := X) r12 hr12 C12 (wpO_bd h)) cls_4 (k := (27 + r12)) (by omega) (sh_page hr12) (As := []) (st := []) rfl (Nat.le_of_ble_eq_true rfl) dX6_separatorLetters_17 (kkI (fun C17 r17 h => ?_))
      refine r_iconst hK dX6_separatorLetters_20 ?_
      refine r_icmp_ne hK dX6_separatorLetters_21 (t := 40) (by decide) (wpO_eq h) (fun h => ?_) (fun h => ?_)
      · refine r_iload_n hK dX6_separatorLetters_24 rfl ?_
        refine r_aload_n hK dX6_separatorLetters_25 rfl ?_
        refine r_callV hK ck_X4_used im_X4_used sl_X4_used ml_RX6_70 (by omega) (c_X4_used (l := kL K) (g := g) (X := X) r12 hr12 C17 (wpO_bd h)) cls_4 (k := (27 + r12)) (by omega) (sh_page hr12) (As := []) (st := [.int (I (v1))]) rfl (Nat.le_of_ble_eq_true rfl) dX6_separatorLetters_26 (kkI (fun C26 r26 h => ?_))
        refine r_iconst hK dX6_separatorLetters_29 ?_
        refine r_isub hK dX6_separatorLetters_30 ?_
        refine r_iconst hK dX6_separatorLetters_31 ?_
        refine r_aload_n hK dX6_separatorLetters_32 rfl ?_
        refine r_callV hK ck_X4_entries im_X4_entries sl_X4_entries ml_RX6_67 (by omega) (c_X4_entries (l := kL K) (g := g) (X := X) r12 hr12 C26 (wpO_bd h)) cls_4 (k := (27 + r12)) (by omega) (sh_page hr12) (As := []) (st := [.int (I (2)), .int (I (r26 - 3)), .int (I (v1))]) rfl (Nat.le_of_ble_eq_true rfl) dX6_separatorLetters_33 (kkI (fun C33 r33 h => ?_))
        refine r_imul hK dX6_separatorLetters_36 ?_
        refine r_isub hK dX6_separatorLetters_37 ?_
        refine r_iadd hK dX6_separatorLetters_38 ?_
        refine r_istore_n hK dX6_separatorLetters_39 (by rw [hN]; decide) rfl (lv' := [some (.ref (gA g 1)), some (.int (I (v1 + ((r26 - 3) - (2 * r33))))), some (.int (I (v2))), some (.ref (gA g (27 + r12)))]) rfl ?_
        refine r_iinc hK dX6_separatorLetters_40 (by rw [hN]; decide) rfl rfl (lv' := [some (.ref (gA g 1)), some (.int (I (v1 + ((r26 - 3) - (2 * r33))))), some (.int (I (v2 + 1))), some (.ref (gA g (27 + r12)))]) rfl ?_
        refine r_goto hK dX6_separatorLetters_43 (t := 4) (by decide) ?_
        refine r_cut [true, true, true, false] (lv' := [some (.ref (gA g 1)), some (.int (I (v1 + ((r26 - 3) - (2 * r33))))), some (.int (I (v2 + 1))), none]) rfl ?_
        exact ih (v1 + ((r26 - 3) - (2 * r33))) (v2 + 1) C33 h
      · refine r_iinc hK dX6_separatorLetters_40 (by rw [hN]; decide) rfl rfl (lv' := [some (.ref (gA g 1)), some (.int (I (v1))), some (.int (I (v2 + 1))), some (.ref (gA g (27 + r12)))]) rfl ?_
        refine r_goto hK dX6_separatorLetters_43 (t := 4) (by decide) ?_
        refine r_cut [true, true, true, false] (lv' := [some (.ref (gA g 1)), some (.int (I (v1))), some (.int (I (v2 + 1))), none]) rfl ?_
        exact ih (v1) (v2 + 1) C17 h
    · exact hk (v1) (v2) C h
set_option maxRecDepth 100000 in
set_option maxHeartbeats 4000000 in
theorem c_X6_separatorLetters {l : Launch} {g : GT} {X : Mem} {Q : Mem → Int → Prop} (C : Mem) (h : wpO (f_X6_separatorLetters C) Q) : MetC l yX6_separatorLetters cX6_separatorLetters 4 (some .int) 3 g [.ref (gA g 1)] (mrg C X) (QI (fun c => mrg c X) Q) := by
  refine met_at 3 (lv := [some (.ref (gA g 1)), none, none, none]) (by decide) (Nat.le_of_ble_eq_true rfl) rfl rfl (fun K hK hN hr hQ => ?_)
  unfold f_X6_separatorLetters at h
  refine r_iconst hK dX6_separatorLetters_0 ?_
  refine r_istore_n hK dX6_separatorLetters_1 (by rw [hN]; decide) rfl (lv' := [some (.ref (gA g 1)), some (.int (I (0))), none, none]) rfl ?_
  refine r_iconst hK dX6_separatorLetters_2 ?_
  refine r_istore_n hK dX6_separatorLetters_3 (by rw [hN]; decide) rfl (lv' := [some (.ref (gA g 1)), some (.int (I (0))), some (.int (I (0))), none]) rfl ?_
  refine w_X6_separatorLetters_4 hK hN hr hQ (by omega) _ (fun v1_e4 v2_e4 C_e4 h => ?_) FU (0) (0) C h
  refine r_iload_n hK dX6_separatorLetters_46 rfl ?_
  exact r_ireturn hK hr hQ rfl dX6_separatorLetters_47 ⟨C_e4, v1_e4, rfl, rfl, wpO_some h⟩

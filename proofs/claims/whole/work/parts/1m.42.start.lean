/-! THE START: from the law's entry to its loop. -/
theorem ck_X7_init : CkB yX7_init cX7_init 2 none 0 := ⟨mem_TB 116 (by decide +kernel) (by decide +kernel), mem_TB 97 (by decide +kernel) (by decide +kernel), by decide +kernel, by decide⟩
theorem ck_X8_init : CkB yX8_init cX8_init 1 none 0 := ⟨mem_TB 889 (by decide +kernel) (by decide +kernel), mem_TB 107 (by decide +kernel) (by decide +kernel), by decide +kernel, by decide⟩
theorem im_X7_init : Cond.instanceMethod yX7_init ∈ TB := mem_TB 115 (by decide +kernel) (by decide +kernel)
theorem im_X8_init : Cond.instanceMethod yX8_init ∈ TB := mem_TB 888 (by decide +kernel) (by decide +kernel)
theorem wc_RL_10 : Cond.classLink RL 10 RX8 ∈ TB := mem_TB 885 (by decide +kernel) (by decide +kernel)
theorem wc_RL_7 : Cond.classLink RL 7 RX7 ∈ TB := mem_TB 112 (by decide +kernel) (by decide +kernel)
theorem wi_7 : Cond.instantiable RX7 6 ∈ TB := mem_TB 113 (by decide +kernel) (by decide +kernel)
theorem wi_8 : Cond.instantiable RX8 35 ∈ TB := mem_TB 886 (by decide +kernel) (by decide +kernel)
theorem wm_RL_12 : Cond.methodLink RL 12 yX8_init ∈ TB := mem_TB 887 (by decide +kernel) (by decide +kernel)
theorem wm_RL_9 : Cond.methodLink RL 9 yX7_init ∈ TB := mem_TB 114 (by decide +kernel) (by decide +kernel)
theorem wz_7 : Cond.initialized RX7 ∈ TB := mem_TB 97 (by decide +kernel) (by decide +kernel)
theorem wz_8 : Cond.initialized RX8 ∈ TB := mem_TB 107 (by decide +kernel) (by decide +kernel)
theorem kn_arr {s : State} {args : Array Value} {ty : FieldType} (h : (Cond.arrayClass ty).before args s = true) (hn : ∀ n, ty ≠ .object n) : ∃ cA : ClassId, ArrOfT s cA ty ∧ va_RA s cA ty := by
  obtain ⟨c, k, comp, h1, h2, h3⟩ := Cond.arrayClass_spec h
  refine ⟨c, fun n z => ⟨fun k h => (by cases h), k, h2, comp, h3⟩, ?_⟩
  cases ty with
  | object n => exact absurd rfl (hn n)
  | _ => exact h1
theorem kn_over {s : State} {args : Array Value} {n : String} (h : (Cond.arrayOver (.object n)).before args s = true) : ∃ cA : ClassId, ArrOfT s cA (.object n) ∧ va_RA s cA (.object n) := by
  obtain ⟨comp, c, k, h1, _, h3, h4, h5⟩ := Cond.arrayOver_spec h
  exact ⟨c, fun n z => ⟨fun k h => (by cases h), k, h3, comp, h4⟩, k, comp, h3, h4, h1, h5⟩
def tmS (i : Nat) : Term := .string "SortedPages$Text" (if i = 0 then 51 else if i = 1 then 70 else 72)
set_option maxRecDepth 100000 in
theorem strs {s : State} {b : Nat} {A : Nat → Prop} (hgv : (Jvm.Cond.and given_1 narrow_1).before #[Value.ref b] s = true) (hA : ∀ a : Nat, a < s.heap.size → ¬ A a) : ∃ adK adV : Nat → Nat, vk_S 3 txL txB adK adV A s s.heap ∧ ∀ i : Nat, i < 3 → (tmS i).eval #[Value.ref b] s none [] s = some (.ref (adK i)) := by
  have hs := flat_of_before _ hgv
  have c3 : ∀ {P : Nat → Prop}, P 0 → P 1 → P 2 → ∀ i, i < 3 → P i := by
    intro P h0 h1 h2 i hi
    rcases (show i = 0 ∨ i = 1 ∨ i = 2 by omega) with rfl | rfl | rfl
    · exact h0
    · exact h1
    · exact h2
  refine vk_Sof (tm := tmS) (args := #[Value.ref b]) (c3 (by decide) (by decide) (by decide)) (c3 (hs _ (by decide +kernel)) (hs _ (by decide +kernel)) (hs _ (by decide +kernel))) (c3 (hs _ (by decide +kernel)) (hs _ (by decide +kernel)) (hs _ (by decide +kernel))) (c3 (hs _ (by decide +kernel)) (hs _ (by decide +kernel)) (hs _ (by decide +kernel))) (c3 (hs _ (by decide +kernel)) (hs _ (by decide +kernel)) (hs _ (by decide +kernel))) ?_ ?_ hA
  · refine c3 ?_ ?_ ?_
    · intro j hj
      have hj : j < 3 := hj
      rcases (show j = 0 ∨ j = 1 ∨ j = 2 by omega) with rfl | rfl | rfl <;> exact hs _ (by decide +kernel)
    · intro j hj
      have hj : j < 4 := hj
      rcases (show j = 0 ∨ j = 1 ∨ j = 2 ∨ j = 3 by omega) with rfl | rfl | rfl | rfl <;> exact hs _ (by decide +kernel)
    · intro j hj
      have hj : j < 4 := hj
      rcases (show j = 0 ∨ j = 1 ∨ j = 2 ∨ j = 3 by omega) with rfl | rfl | rfl | rfl <;> exact hs _ (by decide +kernel)
  · intro i j hi hj hij
    rcases (show i = 0 ∨ i = 1 ∨ i = 2 by omega) with rfl | rfl | rfl <;> rcases (show j = 0 ∨ j = 1 ∨ j = 2 by omega) with rfl | rfl | rfl <;> first | exact absurd rfl hij | exact Or.inl (hs _ (by decide +kernel)) | exact Or.inr (hs _ (by decide +kernel))
set_option maxRecDepth 100000 in
set_option maxHeartbeats 4000000 in
theorem whole_of {Inv : Mem → Mem → Prop} (hOk : LawOk Inv) (h00 : Inv C0 X0) {p : Program} {e : Env} {s : State} {m : MethodId} {below : List Frame} {meth : Method} {c : Code} (l : Launch) {b L : Nat} {xs : Nat → Int32} (hL : L ≤ 2048) (C9 : lw_At p s m meth c b L xs) : W p l e room_1 s m #[Value.ref b] below meth c s.heap [] 0 0 (lw_Z below #[Value.ref b] s) (entryFrame m ([Value.ref b] : List Value).toArray 4) := by
  obtain ⟨hx, hb, hr, hml, hown, hts, hX, hbl, hlocks, hgv⟩ := id C9
  have hTB : ∀ w ∈ TB, w.before #[Value.ref b] s = true := fun w h => hts w (List.mem_filter.mp h).1
  have hs := flat_of_before _ hgv
  have hA0 : ∀ a : Nat, a < s.heap.size → ¬ (fun q : Nat => s.heap.size ≤ q) a := fun a h => Nat.not_le.mpr h
  obtain ⟨c0, iS0, hKn0⟩ := u_known (C := RX0) (T := TX0) (N := 7) (n := 7) hTB cls_0.2.1 (hTB _ wi_0)
  obtain ⟨c1, iS1, hKn1⟩ := u_known (C := RX1) (T := TX1) (N := 5) (n := 5) hTB cls_1.2.1 (hTB _ wi_1)
  obtain ⟨c2, iS2, hKn2⟩ := u_known (C := RX2) (T := TX2) (N := 4) (n := 4) hTB cls_2.2.1 (hTB _ wi_2)
  obtain ⟨c3, iS3, hKn3⟩ := u_known (C := RX3) (T := TX3) (N := 2) (n := 2) hTB cls_3.2.1 (hTB _ wi_3)
  obtain ⟨c4, iS4, hKn4⟩ := u_known (C := RX4) (T := TX4) (N := 1) (n := 1) hTB cls_4.2.1 (hTB _ wi_4)
  obtain ⟨c5, iS5, hKn5⟩ := u_known (C := RX5) (T := TX5) (N := 9) (n := 9) hTB cls_5.2.1 (hTB _ wi_5)
  obtain ⟨c6, iS6, hKn6⟩ := u_known (C := RX6) (T := TX6) (N := 6) (n := 6) hTB cls_6.2.1 (hTB _ wi_6)
  obtain ⟨c7, iS7, hKn7⟩ := u_known (C := RX7) (T := TX7) (N := 6) (n := 6) hTB cls_7.2.1 (hTB _ wi_7)
  obtain ⟨c8, iS8, hKn8⟩ := u_known (C := RX8) (T := TX8) (N := 35) (n := 35) hTB cls_8.2.1 (hTB _ wi_8)
  obtain ⟨aI, hI1, hI2⟩ := kn_arr (hTB _ wa_int) (fun n h => by cases h)
  obtain ⟨aZ, hZ1, hZ2⟩ := kn_arr (hTB _ wa_boolean) (fun n h => by cases h)
  have hov1 : (Cond.arrayOver (.object "SortedPages$Image")).before #[Value.ref b] s = true := hts _ (by decide +kernel)
  have hov2 : (Cond.arrayOver (.object "SortedPages$Page")).before #[Value.ref b] s = true := hts _ (by decide +kernel)
  obtain ⟨aM, hM1, hM2⟩ := kn_over hov1
  obtain ⟨aP, hP1, hP2⟩ := kn_over hov2
  obtain ⟨adK, adV, hstr, hev⟩ := strs (A := fun q : Nat => s.heap.size ≤ q) hgv hA0
  obtain ⟨dC, hdC⟩ : ∃ dC : Nat → ClassId, dC = fun k => match k with | 0 => c0 | 1 => c1 | 2 => c2 | 3 => c3 | 4 => c4 | 5 => c5 | 6 => c6 | 7 => c7 | _ => c8 := ⟨_, rfl⟩
  obtain ⟨dI, hdI⟩ : ∃ dI : Nat → Nat → Nat, dI = fun k => match k with | 0 => iS0 | 1 => iS1 | 2 => iS2 | 3 => iS3 | 4 => iS4 | 5 => iS5 | 6 => iS6 | 7 => iS7 | _ => iS8 := ⟨_, rfl⟩
  obtain ⟨cC, hcC⟩ : ∃ cC : Nat → ClassId, cC = fun k => match k with | 0 => aI | 1 => aZ | 2 => aM | _ => aP := ⟨_, rfl⟩
  have gen : ∀ ad : Nat → Nat, va_K (gD ((dC, dI), cC, ad, (fun q : Nat => s.heap.size ≤ q), adK, adV)) vwCl (tys ((dC, dI), cC, ad, (fun q : Nat => s.heap.size ≤ q), adK, adV)) s ∧ Ext ((dC, dI), cC, ad, (fun q : Nat => s.heap.size ≤ q), adK, adV) s := by
    intro ad
    refine ⟨⟨fun k q hq => ?_, fun k q hq => ?_⟩, ?_⟩
    · subst hdC; subst hdI
      match k, hq with
      | 0, hq => cases hq; exact hKn0
      | 1, hq => cases hq; exact hKn1
      | 2, hq => cases hq; exact hKn2
      | 3, hq => cases hq; exact hKn3
      | 4, hq => cases hq; exact hKn4
      | 5, hq => cases hq; exact hKn5
      | 6, hq => cases hq; exact hKn6
      | 7, hq => cases hq; exact hKn7
      | 8, hq => cases hq; exact hKn8
      | k + 9, hq => simp at hq
    · subst hcC
      match k, hq with
      | 0, hq => cases hq; exact ⟨hI1, hI2⟩
      | 1, hq => cases hq; exact ⟨hZ1, hZ2⟩
      | 2, hq => cases hq; exact ⟨hM1, hM2⟩
      | 3, hq => cases hq; exact ⟨hP1, hP2⟩
      | k + 4, hq => simp [tys] at hq
    · refine ⟨fun w hw => ?_, hstr, ?_, ?_, ?_, ?_, ?_⟩
      · have h1 := List.mem_filter.mp hw
        exact va_Nw.of (by have := h1.2; cases w <;> first | rfl | (simp [isN] at this)) (hts w h1.1)
      · exact vk_R.same (u := s) rfl (vk_R.of (A := #[Value.ref b]) (hts _ (by decide +kernel)) (hev 0 (by decide)))
      · exact vk_R.same (u := s) rfl (vk_R.of (A := #[Value.ref b]) (hts _ (by decide +kernel)) (hev 1 (by decide)))
      · exact vk_R.same (u := s) rfl (vk_R.of (A := #[Value.ref b]) (hts _ (by decide +kernel)) (hev 2 (by decide)))
      · exact va_Zof (args := #[Value.ref b]) (hts _ (by decide +kernel)) (hts _ (by decide +kernel)) (va_eqt (hs _ (by decide +kernel))) hA0
      · exact va_Zqof (args := #[Value.ref b]) (hts _ (by decide +kernel)) (hts _ (by decide +kernel)) (hs _ (by decide +kernel)) hA0
  have hml4 : c.maxLocals = 4 := hml
  have entry := lv_entry ([Value.ref b]) (n := 4) (Nat.le_of_ble_eq_true rfl)
  rw [lg_entry_eq]
  obtain ⟨g0, hg0⟩ : ∃ g0 : GT, g0 = ((dC, dI), cC, (fun _ => 0), (fun q : Nat => s.heap.size ≤ q), adK, adV) := ⟨_, rfl⟩
  have hKC : KC (p, l, e, room_1, s, m, #[Value.ref b], below, meth, c, lw_Z below #[Value.ref b] s, 4, 0, 0) g0 code RL 1000 := by
    subst hg0
    exact ⟨hx, hb, hml4, hown, hTB, (gen _).1, (gen _).2, hlocks, (by show 1000 ≤ 2048; decide), (by show 40 * 1000 ≤ 84000; decide), fun q h => h, va_AO.of hov1, va_AO.of hov2⟩
  have main : Wp (p, l, e, room_1, s, m, #[Value.ref b], below, meth, c, lw_Z below #[Value.ref b] s, 4, 0, 0) g0 ([] ++ []) 0 0 0 [some (.ref b), none, none, none] [] := by
    generalize hKe : ((p, l, e, room_1, s, m, #[Value.ref b], below, meth, c, lw_Z below #[Value.ref b] s, 4, 0, 0) : KT) = K at hKC ⊢
    have hN : kN K = 4 := by rw [← hKe]; rfl
    have hcc : (kR K).cells = 600000 := by rw [← hKe]; rfl
    have hss : (kR K).slots = 7302250 := by rw [← hKe]; rfl
    have hK := hKC
    refine p_new (fr := []) (l := []) (fs := [.null, .null, .null, .null, .null, .null]) hK cls_7 wc_RL_7 wi_7 wz_7 (by decide +kernel) (by rw [hcc]; decide) (by rw [hss]; decide) dL_law_0 (fun a0 => ?_)
    refine p_dup hK dL_law_3 rfl ?_
    refine p_callI hK ck_X7_init im_X7_init rfl wm_RL_9 (by decide) (k_X7_init (fr := []) (h0 := a0)) (As := []) (st := [.ref a0]) rfl (Nat.le_of_ble_eq_true rfl) (by rw [hcc]; decide) (by rw [hss]; decide) dL_law_4 (fun ws' hp => ?_)
    obtain ⟨q1, t1, t2, t3, t4, t5, A, B, q2, q3, q4, q5, q6, q7, q8, q9, q10, q11, q12, q13, q14, q15, q16, q17, q18, q19, q20, q21, q22, q23, q24, q25, hws⟩ := hp
    subst hws
    refine p_astore_n hK dL_law_7 (by rw [hN]; decide) rfl (lv' := [some (.ref b), some (.ref a0), none, none]) rfl ?_
    refine wp_ws (List.append_nil _).symm ?_
    refine p_new (l := []) (fs := [.null, .int 0, .int 0, .int 0, .int 0, .int 0, .int 0, .null, .null, .null, .int 0, .null, .int 0, .null, .null, .null, .int 0, .int 0, .null, .int 0, .null, .null, .null, .null, .int 0, .null, .null, .null, .null, .null, .int 0, .int 0, .int 0, .int 0, .int 0]) hK cls_8 wc_RL_10 wi_8 wz_8 (by decide +kernel) (by rw [hcc]; decide) (by rw [hss]; decide) dL_law_8 (fun b0 => ?_)
    refine p_dup hK dL_law_11 rfl ?_
    refine p_callI hK ck_X8_init im_X8_init rfl wm_RL_12 (by decide) (k_X8_init (h0 := b0)) (As := []) (st := [.ref b0]) rfl (Nat.le_of_ble_eq_true rfl) (by rw [hcc]; decide) (by rw [hss]; decide) dL_law_12 (fun ws' hp => ?_)
    obtain ⟨m1, m2, m3, m4, m5, m6, m7, m8, m9, m10, m11, m12, m13, m14, m15, m16, m17, m18, hws⟩ := hp
    subst hws
    refine p_astore_n hK dL_law_15 (by rw [hN]; decide) rfl (lv' := [some (.ref b), some (.ref a0), some (.ref b0), none]) rfl ?_
    refine p_iconst hK dL_law_16 ?_
    refine p_istore_n hK dL_law_17 (by rw [hN]; decide) rfl (lv' := [some (.ref b), some (.ref a0), some (.ref b0), some (.int (I 0))]) rfl ?_
    -- the flat world
    intro H locs ls hP hD hS hl
    subst hKe
    have hP := conv_P (g := ((dC, dI), cC, (adF a0 q1 t1 t2 t3 t4 t5 q2 q3 q4 q5 q6 q7 q8 q9 q10 q11 q12 q13 q14 q15 q16 q17 q18 q19 q20 q21 q22 q23 q24 q25 b0 m1 m2 m3 m4 m5 m6 m7 m8 m9 m10 m11 m12 m13 m14 m15 m16 m17 m18 A B), (fun q : Nat => s.heap.size ≤ q), adK, adV)) (M := mrg C0 X0) (fun k => posL.getD k 0) (conv_at rfl) (by subst hg0; exact hP)
    have hD := conv_D (g := ((dC, dI), cC, (adF a0 q1 t1 t2 t3 t4 t5 q2 q3 q4 q5 q6 q7 q8 q9 q10 q11 q12 q13 q14 q15 q16 q17 q18 q19 q20 q21 q22 q23 q24 q25 b0 m1 m2 m3 m4 m5 m6 m7 m8 m9 m10 m11 m12 m13 m14 m15 m16 m17 m18 A B), (fun q : Nat => s.heap.size ≤ q), adK, adV)) (M := mrg C0 X0) (A := fun q : Nat => s.heap.size ≤ q) (fun k => posL.getD k 0) (fun k hk => (conv_at (H := H) rfl k hk).imp (fun _ h => h.1)) pos_inj (by subst hg0; exact hD)
    have hS : va_S (fun q : Nat => s.heap.size ≤ q) s.heap H locs := by subst hg0; exact hS
    obtain ⟨hk1, hk2⟩ := gen (adF a0 q1 t1 t2 t3 t4 t5 q2 q3 q4 q5 q6 q7 q8 q9 q10 q11 q12 q13 q14 q15 q16 q17 q18 q19 q20 q21 q22 q23 q24 q25 b0 m1 m2 m3 m4 m5 m6 m7 m8 m9 m10 m11 m12 m13 m14 m15 m16 m17 m18 A B)
    have hlp := law_loop (K := (p, l, e, room_1, s, m, #[Value.ref b], below, meth, c, lw_Z below #[Value.ref b] s, 4, 114, 17769)) (g := ((dC, dI), cC, (adF a0 q1 t1 t2 t3 t4 t5 q2 q3 q4 q5 q6 q7 q8 q9 q10 q11 q12 q13 q14 q15 q16 q17 q18 q19 q20 q21 q22 q23 q24 q25 b0 m1 m2 m3 m4 m5 m6 m7 m8 m9 m10 m11 m12 m13 m14 m15 m16 m17 m18 A B), (fun q : Nat => s.heap.size ≤ q), adK, adV)) hOk ⟨hx, hb, hml4, hown, hTB, hk1, fun M => wsM_D hD, hk2, hlocks, (by show 1000 ≤ 2048; decide), (by show 40 * 1000 ≤ 84000; decide), (by show 114 ≤ 600000; decide), (by show 17769 ≤ 7302250; decide)⟩ rfl hL hX hbl (Nat.not_le.mpr hbl) (fun C X lv H locs ls hP hS hl => ?_) (L + 1) 0 C0 X0 h00 (by omega) (by omega)
    · exact hlp H locs ls hP hS hl
    · refine lv_iconst (v := 1) hx hb dL_law_688 (by decide) ?_
      refine va_forget (fun q hq => hS.2.2 q hq) ?_
      refine W.widen (k := 600000) (n := 7302250) (by show 114 ≤ 600000; decide) (by show 17769 ≤ 7302250; decide) ?_
      exact lw_ret hx hb hr hlocks dL_law_689
  refine main s.heap [] _ ?_ ?_ va_S.rf ⟨entry.1, entry.2.1, fun i v hi => entry.2.2 (i, v) ?_⟩
  · intro k q hq
    simp at hq
  · exact ⟨fun i j p q h => by simp at h, fun k q h => by simp at h⟩
  · match i, hi with
    | 0, hi => cases hi; simp [lv_args]
    | 1, hi => cases hi
    | 2, hi => cases hi
    | 3, hi => cases hi
    | i + 4, hi => simp at hi

/-! Tree(): its pages by a loop; begin and fill over a growing world. -/
theorem set_same0 {α : Type} : ∀ {l : List α} {i : Nat} {x : α}, l[i]? = some x → l.set i x = l
  | [], i, x, h => by simp at h
  | y :: r, 0, x, h => by simp at h; simp [h]
  | y :: r, i + 1, x, h => by
    have := set_same0 (l := r) (i := i) (x := x) (by simpa using h)
    simp [this]
theorem wp_eq {K : KT} {g : GT} {ws : va_W} {cs ss cs' ss' pc : Nat} {lv : List (Option Value)} {st : List Value} (h1 : cs = cs') (h2 : ss = ss') (k : Wp K g ws cs' ss' pc lv st) : Wp K g ws cs ss pc lv st := by rw [h1, h2]; exact k
theorem wp_ws {K : KT} {g : GT} {ws ws' : va_W} {cs ss pc : Nat} {lv : List (Option Value)} {st : List Value} (h1 : ws = ws') (k : Wp K g ws' cs ss pc lv st) : Wp K g ws cs ss pc lv st := by rw [h1]; exact k
theorem upd_zero (i : Nat) : upd (fun _ => (0 : Int32)) i (I 0) = fun _ => 0 := by
  funext j
  unfold upd
  split
  · exact I_0.symm
  · rfl
theorem fill_loop {K : KT} {g : GT} {ws : va_W} {b i : Nat} {cs ss : Nat} (hK : KC K g cJ7_fill_53178 RJ7 1) (hN : kN K = 4) (hr : (kMe K).sig.returnType = none) {Post : va_W → Prop} (hQ : kQ K = MQ (kB K) (QK g Post) (kA K) (kS K) cs ss (gS g)) (hp : Post ws) (hb : ws[i]? = some (b, .inl (gC g 0, 64, .inl (fun _ => 0)))) :
    ∀ (n x : Nat), x ≤ 64 → 64 - x < n → Wp K g ws cs ss 5 [some (.ref b), some (.int (I 0)), some (.int (I x)), some (.int (I 64))] [] := by
  intro n
  induction n with
  | zero => intro x h1 h2; omega
  | succ n ih =>
    intro x h1 h2
    refine p_iload_n hK dJ7_fill_53178_5 rfl ?_
    refine p_iload_n hK dJ7_fill_53178_6 rfl ?_
    by_cases hx : x < 64
    · refine p_ge_f hK dJ7_fill_53178_7 (t := 20) (by decide) ⟨⟨by omega, by omega⟩, by decide⟩ (by omega) ?_
      refine p_aload_n hK dJ7_fill_53178_10 rfl ?_
      refine p_iload_n hK dJ7_fill_53178_11 rfl ?_
      refine p_iload_n hK dJ7_fill_53178_12 rfl ?_
      refine p_iast (fr := []) (l := ws) (l' := ws) (i := i) hK hb (by decide) ⟨by omega, by omega⟩ dJ7_fill_53178_13 (by rw [upd_zero]; exact set_same0 hb) ?_
      refine p_iinc hK dJ7_fill_53178_14 (by rw [hN]; decide) rfl rfl (lv' := [some (.ref b), some (.int (I 0)), some (.int (I (x + 1))), some (.int (I 64))]) rfl ?_
      refine p_goto hK dJ7_fill_53178_17 (t := 5) (by decide) ?_
      exact ih (x + 1) (by omega) (by omega)
    · refine p_ge_t hK dJ7_fill_53178_7 (t := 20) (by decide) ⟨⟨by omega, by omega⟩, by decide⟩ (by omega) ?_
      exact p_ret hK hr hQ dJ7_fill_53178_20 hp
theorem k_fill {lx : Launch} {g : GT} {ws : va_W} {b i : Nat} (hb : ws[i]? = some (b, .inl (gC g 0, 64, .inl (fun _ => 0)))) : MetK lx yJ7_fill_53178 cJ7_fill_53178 4 1 0 0 g [.ref b, .int (I 0)] ws (fun ws' => ws' = ws) := by
  refine met_k 2 (lv := [some (.ref b), some (.int (I 0)), none, none]) (by decide) (Nat.le_of_ble_eq_true rfl) rfl rfl (fun K hK hN hr hQ hnm hcc hss => ?_)
  refine p_iconst hK dJ7_fill_53178_0 ?_
  refine p_istore_n hK dJ7_fill_53178_1 (by rw [hN]; decide) rfl (lv' := [some (.ref b), some (.int (I 0)), some (.int (I 0)), none]) rfl ?_
  refine p_aload_n hK dJ7_fill_53178_2 rfl ?_
  refine p_alen (fr := []) (l := ws) (i := i) hK hb dJ7_fill_53178_3 ?_
  refine p_istore_n hK dJ7_fill_53178_4 (by rw [hN]; decide) rfl (lv' := [some (.ref b), some (.int (I 0)), some (.int (I 0)), some (.int (I 64))]) rfl ?_
  exact fill_loop hK hN hr hQ rfl hb 65 0 (by omega) (by omega)
theorem k_begin {lx : Launch} {g : GT} {ws : va_W} {a b i j : Nat} (ha : ws[i]? = some (a, .inr (4, [.ref b]))) (hb : ws[j]? = some (b, .inl (gC g 0, 64, .inl (fun _ => 0)))) (hij : i ≠ j) : MetK lx yX4_begin cX4_begin 3 2 0 0 g [.ref a, .int (I 1), .int (I 0)] ws (fun ws' => ws' = ws.set j (b, .inl (gC g 0, 64, .inl (upd (upd (fun _ => 0) 0 (I 1)) 2 (I 0))))) := by
  have hj : j < ws.length := by
    rcases Nat.lt_or_ge j ws.length with q | q
    · exact q
    · rw [List.getElem?_eq_none q] at hb; cases hb
  refine met_k 0 (lv := [some (.ref a), some (.int (I 1)), some (.int (I 0))]) (by decide) (Nat.le_of_ble_eq_true rfl) rfl rfl (fun K hK hN hr hQ hnm hcc hss => ?_)
  refine p_aload_n hK dX4_begin_0 rfl ?_
  refine p_get (fr := []) (l := ws) (i := i) hK cls_4 fl_RX4_15 (by decide) ha rfl dX4_begin_1 ?_
  refine p_iconst hK dX4_begin_4 ?_
  refine p_callS hK ck_J7_fill_53178 sc_J7_fill_53178 ml_RX4_66 (by decide) (k_fill hb) (As := [.ref b, .int (I 0)]) (st := []) rfl (Nat.le_of_ble_eq_true rfl) (by rw [hcc]; decide) (by rw [hss]; decide) dX4_begin_5 (fun ws' hp => ?_)
  subst hp
  refine p_aload_n hK dX4_begin_8 rfl ?_
  refine p_get (fr := []) (l := ws') (i := i) hK cls_4 fl_RX4_15 (by decide) ha rfl dX4_begin_9 ?_
  refine p_iconst hK dX4_begin_12 ?_
  refine p_iload_n hK dX4_begin_13 rfl ?_
  refine p_iast (fr := []) (l := ws') (i := j) (x := 0) (l' := ws'.set j (b, .inl (gC g 0, 64, .inl (upd (fun _ => 0) 0 (I 1))))) hK hb (by decide) (by decide) dX4_begin_14 rfl ?_
  refine p_aload_n hK dX4_begin_15 rfl ?_
  refine p_get (fr := []) (l := ws'.set j (b, .inl (gC g 0, 64, .inl (upd (fun _ => 0) 0 (I 1))))) (i := i) hK cls_4 fl_RX4_15 (by decide) (by rw [List.getElem?_set_ne (Ne.symm hij)]; exact ha) rfl dX4_begin_16 ?_
  refine p_iconst hK dX4_begin_19 ?_
  refine p_iload_n hK dX4_begin_20 rfl ?_
  refine p_iast (fr := []) (l := ws'.set j (b, .inl (gC g 0, 64, .inl (upd (fun _ => 0) 0 (I 1))))) (i := j) (x := 2) (f := upd (fun _ => 0) 0 (I 1)) (l' := ws'.set j (b, .inl (gC g 0, 64, .inl (upd (upd (fun _ => 0) 0 (I 1)) 2 (I 0))))) hK (by rw [List.getElem?_set_self hj]) (by decide) (by decide) dX4_begin_21 (List.set_set _) ?_
  exact p_ret hK hr hQ dX4_begin_22 rfl
/-- the pages so far -/
def pgl (g : GT) (A B : Nat → Nat) (p : Nat) : va_W := (List.range p).flatMap (fun i => [(A i, .inr (4, [.ref (B i)])), (B i, .inl (gC g 0, 64, .inl (fun _ => 0)))])
def fA (A : Nat → Nat) (p : Nat) : Nat → Option Nat := fun i => if i < p then some (A i) else none
abbrev tl0 (g : GT) (h0 q1 q2 q3 q4 q5 : Nat) (f : Nat → Option Nat) (tl : va_W) : va_W :=
  (h0, .inr (6, [.ref q1, .ref q2, .ref q4, .ref q5, .int 0, .int (I 1)])) :: (q1, .inl (gC g 3, 32, .inr (.inr (.inr (.inr f))))) :: (q2, .inr (4, [.ref q3])) :: (q3, .inl (gC g 0, 64, .inl (fun _ => 0))) :: (q4, .inl (gC g 0, 32, .inl (fun _ => 0))) :: (q5, .inl (gC g 0, 32, .inl (fun _ => 0))) :: tl
theorem pgl_succ {g : GT} {A B : Nat → Nat} {p q q' : Nat} : pgl g (va_up A p q) (va_up B p q') (p + 1) = pgl g A B p ++ [(q, .inr (4, [.ref q'])), (q', .inl (gC g 0, 64, .inl (fun _ => 0)))] := by
  unfold pgl
  rw [List.range_succ, List.flatMap_append]
  congr 1
  · rw [List.flatMap_def, List.flatMap_def]
    congr 1
    apply List.map_congr_left
    intro i hi
    have hi := List.mem_range.mp hi
    have h1 : va_up A p q i = A i := by unfold va_up; rw [if_neg (by omega)]
    have h2 : va_up B p q' i = B i := by unfold va_up; rw [if_neg (by omega)]
    rw [h1, h2]
  · simp [va_up]
theorem fA_succ {A : Nat → Nat} {p q : Nat} : va_up (fA A p) p (some q) = fA (va_up A p q) (p + 1) := by
  funext i
  unfold va_up fA
  by_cases h1 : i = p
  · subst h1; simp
  · by_cases h2 : i < p
    · rw [if_neg h1, if_pos h2, if_pos (by omega)]
      show some (A i) = some (if i = p then q else A i)
      rw [if_neg h1]
    · rw [if_neg h1, if_neg h2, if_neg (by omega)]
set_option maxRecDepth 100000 in
theorem tree_loop {K : KT} {g : GT} {fr : va_W} {h0 q1 q2 q3 q4 q5 : Nat} (hK : KC K g cX6_init RX6 3) (hN : kN K = 2) (hcc : (kR K).cells = 69) (hss : (kR K).slots = 2241)
    (hk : ∀ A B : Nat → Nat, Wp K g (fr ++ tl0 g h0 q1 q2 q3 q4 q5 (fA A 32) (pgl g A B 32)) 69 2241 76 [some (.ref h0), some (.int (I 32))] []) :
    ∀ (n p : Nat) (A B : Nat → Nat), p ≤ 32 → 32 - p < n → Wp K g (fr ++ tl0 g h0 q1 q2 q3 q4 q5 (fA A p) (pgl g A B p)) (5 + 2 * p) (161 + 65 * p) 49 [some (.ref h0), some (.int (I p))] [] := by
  intro n
  induction n with
  | zero => intro p A B h1 h2; omega
  | succ n ih =>
    intro p A B h1 h2
    refine p_iload_n hK dX6_init_49 rfl ?_
    refine p_bipush hK dX6_init_50 (by decide) ?_
    by_cases hx : p < 32
    · refine p_ge_f hK dX6_init_52 (t := 76) (by decide) ⟨⟨by omega, by omega⟩, by decide⟩ (by omega) ?_
      refine p_aload_n hK dX6_init_55 rfl ?_
      refine p_get (l := tl0 g h0 q1 q2 q3 q4 q5 (fA A p) (pgl g A B p)) (i := 0) hK cls_6 wf_RX6_11 (by decide) rfl rfl dX6_init_56 ?_
      refine p_iload_n hK dX6_init_59 rfl ?_
      refine p_new (l := tl0 g h0 q1 q2 q3 q4 q5 (fA A p) (pgl g A B p)) (fs := [.null]) hK cls_4 wc_RX6_9 wi_4 wz_4 (by decide +kernel) (by rw [hcc]; omega) (by rw [hss]; omega) dX6_init_60 (fun q => ?_)
      refine p_dup hK dX6_init_63 rfl ?_
      refine p_bipush hK dX6_init_64 (by decide) ?_
      refine p_re (l0 := tl0 g h0 q1 q2 q3 q4 q5 (fA A p) (pgl g A B p)) (l1 := [(q, .inr (4, [.null]))]) rfl ?_
      refine p_callI hK ck_X4_init im_X4_init rfl wm_RX6_17 (by decide) (k_X4_init (n := 64) (by decide) (by decide)) (As := [.int (I 64)]) (st := [.ref q, .int (I p), .ref q1]) (cs := 5 + 2 * p + 1) (ss := 161 + 65 * p + 1) rfl (Nat.le_of_ble_eq_true rfl) (by rw [hcc]; omega) (by rw [hss]; omega) dX6_init_66 (fun ws' hp => ?_)
      obtain ⟨q', rfl⟩ := hp
      refine p_er (l' := tl0 g h0 q1 q2 q3 q4 q5 (fA A p) (pgl g A B p ++ [(q, .inr (4, [.ref q'])), (q', .inl (gC g 0, 64, .inl (fun _ => 0)))])) rfl ?_
      refine p_aast (l := tl0 g h0 q1 q2 q3 q4 q5 (fA A p) (pgl g A B p ++ [(q, .inr (4, [.ref q'])), (q', .inl (gC g 0, 64, .inl (fun _ => 0)))])) (i := 1) (t := 3) (x := (p : Int)) (i2 := 6 + (pgl g A B p).length) (ci := 4) (vs := [.ref q']) (r := (RX4, TX4, 1)) (l' := tl0 g h0 q1 q2 q3 q4 q5 (va_up (fA A p) p (some q)) (pgl g A B p ++ [(q, .inr (4, [.ref q'])), (q', .inl (gC g 0, 64, .inl (fun _ => 0)))])) hK rfl rfl ?_ rfl (by decide) ⟨by omega, by omega⟩ dX6_init_69 rfl ?_
      · rw [Nat.add_comm]
        show (pgl g A B p ++ [(q, .inr (4, [.ref q'])), (q', .inl (gC g 0, 64, .inl (fun _ => 0)))])[(pgl g A B p).length]? = _
        exact fr_get0 (j := 0)
      · refine wp_ws (ws' := fr ++ tl0 g h0 q1 q2 q3 q4 q5 (fA (va_up A p q) (p + 1)) (pgl g (va_up A p q) (va_up B p q') (p + 1))) (by rw [fA_succ, pgl_succ]) ?_
        refine p_iinc hK dX6_init_70 (by rw [hN]; decide) rfl rfl (lv' := [some (.ref h0), some (.int (I ((p + 1 : Nat) : Int)))]) rfl ?_
        refine p_goto hK dX6_init_73 (t := 49) (by decide) ?_
        refine wp_eq (cs' := 5 + 2 * (p + 1)) (ss' := 161 + 65 * (p + 1)) (by omega) (by omega) ?_
        exact ih (p + 1) _ _ (by omega) (by omega)
    · have e : p = 32 := by omega
      subst e
      refine p_ge_t hK dX6_init_52 (t := 76) (by decide) ⟨by decide, by decide⟩ (by decide) ?_
      exact hk A B

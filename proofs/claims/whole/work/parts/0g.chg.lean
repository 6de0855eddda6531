/-! CLASS: the way down, what comes in upward, mending. -/
def chd (p : Pg) (n : Nat) : Int := ((([], p.2.1) :: p.2.2).getD n ([], 0)).2
def tn (w : List Int) (p : Pg) : Nat := cb 1 w p.2.2
def WayC (M : Mem) (L : Nat) (W T : Nat → Nat) : Prop := (∀ t, t < L → M 21 t = (W t : Int)) ∧ (∀ t, t + 1 < L → M 22 (t + 1) = (T t : Int))
/-- the way that a key goes -/
def Down (P : Nat → Pg) (w : List Int) (root L : Nat) (W T : Nat → Nat) : Prop := W 0 = root ∧ (∀ t, t < L → W t < 32) ∧ (∀ t, t + 1 < L → T t = tn w (P (W t)) ∧ chd (P (W t)) (T t) = (W (t + 1) : Int))
/-- keys and the wide page alone -/
def Fw (C C' : Mem) : Prop := ∀ x y, (x < 10 ∨ 20 ≤ x) → x ≠ 94 → C' x y = C x y
section CH
variable {C C' : Mem} {P : Nat → Pg} {i j k q A L : Nat} {s l : Int} {es a b x y le re : List Ent} {p : Pg} {e u v : Ent} {w : List Int} {W T : Nat → Nat} {root : Nat}
theorem cb_le (t : Int) (w : List Int) : ∀ es : List Ent, cb t w es ≤ es.length
  | [] => by simp [cb]
  | e :: r => by
    unfold cb
    have := cb_le t w r
    split <;> simp <;> omega
theorem chd_0 : chd p 0 = p.2.1 := rfl
theorem chd_s (h : p.2.2 = a ++ e :: b) : chd p (a.length + 1) = e.2 := by
  unfold chd
  rw [h]
  simp
theorem sp_child (h : PgC C i s l es) {n : Nat} (hn : n ≤ es.length) {z : Int} (hz : z = (n : Int)) : f_X4_child i z C = some (C, chd (s, l, es) n) := by
  cases n with
  | zero => rw [hz]; exact sp_child0 h
  | succ m =>
    have hm : m < es.length := by omega
    have he : es = es.take m ++ es[m] :: es.drop (m + 1) := by rw [List.getElem_cons_drop, List.take_append_drop]
    have hl : (es.take m).length = m := by rw [List.length_take]; omega
    have h' := h
    rw [he] at h'
    have c := chd_s (p := (s, l, es)) he
    rw [hl] at c
    rw [c]
    exact sp_child1 h' (by rw [hl, hz]; rfl)
theorem lp_down {K : Int → Mem → Option (Mem × Int)} (ho : TOk P) (hT : TC C P) (hL : C 1 5 = (L : Int)) (hL32 : L ≤ 32) (hk : KyC C k w) (hk5 : k < 5) (hd : Down P w root L W T) : ∀ (m n : Nat) (z : Int) (M : Mem), m < L → z = ((L - m : Nat) : Int) → m < n → (∀ x y, x ≠ 21 → x ≠ 22 → M x y = C x y) → (∀ t, t < L - m → M 21 t = (W t : Int)) → (∀ t, t + 1 < L - m → M 22 (t + 1) = (T t : Int)) → ∃ M', f_X6_goDown_12 k K n z M = K (L : Int) M' ∧ (∀ x y, x ≠ 21 → x ≠ 22 → M' x y = C x y) ∧ WayC M' L W T
  | _, 0 => by intros; omega
  | 0, n + 1 => by
    intro z M _ hz _ h1 h2 h3
    refine ⟨M, ?_, h1, h2, h3⟩
    unfold f_X6_goDown_12
    rw [h1 _ _ (by omega) (by omega), hL, fLt (by omega), hz]
    rfl
  | m + 1, n + 1 => by
    intro z M hm hz hn h1 h2 h3
    have hM : TC M P := TC_fr hT (fun x y hx => h1 x y (by omega) (by omega))
    have hkM : KyC M k w := ⟨by rw [h1 _ _ (by omega) (by omega)]; exact hk.1, fun t ht => by rw [h1 _ _ (by omega) (by omega)]; exact hk.2.1 t ht, hk.2.2⟩
    have hw := hd.2.1 (L - (m + 1) - 1) (by omega)
    obtain ⟨d1, d2⟩ := hd.2.2 (L - (m + 1) - 1) (by omega)
    have hp := TC_pg ho hM hw
    have hle : T (L - (m + 1) - 1) ≤ (P (W (L - (m + 1) - 1))).2.2.length := by rw [d1]; exact cb_le _ _ _
    have hb := sp_below (Or.inr rfl) hp hkM
    have hc := sp_child (PgC_up (x := 22) (y := L - (m + 1)) (z := ((T (L - (m + 1) - 1) : Nat) : Int)) (by omega) hp) hle (z := ((T (L - (m + 1) - 1) : Nat) : Int)) rfl
    have e1 : (cb 1 w (P (W (L - (m + 1) - 1))).2.2 : Int) = ((T (L - (m + 1) - 1) : Nat) : Int) := by rw [d1]; rfl
    rw [e1] at hb
    obtain ⟨M', i1, i2, i3⟩ := lp_down (K := K) ho hT hL hL32 hk hk5 hd m n (z + 1) (up (up M 22 (L - (m + 1)) ((T (L - (m + 1) - 1) : Nat) : Int)) 21 (L - (m + 1)) ((W (L - (m + 1) - 1 + 1) : Nat) : Int)) (by omega) (by omega) (by omega) (fun x y hx hy => by rw [up_k hx, up_k hy, h1 x y hx hy]) (by
      intro t ht
      by_cases htt : t = L - (m + 1)
      · rw [htt, up_same, show L - (m + 1) - 1 + 1 = L - (m + 1) by omega]
      · rw [up_j htt, up_k (by omega), h2 t (by omega)]) (by
      intro t ht
      by_cases htt : t + 1 = L - (m + 1)
      · rw [htt, up_k (by omega), up_same, show L - (m + 1) - 1 = t by omega]
      · rw [up_k (by omega), up_j htt, h3 t (by omega)])
    refine ⟨M', ?_, i2, i3⟩
    unfold f_X6_goDown_12
    rw [h1 1 5 (by omega) (by omega), hL, tLt (by omega), tLt (by omega), tLt (by omega), ix_t (by omega), show (z - 1).toNat = L - (m + 1) - 1 by omega, h2 _ (by omega), sp_pageOf rfl hw, bd_some, hb, bd_some, ix_t (by omega), ix_t (by omega), nat2 hz, up_same, hc, bd_some, ix_t (by omega), d2]
    exact i1
theorem sp_down (ho : TOk P) (hT : TC C P) (hR : C 1 4 = (root : Int)) (hL : C 1 5 = (L : Int)) (hL1 : 1 ≤ L) (hL32 : L ≤ 32) (hk : KyC C k w) (hk5 : k < 5) (hd : Down P w root L W T) : ∃ C', f_X6_goDown k C = some (C', 0) ∧ (∀ x y, x ≠ 21 → x ≠ 22 → C' x y = C x y) ∧ WayC C' L W T := by
  have hfu := FU_eq
  unfold f_X6_goDown
  obtain ⟨M', i1, i2, i3⟩ := lp_down (K := (fun (v2_e12 : Int) (C_e12 : Mem) => (some (C_e12, 0)))) ho hT hL hL32 hk hk5 hd (L - 1) FU 1 (up C 21 0 (C 1 4)) (by omega) (by omega) (by omega) (fun x y hx hy => up_k hx) (by
    intro t ht
    have : t = 0 := by omega
    subst this
    rw [up_same, hR, hd.1]) (by intro t ht; omega)
  refine ⟨M', ?_, i2, i3⟩
  rw [ix_t (by omega), i1]
theorem sp_pageOn (h : WayC C L W T) (hL32 : L ≤ 32) {t : Nat} (ht : t < L) (hw : W t < 32) {z : Int} (hz : z = (t : Int)) : f_X6_pageOn z C = some (C, W t) := by
  unfold f_X6_pageOn f_X6_numberOn
  rw [fLt (by omega), tLt (by omega), ix_t (by omega), bd_some, nat2 hz, h.1 t ht, sp_pageOf rfl hw, bd_some]
theorem sp_slotOn {t : Nat} (ht : t < 32) {z : Int} (hz : z = (t : Int)) : f_X6_slotOn z C = some (C, C 22 t) := by
  unfold f_X6_slotOn
  rw [fLt (by omega), tLt (by omega), ix_t (by omega), nat2 hz]
/-- a new root over the old one -/
theorem sp_raise (ho : TOk P) (hT : TC C P) (hq : IsLF P q) (hR : C 1 4 = (root : Int)) (hr : root < 32) (hk : KyC C 1 w) {z : Int} (hz : 0 ≤ z ∧ z ≤ 255) : ∃ C', f_X0_raiseRoot z C = some (C', 0) ∧ TC C' (uP P q (2, (root : Int), [(w, z)])) ∧ C' 1 4 = (q : Int) ∧ C' 1 5 = C 1 5 + 1 ∧ (∀ x y, x ≠ 1 → x < 61 → C' x y = C x y) := by
  have hq32 := hq.1
  have p1 : pl q = 64 := pl_32 hq32
  have hl := hk.2.2.1
  have s1 : PgC (stP C q (enc 2 (root : Int) [])) q 2 (root : Int) ([] ++ []) := PgC_st (by intro e he; cases he) (by simp [szs]; omega) (by omega) (by omega)
  have k1 : KyC (stP C q (enc 2 (root : Int) [])) 1 w := KC_st hk (by omega)
  refine ⟨up (up (stP C q (enc 2 (root : Int) [(w, z)])) 1 4 (q : Int)) 1 5 (C 1 5 + 1), ?_, ?_, ?_, ?_, ?_⟩
  · unfold f_X0_raiseRoot
    rw [sp_lf ho hT hq, bd_some, sp_pageOf rfl hq32, bd_some, hR, sp_begin, bd_some, sp_insert s1 k1 (by omega) (by rfl) (by simp [szs]; omega), bd_some, stP_stP, List.nil_append, up_j (by omega), stP_k (by omega)]
  · exact TC_up (TC_up (TC_st hT hq32 ⟨rfl, rfl, rfl⟩) (by omega)) (by omega)
  · rw [up_j (by omega), up_same]
  · rw [up_same]
  · intro x y hx hy
    rw [up_k hx, up_k hx, stP_k (by omega)]
/-- one turn of what comes in upward: it fits -/
theorem sp_inFit {K : Int → Int → Int → Mem → Option (Mem × Int)} {n t : Nat} (ho : TOk P) (hT : TC C P) (hw : WayC C L W T) (hL32 : L ≤ 32) (ht : t < L) (hi : W t = i) (hi32 : i < 32) (hp : P i = (s, l, a ++ b)) (hs : s = 1 ∨ s = 2) (hk : KyC C 1 w) (hw1 : 1 ≤ w.length) {z v3 v5 : Int} (hz : 0 ≤ z ∧ z ≤ 255) (h3 : v3 = (a.length : Int)) (h5 : v5 = (t : Int)) (hf : szs (a ++ (w, z) :: b) ≤ 61) : ∃ C', f_X0_insertUpward_16 K (n + 1) v3 z v5 C = some (C', 0) ∧ TC C' (uP P i (s, l, a ++ (w, z) :: b)) ∧ Fc C C' ∧ C' 2 = C 2 := by
  have hpg := TC_pg ho hT hi32
  rw [hp] at hpg
  have hpg : PgC C i s l (a ++ b) := hpg
  have p1 : pl i = 64 := pl_32 hi32
  have p3 := pl_33
  have hl := hk.2.2
  have hes : EsOk (a ++ (w, z) :: b) := by
    have := EsOk_app.mp hpg.2.1
    exact EsOk_app.mpr ⟨this.1, EsOk_cons.mpr ⟨⟨hw1, hl.1, hl.2, hz⟩, this.2⟩⟩
  have hsz : szs (a ++ b) ≤ 61 := by rw [szs_app] at hf ⊢; rw [szs_cons] at hf; omega
  have w1 : PgC (stP C 33 (enc s l (a ++ b))) 33 s l (a ++ b) := PgC_st hpg.2.1 (by omega) hpg.2.2.2.1 hpg.2.2.2.2
  have w2 : PgC (stP C 33 (enc s l (a ++ (w, z) :: b))) 33 s l (a ++ (w, z) :: b) := PgC_st hes (by omega) hpg.2.2.2.1 hpg.2.2.2.2
  have k1 : KyC (stP C 33 (enc s l (a ++ b))) 1 w := KC_st hk (by omega)
  refine ⟨stP (stP C 33 (enc s l (a ++ (w, z) :: b))) i (enc s l (a ++ (w, z) :: b)), ?_, ?_, ?_, ?_⟩
  · unfold f_X0_insertUpward_16
    rw [fLt (by omega), sp_pageOn hw hL32 ht (by omega) h5, hi, bd_some, sp_copy (by omega) hpg, bd_some, sp_insert w1 k1 (by omega) h3 (by omega), bd_some, stP_stP, sp_used w2 (by omega), bd_some, fLt (by omega), sp_copy (by omega) w2, bd_some]
  · exact TC_st (TC_w hT (by omega)) hi32 ⟨rfl, rfl, rfl⟩
  · exact Fc_st (Fc_st Fc_refl)
  · funext y
    rw [stP_k (by omega), stP_k (by omega)]
/-- .. a leaf is split -/
theorem sp_inL {K : Int → Int → Int → Mem → Option (Mem × Int)} {n t : Nat} (ho : TOk P) (hT : TC C P) (hw : WayC C L W T) (hL32 : L ≤ 32) (ht : t < L) (hi : W t = i) (hi32 : i < 32) (hp : P i = (1, l, a ++ b)) (hk : KyC C 1 w) (hw1 : 1 ≤ w.length) {z v3 v5 : Int} (hz : 0 ≤ z ∧ z ≤ 255) (h3 : v3 = (a.length : Int)) (h5 : v5 = (t : Int)) (hfz : 61 < szs (a ++ (w, z) :: b)) (hq : IsLF P q) (he : a ++ (w, z) :: b = (x ++ [u]) ++ v :: y) (hh : hf (a ++ (w, z) :: b) = (x ++ [u]).length) (hc : cmp u.1 v.1 < 0) (hx : szs (x ++ [u]) ≤ 61) (hy : szs (v :: y) ≤ 61) : ∃ C', f_X0_insertUpward_16 K (n + 1) v3 z v5 C = f_X0_insertUpward_16 K n (C 22 t) (q : Int) ((t : Int) + -1) C' ∧ TC C' (uP (uP P i (1, (q : Int) + 1, x ++ [u])) q (1, l, v :: y)) ∧ KyC C' 1 (sep u.1 v.1) ∧ Fc C C' ∧ C' 2 4 = C 2 4 + 1 ∧ C' 2 5 = C 2 5 ∧ C' 2 6 = C 2 6 := by
  have hpg := TC_pg ho hT hi32
  rw [hp] at hpg
  have hpg : PgC C i 1 l (a ++ b) := hpg
  have p1 : pl i = 64 := pl_32 hi32
  have p3 := pl_33
  have hl := hk.2.2
  have hes : EsOk (a ++ (w, z) :: b) := by
    have := EsOk_app.mp hpg.2.1
    exact EsOk_app.mpr ⟨this.1, EsOk_cons.mpr ⟨⟨hw1, hl.1, hl.2, hz⟩, this.2⟩⟩
  have hsz : szs (a ++ b) ≤ 61 := by have := (ho i hi32).2.1; rw [hp] at this; exact this
  have hsz2 : szs (a ++ (w, z) :: b) ≤ 71 := by rw [szs_app] at hsz ⊢; rw [szs_cons]; have := hl.1; show _ + (w.length + 2 + _) ≤ _; omega
  have w1 : PgC (stP C 33 (enc 1 l (a ++ b))) 33 1 l (a ++ b) := PgC_st hpg.2.1 (by omega) hpg.2.2.2.1 hpg.2.2.2.2
  have w2 : PgC (stP C 33 (enc 1 l (a ++ (w, z) :: b))) 33 1 l (a ++ (w, z) :: b) := PgC_st hes (by omega) hpg.2.2.2.1 hpg.2.2.2.2
  have k1 : KyC (stP C 33 (enc 1 l (a ++ b))) 1 w := KC_st hk (by omega)
  obtain ⟨C', r1, r2, r3, r4, r5, r6, r7⟩ := sp_splitL ho (TC_w (i := 33) (g := enc 1 l (a ++ (w, z) :: b)) hT (by omega)) hi32 hq (by rw [hp]) w2 he hh hc hx hy
  rw [hp] at r2
  refine ⟨C', ?_, r2, r3, Fc_tr (Fc_st Fc_refl) r4, ?_, ?_, ?_⟩
  · rw [f_X0_insertUpward_16, fLt (by omega), sp_pageOn hw hL32 ht (by omega) h5, hi, bd_some, sp_copy (by omega) hpg, bd_some, sp_insert w1 k1 (by omega) h3 (by omega), bd_some, stP_stP, sp_used w2 (by omega), bd_some, tLt (by omega), r1, bd_some, sp_slotOn (t := t) (by omega) h5, bd_some, r4 _ _ (by omega) (by omega), stP_k (by omega), h5]
  · rw [r5, stP_k (by omega)]
  · rw [r6, stP_k (by omega)]
  · rw [r7, stP_k (by omega)]
/-- .. an inner one is split -/
theorem sp_inI {K : Int → Int → Int → Mem → Option (Mem × Int)} {n t : Nat} (ho : TOk P) (hT : TC C P) (hw : WayC C L W T) (hL32 : L ≤ 32) (ht : t < L) (hi : W t = i) (hi32 : i < 32) (hp : P i = (2, l, a ++ b)) (hk : KyC C 1 w) (hw1 : 1 ≤ w.length) {z v3 v5 : Int} (hz : 0 ≤ z ∧ z ≤ 255) (h3 : v3 = (a.length : Int)) (h5 : v5 = (t : Int)) (hfz : 61 < szs (a ++ (w, z) :: b)) (hq : IsLF P q) (he : a ++ (w, z) :: b = x ++ v :: y) (hh : hf (a ++ (w, z) :: b) = x.length) (hx : szs x ≤ 61) (hy : szs y ≤ 61) : ∃ C', f_X0_insertUpward_16 K (n + 1) v3 z v5 C = f_X0_insertUpward_16 K n (C 22 t) (q : Int) ((t : Int) + -1) C' ∧ TC C' (uP (uP P i (2, l, x)) q (2, v.2, y)) ∧ KyC C' 1 v.1 ∧ Fc C C' ∧ C' 2 4 = C 2 4 + 1 ∧ C' 2 5 = C 2 5 ∧ C' 2 6 = C 2 6 := by
  have hpg := TC_pg ho hT hi32
  rw [hp] at hpg
  have hpg : PgC C i 2 l (a ++ b) := hpg
  have p1 : pl i = 64 := pl_32 hi32
  have p3 := pl_33
  have hl := hk.2.2
  have hes : EsOk (a ++ (w, z) :: b) := by
    have := EsOk_app.mp hpg.2.1
    exact EsOk_app.mpr ⟨this.1, EsOk_cons.mpr ⟨⟨hw1, hl.1, hl.2, hz⟩, this.2⟩⟩
  have hsz : szs (a ++ b) ≤ 61 := by have := (ho i hi32).2.1; rw [hp] at this; exact this
  have hsz2 : szs (a ++ (w, z) :: b) ≤ 71 := by rw [szs_app] at hsz ⊢; rw [szs_cons]; have := hl.1; show _ + (w.length + 2 + _) ≤ _; omega
  have w1 : PgC (stP C 33 (enc 2 l (a ++ b))) 33 2 l (a ++ b) := PgC_st hpg.2.1 (by omega) hpg.2.2.2.1 hpg.2.2.2.2
  have w2 : PgC (stP C 33 (enc 2 l (a ++ (w, z) :: b))) 33 2 l (a ++ (w, z) :: b) := PgC_st hes (by omega) hpg.2.2.2.1 hpg.2.2.2.2
  have k1 : KyC (stP C 33 (enc 2 l (a ++ b))) 1 w := KC_st hk (by omega)
  obtain ⟨C', r1, r2, r3, r4, r5, r6, r7⟩ := sp_splitI ho (TC_w (i := 33) (g := enc 2 l (a ++ (w, z) :: b)) hT (by omega)) hi32 hq (by rw [hp]) w2 he hh hx hy
  rw [hp] at r2
  refine ⟨C', ?_, r2, r3, Fc_tr (Fc_st Fc_refl) r4, ?_, ?_, ?_⟩
  · rw [f_X0_insertUpward_16, fLt (by omega), sp_pageOn hw hL32 ht (by omega) h5, hi, bd_some, sp_copy (by omega) hpg, bd_some, sp_insert w1 k1 (by omega) h3 (by omega), bd_some, stP_stP, sp_used w2 (by omega), bd_some, tLt (by omega), r1, bd_some, sp_slotOn (t := t) (by omega) h5, bd_some, r4 _ _ (by omega) (by omega), stP_k (by omega), h5]
  · rw [r5, stP_k (by omega)]
  · rw [r6, stP_k (by omega)]
  · rw [r7, stP_k (by omega)]
end CH

/-! PUT, whole. -/
section PK
variable {C C' X X' : Mem} {P P' : Nat → Pg} {L n t i j q root k : Nat} {V V' : Nat → List Ent} {lvl lvl' : Nat → Nat} {A B R S a b x y es : List Ent} {e f u v : Ent} {s s2 w : List Int} {r l l1 l2 z c1 c2 c3 : Int} {p : Pg} {W T : Nat → Nat} {As Bs : Nat → List Ent} {ss : Nat → List Int}
theorem enc_set {tl : Int} : enc s2.length l (a ++ (e.1, tl) :: b) j = enc s2.length l (a ++ (e.1, tl) :: b) j := rfl
theorem enc_sett {s l tl : Int} {j : Nat} (h1 : j ≠ 3 + szs a + 1 + e.1.length) : enc s l (a ++ (e.1, tl) :: b) j = enc s l (a ++ e :: b) j := by
  by_cases hlo : j < 3 + szs a ∧ j ≠ 1
  · rw [enc_lo hlo.1 hlo.2, enc_lo hlo.1 hlo.2]
  · by_cases hj1 : j = 1
    · subst hj1
      rw [enc_1, enc_1]; simp
    · rw [enc_hi (by omega), enc_hi (by omega), flat_cons, flat_cons]
      by_cases h3 : j - 3 - szs a < e.1.length + 2
      · rw [gd_l (by rw [e1_len]; exact h3), gd_l (by rw [e1_len]; omega)]
        by_cases h4 : j - 3 - szs a = 0
        · rw [h4]; rfl
        · rw [show j - 3 - szs a = 1 + (j - 3 - szs a - 1) by omega, e1_l _ (by show _ < e.1.length; omega), e1_l _ (by omega)]
      · rw [gd_r (by rw [e1_len]; show e.1.length + 2 ≤ _; omega), gd_r (by rw [e1_len]; omega), e1_len, e1_len]
theorem TX_tell (hT : TX X P) (hi : i < 32) (hp : P i = (r, l, a ++ e :: b)) (hz : szs (a ++ e :: b) ≤ 61) : TX (up X 96 (64 * i + (3 + szs a + 1 + e.1.length)) z) (uP P i (r, l, a ++ (e.1, z) :: b)) := by
  rw [szs_app, szs_cons] at hz
  intro c hc d hd
  by_cases hci : c = i
  · subst hci
    rw [uP_s]
    by_cases hd2 : d = 3 + szs a + 1 + e.1.length
    · rw [hd2, up_same]
      exact (enc_tail (e := (e.1, z)) rfl).symm
    · rw [up_j (by omega), hT c hc d hd, hp]
      exact (enc_sett hd2).symm
  · rw [up_j (by omega), uP_o hci]
    exact hT c hc d hd
/-- a leaf's entries are others, the rows of pages the same -/
theorem good_leaf (hg : Good P root L V lvl) (ht : t + 1 = L) (hv : V t = A ++ (s, (i : Int)) :: B) (hl : l = (P i).2.1) (hp : POk (1, l, es)) (hpw : (lfs P A ++ (s, 0) :: (es.map k1 ++ lfs P B)).Pairwise lt2) : Good (uP P i (1, l, es)) root L V lvl := by
  obtain ⟨hcore, h0, heq, hL1, hL32, hr, hroot⟩ := hg
  have hi := Core_sort hcore (n := t) (s := s) (i := i) (by omega) (by rw [hv]; simp)
  refine ⟨core_lf hcore ht hv hl hp hpw, h0, ?_, hL1, hL32, hr, ?_⟩
  · intro n hn
    rw [heq n hn, exp_lv hcore (by omega) (by omega)]
  · intro h
    have : root ≠ i := by
      intro he
      have h1 := Core_sort hcore (n := 0) (i := root) (s := []) (by omega) (by rw [h0]; simp)
      rw [he] at h1
      omega
    rw [uP_o this]
    exact hroot h
/-- what is known before a key comes into its leaf -/
theorem leaf_new (hg : Good P root L V lvl) (hv : V (L - 1) = A ++ (s, (i : Int)) :: B) (hes : (P i).2.2 = a ++ b) (hs : cmp s w ≤ 0) (hB : Hgt w B) (ha : ∀ e ∈ a, cmp e.1 w < 0) (hb : ∀ e, b.head? = some e → cmp w e.1 < 0) : (lfs P A ++ (s, 0) :: ((a ++ (w, z) :: b).map k1 ++ lfs P B)).Pairwise lt2 := by
  have := hg.1.2.2.2.2.2
  rw [hv] at this
  exact pw_new this hes hs hB ha hb
theorem put_new {m : Nat} (hm : m + 1 = L) (hg : Good P root L V lvl) (hd : Down P w root L W T) (hpth : Pth P V W T As Bs ss (m)) (hcp : ∀ n, n < L → cmp (ss n) w ≤ 0 ∧ Hgt w (Bs n)) (hes : (P (W (m))).2.2 = a ++ b) (ha : ∀ e ∈ a, cmp e.1 w < 0) (hb : ∀ e, b.head? = some e → cmp w e.1 < 0) (hfree : L < nS P 0 32) (hw : LOk w) (hw1 : 1 ≤ w.length) (hz : 0 ≤ z ∧ z ≤ 255) (hRC : RC C P root L c1 c2 c3) (hWC : WayC C L W T) (hKC : KyC C 1 w) (hRX : RX X P root L c1 c2 c3) (hWX : WayX X L W T) (hRow : RowX X (a ++ (w, z) :: b)) {v3 : Int} (hv3 : v3 = (a.length : Int)) : FinA C X (f_X0_insertUpward_16 kCc FU v3 z (m : Int) C) (f_X8_putKey_104 kX FU (m : Int) ((W (m) : Nat) : Int) X) 0 (-9) := by
  have hfu : FU = 4999 + 1 := FU_eq
  have hg0 := hg
  obtain ⟨hcore, h0, heq, hL1, hL32, hr, hroot⟩ := hg
  have hnle := nS_le P 0 32
  have hvt := hpth.1 (m) (Nat.le_refl _)
  have hso := Core_sort hcore (n := m) (by omega) (show (ss (m), ((W (m) : Nat) : Int)) ∈ V (m) by rw [hvt]; simp)
  rw [if_pos (by omega)] at hso
  have hpi : P (W (m)) = (1, (P (W (m))).2.1, a ++ b) := by rw [← hes, ← hso.2.2]
  have hlink := (hcore.1 _ hso.1).2.2.2
  have hsz0 : szs (a ++ b) ≤ 61 := by have := (hcore.1 _ hso.1).2.1; rw [hes] at this; exact this
  have hsz1 := szs_1 (z := z) hw hsz0
  have heo : EsOk (a ++ (w, z) :: b) := hRow.2.2
  have h3 := len_szs3 _ heo
  have hpw := leaf_new (z := z) hg0 (by rw [show L - 1 = m by omega]; exact hvt) hes (hcp (m) (by omega)).1 (hcp (m) (by omega)).2 ha hb
  rw [hfu]
  by_cases hfit : szs (a ++ (w, z) :: b) ≤ 61
  · obtain ⟨C', f1, f2, f3, f4⟩ := sp_inFit (K := kCc) (n := 4999) hcore.1 hRC.1 hWC hL32 (t := m) (by omega) rfl hso.1 hpi (Or.inl rfl) hKC hw1 (z := z) (v3 := v3) (v5 := (m : Int)) hz hv3 rfl hfit
    have hpg := TX_pg hcore.1 hRX.1 hso.1
    have mk := mx_back (i := W (m)) (p := ((W (m) : Nat) : Int)) (s := 1) (l := (P (W (m))).2.1) (X := X) (x := []) (y := a ++ (w, z) :: b) (z := []) (q4 := 0) (q5 := X 95 6) hso.1 rfl (by rw [List.append_nil]; exact hRow.2.1) heo (by simpa using (show (a ++ (w, z) :: b).length ≤ 48 by omega)) hfit (by rfl) (by rw [hRow.1]; simp)
    have hmod : f_X8_putKey_104 kX (4999 + 1) (m : Int) ((W (m) : Nat) : Int) X = some (stX X (W (m)) (enc 1 (P (W (m))).2.1 (a ++ (w, z) :: b)), -9) := by
      rw [mx_inFit hRow (by omega) hfit]
      unfold kX
      rw [mx_0 hpg rfl, bd_some, mx_2 hpg rfl, bd_some, hso.2.2, mk, bd_some]
    have hpok : POk (1, (P (W (m))).2.1, a ++ (w, z) :: b) := ⟨heo, hfit, by show (0 : Int) ≤ 1 ∧ (1 : Int) ≤ 2; omega, hlink⟩
    have hgd := good_leaf hg0 (t := m) (by omega) hvt rfl hpok hpw
    have hfx : Fx X (stX X (W (m)) (enc 1 (P (W (m))).2.1 (a ++ (w, z) :: b))) := Fx_st Fx_refl
    refine ⟨C', _, _, root, L, c1, c2, c3, f1, hmod, RC_Fc hRC f3 f2 ?_ ?_ ?_, RX_Fx hRX hfx (TX_st (pg := (1, (P (W (m))).2.1, a ++ (w, z) :: b)) hRX.1 ⟨rfl, rfl, rfl⟩) ?_ ?_ ?_, ⟨_, _, hgd⟩, Fc_KpC f3, Fx_KpX hfx⟩
    · rw [f4]; exact hRC.2.2.2.1
    · rw [f4]; exact hRC.2.2.2.2.1
    · rw [f4]; exact hRC.2.2.2.2.2
    · rw [stX_k (by omega)]; exact hRX.2.2.2.1
    · rw [stX_k (by omega)]; exact hRX.2.2.2.2.1
    · rw [stX_k (by omega)]; exact hRX.2.2.2.2.2
  · obtain ⟨x', u, v, y, e1, e2, e3, e4, e5⟩ := hf_split heo (by omega)
    have e6 : szs (a ++ (w, z) :: b) = szs (x' ++ [u]) + szs (v :: y) := by rw [e1, szs_app]
    have heo2 := heo
    rw [e1] at heo2
    have ev := EsOk_mid heo2
    have ex := (EsOk_app.mp heo2).1
    have ey := (EsOk_app.mp heo2).2
    rw [e1] at hpw
    have hpw1 : ((lfs P (As (m)) ++ [(ss (m), 0)]) ++ ((x' ++ [u]) ++ v :: y).map k1 ++ lfs P (Bs (m))).Pairwise lt2 := by
      have : (lfs P (As (m)) ++ [(ss (m), 0)]) ++ ((x' ++ [u]) ++ v :: y).map k1 ++ lfs P (Bs (m)) = lfs P (As (m)) ++ (ss (m), 0) :: (((x' ++ [u]) ++ v :: y).map k1 ++ lfs P (Bs (m))) := by simp
      rw [this]; exact hpw
    obtain ⟨hc, hpw2⟩ := pw_part hpw1
    have hpw3 : (lfs P (As (m)) ++ (ss (m), 0) :: ((x' ++ [u]).map k1 ++ (sep u.1 v.1, 0) :: ((v :: y).map k1 ++ lfs P (Bs (m))))).Pairwise lt2 := by
      have : (lfs P (As (m)) ++ [(ss (m), 0)]) ++ ((x' ++ [u]).map k1 ++ (sep u.1 v.1, 0) :: ((v :: y).map k1 ++ lfs P (Bs (m)))) = lfs P (As (m)) ++ (ss (m), 0) :: ((x' ++ [u]).map k1 ++ (sep u.1 v.1, 0) :: ((v :: y).map k1 ++ lfs P (Bs (m)))) := by simp
      rw [← this]; exact hpw2
    obtain ⟨q, hq⟩ := lf_ex (P := P) (by omega)
    have hq0 := hq.2.1
    have hq32 := hq.1
    obtain ⟨C1, f1, f2, f3, f4, f5, f6, f7⟩ := sp_inL (K := kCc) (n := 4999) hcore.1 hRC.1 hWC hL32 (t := m) (by omega) rfl hso.1 hpi hKC hw1 (z := z) (v3 := v3) (v5 := (m : Int)) hz hv3 rfl (by omega) hq e1 e2 hc (by omega) (by omega)
    obtain ⟨X1, g1, g2, g3, g4, g5, g6, g7⟩ := mx_inL (K := kX) (n := 4999) hcore.1 hRX.1 hRow hso.1 hpi (by omega) (by omega) (by omega) hq e1 e2 hc (by omega) (by omega) (v2 := (m : Int)) (v3 := ((W (m) : Nat) : Int)) rfl (by omega)
    have hp1 : POk (1, (q : Int) + 1, x' ++ [u]) := ⟨ex, by show szs (x' ++ [u]) ≤ 61; omega, by show (0 : Int) ≤ 1 ∧ (1 : Int) ≤ 2; omega, by show (0 : Int) ≤ (q : Int) + 1 ∧ (q : Int) + 1 ≤ 255; omega⟩
    have hp2 : POk (1, (P (W (m))).2.1, v :: y) := ⟨ey, by show szs (v :: y) ≤ 61; omega, by show (0 : Int) ≤ 1 ∧ (1 : Int) ≤ 2; omega, hlink⟩
    have hcore' := core_spL (s2 := sep u.1 v.1) hcore (t := m) (by omega) hvt hq0 hq32 hp1 hp2 hpw3
    have hiq : W (m) ≠ q := by intro h; rw [h, hq0] at hso; omega
    have hsl := sep_LOk (u := u.1) (EOk_L ev)
    have hsl1 := sep_pos hc
    have hRC1 : RC C1 (uP (uP P (W (m)) (1, (q : Int) + 1, x' ++ [u])) q (1, (P (W (m))).2.1, v :: y)) root L (c1 + 1) c2 c3 := RC_Fc hRC f4 f2 (by rw [f5, hRC.2.2.2.1]) (by rw [f6, hRC.2.2.2.2.1]) (by rw [f7, hRC.2.2.2.2.2])
    have hRX1 : RX X1 (uP (uP P (W (m)) (1, (q : Int) + 1, x' ++ [u])) q (1, (P (W (m))).2.1, v :: y)) root L c1 c2 c3 := RX_Fx hRX g3 g1 (by rw [g4, hRX.2.2.2.1]) (by rw [g5, hRX.2.2.2.2.1]) (by rw [g6, hRX.2.2.2.2.2])
    have hnS : L ≤ nS (uP (uP P (W (m)) (1, (q : Int) + 1, x' ++ [u])) q (1, (P (W (m))).2.1, v :: y)) 0 32 := by
      have n1 := nS_u (P := P) (n := 32) (p := (1, (q : Int) + 1, x' ++ [u])) hso.1
      rw [if_neg (by rw [hso.2.2]; omega)] at n1
      have n2 := nS_u (P := uP P (W (m)) (1, (q : Int) + 1, x' ++ [u])) (n := 32) (p := (1, (P (W (m))).2.1, v :: y)) hq32
      split at n2 <;> omega
    have hup : ∀ n, n < m → ∀ e ∈ V n, uP (uP P (W (m)) (1, (q : Int) + 1, x' ++ [u])) q (1, (P (W (m))).2.1, v :: y) e.2.toNat = P e.2.toNat := by
      intro n hn e he
      have h1 := Core_free hcore hq0 (show n < L by omega) he
      obtain ⟨k, q1, q2, q3, q4⟩ := hcore.2.1 n (by omega) e he
      rw [uP_o (by omega), uP_o (by intro h; have : k = W (m) := by omega
                                    rw [this] at q3; omega)]
    cases m with
    | zero =>
      have hvt0 : V 0 = As 0 ++ (ss 0, ((W 0 : Nat) : Int)) :: Bs 0 := hvt
      rw [h0] at hvt0
      obtain ⟨s1, s2, s3⟩ := single hvt0
      have s2a : ss 0 = [] := congrArg Prod.fst s2
      have hW0 : W 0 = root := hd.1
      rw [f1, g7, tEq (by omega)]
      show FinA C X (f_X0_insertUpward_16 kCc 4999 (C 22 0) (q : Int) (-1) C1) (bd (f_X8_newRoot ((W 0 : Nat) : Int) (q : Int) _) _) 0 (-9)
      rw [hW0]
      refine Fin_tr (Fc_KpC f4) (Fx_KpX g3) (put_root (C := C1) (X := X1) (n1 := 4998) (s2 := sep u.1 v.1) hcore' (by omega) (by omega) hr ?_ ?_ (by omega) hsl hsl1 hq32 hRC1 f3 hRX1 g2)
      · show uV V 0 (As 0 ++ (ss 0, ((W 0 : Nat) : Int)) :: (sep u.1 v.1, (q : Int)) :: Bs 0) 0 = _
        rw [uV_s, s1, s3, s2a, hW0]
        rfl
      · intro n hn
        omega
    | succ t =>
      obtain ⟨a', b', pre, d1, d2, d3, d4, d5⟩ := hpth.2 t (by omega)
      have hWt : ∀ n, n ≤ t → uP (uP P (W (t + 1)) (1, (q : Int) + 1, x' ++ [u])) q (1, (P (W (t + 1))).2.1, v :: y) (W n) = P (W n) := by
        intro n hn
        have := hup n (by omega) (ss n, ((W n : Nat) : Int)) (by rw [hpth.1 n (by omega)]; simp)
        simpa using this
      have hAs : ∀ n, n ≤ t → exp (uP (uP P (W (t + 1)) (1, (q : Int) + 1, x' ++ [u])) q (1, (P (W (t + 1))).2.1, v :: y)) (As n) = exp P (As n) := by
        intro n hn
        exact exp_c (fun e he => hup n (by omega) e (by rw [hpth.1 n (by omega)]; simp; exact Or.inl he))
      have hBs : ∀ n, n ≤ t → exp (uP (uP P (W (t + 1)) (1, (q : Int) + 1, x' ++ [u])) q (1, (P (W (t + 1))).2.1, v :: y)) (Bs n) = exp P (Bs n) := by
        intro n hn
        exact exp_c (fun e he => hup n (by omega) e (by rw [hpth.1 n (by omega)]; simp; exact Or.inr (Or.inr he)))
      have hsot := Core_sort hcore (n := t) (by omega) (show (ss t, ((W t : Nat) : Int)) ∈ V t by rw [hpth.1 t (by omega)]; simp)
      rw [if_neg (by omega)] at hsot
      have hpA : uP (uP P (W (t + 1)) (1, (q : Int) + 1, x' ++ [u])) q (1, (P (W (t + 1))).2.1, v :: y) (W t) = (2, (P (W t)).2.1, a' ++ b') := by
        rw [hWt t (by omega), ← d1, ← hsot.2.2]
      obtain ⟨X2, m1, m2, m3, m4, m5, m6, m7⟩ := mx_next (K := kX) (n := 4999) hcore'.1 hRX1.1 g2 hsl1 (WayX_Fx hWX g3) (t := t) (by omega) (by omega) rfl (hd.2.1 t (by omega)) hpA d2.symm (r := (q : Int)) (v2 := ((t + 1 : Nat) : Int) + -1) (by omega) (by omega)
      have hp2 : Pend C1 X2 (uP (uP P (W (t + 1)) (1, (q : Int) + 1, x' ++ [u])) q (1, (P (W (t + 1))).2.1, v :: y)) (uV V (t + 1) (As (t + 1) ++ (ss (t + 1), ((W (t + 1) : Nat) : Int)) :: (sep u.1 v.1, (q : Int)) :: Bs (t + 1))) (fun k => if k = q then t + 1 else lvl k) root L t W T As Bs ss a' b' (sep u.1 v.1) q (c1 + 1) c2 c3 := by
        refine ⟨hcore', by omega, by omega, hr, ?_, ?_, ⟨?_, ?_⟩, hd.1, hd.2.1, ?_, d2, ?_, by omega, hq32, hsl, hsl1, ?_, hRC1, WayC_Fc hWC f4, f3, RX_Fx hRX1 m4 m2 ?_ ?_ ?_, WayX_Fx (WayX_Fx hWX g3) m4, m3⟩
        · rw [uV_o (by omega)]; exact h0
        · intro n hn hnt
          rw [uV_o (by omega), uV_o (by omega), heq n hn]
          exact (exp_c (fun e he => hup n (by omega) e he)).symm
        · intro n hn
          rw [uV_o (by omega)]
          exact hpth.1 n (by omega)
        · intro n hn
          obtain ⟨a2, b2, pre2, g1, g2, g3, g4, g5⟩ := hpth.2 n (by omega)
          refine ⟨a2, b2, pre2, ?_, g2, ?_, ?_, ?_⟩
          · rw [hWt n (by omega)]; exact g1
          · rw [hWt n (by omega)]; exact g3
          · rw [hAs n (by omega)]; exact g4
          · rw [hBs n (by omega)]; exact g5
        · rw [hWt t (by omega)]; exact d1
        · rw [uV_s, hAs t (by omega), hBs t (by omega), hWt t (by omega), d4, d5]
          have : (ss t, (P (W t)).2.1) :: ((a' ++ (sep u.1 v.1, (q : Int)) :: b') ++ exp P (Bs t)) = ((ss t, (P (W t)).2.1) :: a') ++ (sep u.1 v.1, (q : Int)) :: (b' ++ exp P (Bs t)) := by simp
          rw [this, d3]
          simp
        · intro _
          have : uP (uP P (W (t + 1)) (1, (q : Int) + 1, x' ++ [u])) q (1, (P (W (t + 1))).2.1, v :: y) root = P root := by
            rw [← hd.1]; exact hWt 0 (by omega)
          rw [this]
          exact hroot (by omega)
        · rw [m5, hRX1.2.2.2.1]
        · rw [m6, hRX1.2.2.2.2.1]
        · rw [m7, hRX1.2.2.2.2.2]
      have hslot : C 22 (t + 1) = (T t : Int) := hWC.2 t (by omega)
      have ih := put_up t 4999 4999 C1 X2 _ _ _ a' b' (sep u.1 v.1) q (c1 + 1) (C 22 (t + 1)) (by omega) (by omega) hp2 hslot
      rw [f1, g7, fEq (by omega), ix_t (by omega), m1, show ((t + 1 : Nat) : Int) + -1 = (t : Int) by omega]
      exact Fin_tr (Fc_KpC f4) (KpX_tr (Fx_KpX g3) (Fx_KpX m4)) ih
end PK

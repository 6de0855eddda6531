/-! PUT a key: found, full, new. -/
section PQ
variable {C C' X X' : Mem} {P P' : Nat → Pg} {L n t i j q root k : Nat} {V V' : Nat → List Ent} {lvl lvl' : Nat → Nat} {A B R S a b x y es : List Ent} {e f u v : Ent} {s s2 w : List Int} {r l l1 l2 z c1 c2 c3 : Int} {p : Pg} {W T : Nat → Nat} {As Bs : Nat → List Ent} {ss : Nat → List Int}
/-- both have come down to the leaf of a key -/
theorem both_down (hg : Good P root L V lvl) (hRC : RC C P root L c1 c2 c3) (hRX : RX X P root L c1 c2 c3) (hKC : KyC C k w) (hk5 : k < 5) (hKX : KX X w) : ∃ C1 X1 W T As Bs ss m, m + 1 = L ∧ Down P w root L W T ∧ Pth P V W T As Bs ss m ∧ (∀ n, n < L → cmp (ss n) w ≤ 0 ∧ Hgt w (Bs n)) ∧ W m < 32 ∧ (P (W m)).1 = 1 ∧ f_X6_goDown k C = some (C1, 0) ∧ RC C1 P root L c1 c2 c3 ∧ WayC C1 L W T ∧ KyC C1 k w ∧ KpC C C1 ∧ f_X8_goesDown X = some (X1, 0) ∧ RX X1 P root L c1 c2 c3 ∧ WayX X1 L W T ∧ KX X1 w ∧ KpX X X1 := by
  obtain ⟨W, T, As, Bs, ss, hd, hpth, hcp⟩ := Good_way hg w
  obtain ⟨hcore, h0, heq, hL1, hL32, hr, hroot⟩ := hg
  obtain ⟨C1, g1, g2, g3⟩ := sp_down hcore.1 hRC.1 hRC.2.1 hRC.2.2.1 hL1 hL32 hKC hk5 hd
  obtain ⟨X1, x1, x2, x3⟩ := mx_down hcore.1 hRX.1 hRX.2.1 hRX.2.2.1 hL32 hKX hd
  obtain ⟨m, rfl⟩ : ∃ m, L = m + 1 := ⟨L - 1, by omega⟩
  have hvt := hpth.1 m (by omega)
  have hso := Core_sort hcore (n := m) (by omega) (show (ss m, ((W m : Nat) : Int)) ∈ V m by rw [hvt]; simp)
  rw [if_pos rfl] at hso
  refine ⟨C1, X1, W, T, As, Bs, ss, m, rfl, hd, hpth, hcp, hso.1, hso.2.2, g1, ⟨TC_fr hRC.1 (fun x y hx => g2 x y (by omega) (by omega)), ?_, ?_, ?_, ?_, ?_⟩, g3, ⟨?_, ?_, hKC.2.2⟩, ?_, x1, ⟨TX_fr hRX.1 (fun y => x2 _ y (by omega) (by omega)), ?_, ?_, ?_, ?_, ?_⟩, x3, ⟨?_, ?_, hKX.2.2⟩, ?_⟩
  · rw [g2 _ _ (by omega) (by omega)]; exact hRC.2.1
  · rw [g2 _ _ (by omega) (by omega)]; exact hRC.2.2.1
  · rw [g2 _ _ (by omega) (by omega)]; exact hRC.2.2.2.1
  · rw [g2 _ _ (by omega) (by omega)]; exact hRC.2.2.2.2.1
  · rw [g2 _ _ (by omega) (by omega)]; exact hRC.2.2.2.2.2
  · rw [g2 _ _ (by omega) (by omega)]; exact hKC.1
  · intro j hj; rw [g2 _ _ (by omega) (by omega)]; exact hKC.2.1 j hj
  · intro x y h1 h2 h3; exact g2 x y (by omega) (by omega)
  · rw [x2 _ _ (by omega) (by omega)]; exact hRX.2.1
  · rw [x2 _ _ (by omega) (by omega)]; exact hRX.2.2.1
  · rw [x2 _ _ (by omega) (by omega)]; exact hRX.2.2.2.1
  · rw [x2 _ _ (by omega) (by omega)]; exact hRX.2.2.2.2.1
  · rw [x2 _ _ (by omega) (by omega)]; exact hRX.2.2.2.2.2
  · rw [x2 _ _ (by omega) (by omega)]; exact hKX.1
  · intro j hj; rw [x2 _ _ (by omega) (by omega)]; exact hKX.2.1 j hj
  · intro x y h1; exact x2 x y (by omega) (by omega)
/-- where a key is, or comes in, in its leaf -/
theorem leaf_at (w : List Int) (es : List Ent) : ∃ a b, es = a ++ b ∧ a.length = cb 0 w es ∧ (∀ e ∈ a, cmp e.1 w < 0) ∧ ((∃ e b', b = e :: b' ∧ cmp e.1 w = 0) ∨ (∀ e, b.head? = some e → cmp w e.1 < 0 ∧ cmp e.1 w ≠ 0)) := by
  have h := cb_spec 0 w es
  refine ⟨es.take (cb 0 w es), es.drop (cb 0 w es), (List.take_append_drop _ _).symm, ?_, h.1, ?_⟩
  · rw [List.length_take]
    have := cb_le 0 w es
    omega
  · cases hb : es.drop (cb 0 w es) with
    | nil => exact Or.inr (fun e he => by simp at he)
    | cons e b' =>
      by_cases h0 : cmp e.1 w = 0
      · exact Or.inl ⟨e, b', rfl, h0⟩
      · refine Or.inr ?_
        intro x hx
        simp at hx
        subst hx
        have h1 := h.2 e (by rw [hb]; rfl)
        have h2 := cmp_anti w e.1
        exact ⟨by omega, h0⟩
theorem put_key (hgs : GoodS P root L) (hRC : RC C P root L c1 c2 c3) (hRX : RX X P root L c1 c2 c3) (hKC : KyC C k w) (hk5 : k < 5) (hk1 : k ≠ 1) (hKX : KX X w) (hw1 : 1 ≤ w.length) (hz : 0 ≤ z ∧ z ≤ 255) : ∃ y, -9 ≤ y ∧ y ≤ 255 ∧ FinA C X (f_X0_putKey k z C) (f_X8_putKey z X) y y := by
  obtain ⟨V, lvl, hg⟩ := hgs
  obtain ⟨C1, X1, W, T, As, Bs, ss, m, hm, hd, hpth, hcp, hi32, hi1, g1, hRC1, hWC, hKC1, hkc, x1, hRX1, hWX, hKX1, hkx⟩ := both_down hg hRC hRX hKC hk5 hKX
  have hg0 := hg
  obtain ⟨hcore, h0, heq, hL1, hL32, hr, hroot⟩ := hg
  have hvt := hpth.1 m (Nat.le_refl _)
  obtain ⟨a, b, hes, hal, ha, hb⟩ := leaf_at w (P (W m)).2.2
  have hpC := TC_pg hcore.1 hRC1.1 hi32
  have hpX := TX_pg hcore.1 hRX1.1 hi32
  have hlink := (hcore.1 _ hi32).2.2.2
  have hsz : szs (P (W m)).2.2 ≤ 61 := (hcore.1 _ hi32).2.1
  have hpi : P (W m) = (1, (P (W m)).2.1, a ++ b) := by rw [← hes, ← hi1]
  have hpC' : PgC C1 (W m) 1 (P (W m)).2.1 (a ++ b) := by rw [hpi] at hpC; exact hpC
  have hpX' : PgX X1 (W m) 1 (P (W m)).2.1 (a ++ b) := by rw [hpi] at hpX; exact hpX
  have hpo := sp_pageOn hWC hL32 (t := m) (by omega) hi32 (z := (L : Int) - 1) (by omega)
  have hbl := sp_below (t := 0) (Or.inl rfl) hpC' hKC1
  have hpl := mx_place (p := ((W m : Nat) : Int)) hpX' rfl hKX1
  rw [hes] at hal
  rw [← hal] at hbl hpl
  have hway : X1 102 ((L : Int) - 1).toNat = ((W m : Nat) : Int) := by rw [show ((L : Int) - 1).toNat = m by omega]; exact hWX.1 m (by omega)
  have preC : f_X0_putKey k z C = (bd (f_X4_isEntry (W m) (a.length : Int) k C1) (fun C37 r37 => (cEq (r37) 0 (bd (f_X6_pagesOfSort (0) C37) (fun C66 r66 => (cLt (C66 1 5) (r66) (bd (f_X3_copyFrom 1 k C66) (fun C87 _ => (bd (f_X0_insertUpward (a.length : Int) (z) C87) (fun C94 _ => (some (C94, -9)))))) (some (C66, -3))))) (bd (f_X4_tail (W m) (a.length : Int) C37) (fun C46 r46 => (bd (f_X4_setTail (W m) (a.length : Int) (z) C46) (fun C55 _ => (some (C55, r46))))))))) := by
    unfold f_X0_putKey
    rw [g1, bd_some, hRC1.2.2.1, hpo, bd_some, hbl, bd_some]
  have preX : f_X8_putKey z X = (bd (f_X8_isAt ((W m : Nat) : Int) (a.length : Int) X1) (fun C29 r29 => (cEq (r29) 0 (bd (f_X8_freeMany C29) (fun C66 r66 => (cLt (C66 95 2) (r66) (bd (f_X8_comeOut ((W m : Nat) : Int) (up C66 95 6 (0))) (fun C86 _ => (bd (f_X8_comesIn (a.length : Int) 1 (C86 95 12) (z) C86) (fun C101 _ => (f_X8_putKey_104 kX FU ((L : Int) - 1) ((W m : Nat) : Int) C101))))) (some (C66, -3))))) (bd (f_X8_tellAt ((W m : Nat) : Int) (a.length : Int) C29) (fun C43 r43 => (ix (r43) 2048 (bd (f_X8_tellAt ((W m : Nat) : Int) (a.length : Int) C43) (fun C57 r57 => (ix (r57) 2048 (some ((up C57 (96) (r57).toNat (z)), C43 (96) (r43).toNat)))))))))))  := by
    unfold f_X8_putKey
    rw [x1, bd_some, hRX1.2.2.1, ix_t (by omega), hway, hpl, bd_some]
    rfl
  rcases hb with ⟨e, b', hb1, hb2⟩ | hb
  · -- it is there
    rw [hb1] at hpC' hpX' hes
    have heo := (hcore.1 _ hi32).1
    rw [hes] at heo hsz
    have he := EsOk_mid heo
    have hzz := hsz
    rw [szs_app, szs_cons] at hzz
    have hpi2 : P (W m) = (1, (P (W m)).2.1, a ++ e :: b') := by rw [← hes, ← hi1]
    have hsz2 : szs (a ++ (e.1, z) :: b') ≤ 61 := by rw [szs_app, szs_cons]; exact hzz
    have heo2 : EsOk (a ++ (e.1, z) :: b') := by
      have h1 := EsOk_app.mp heo
      have h2 := EsOk_cons.mp h1.2
      exact EsOk_app.mpr ⟨h1.1, EsOk_cons.mpr ⟨⟨he.1, he.2.1, he.2.2.1, hz⟩, h2.2⟩⟩
    refine ⟨e.2, by have := he.2.2.2; omega, he.2.2.2.2, Fin_tr hkc hkx ?_⟩
    have hpok : POk (1, (P (W m)).2.1, a ++ (e.1, z) :: b') := ⟨heo2, hsz2, by show (0 : Int) ≤ 1 ∧ (1 : Int) ≤ 2; omega, hlink⟩
    have hpw : (lfs P (As m) ++ (ss m, 0) :: ((a ++ (e.1, z) :: b').map k1 ++ lfs P (Bs m))).Pairwise lt2 := by
      have h1 := hcore.2.2.2.2.2
      rw [show L - 1 = m by omega, hvt, lfs_mid, hes] at h1
      have h2 : (a ++ (e.1, z) :: b').map k1 = (a ++ e :: b').map k1 := by simp [k1]
      rw [h2]; exact h1
    have hgd := good_leaf hg0 hm hvt rfl hpok hpw
    have hfc : Fc C1 (stP C1 (W m) (enc 1 (P (W m)).2.1 (a ++ (e.1, z) :: b'))) := Fc_st Fc_refl
    have hfx : Fx X1 (up X1 96 (64 * W m + (3 + szs a + 1 + e.1.length)) z) := fun c d q1 _ _ _ _ _ => up_k q1
    have hv96 : X1 96 (64 * W m + (3 + szs a + 1 + e.1.length)) = e.2 := by
      rw [hpX'.1 _ (by omega), enc_tail rfl]
    refine ⟨_, _, _, root, L, c1, c2, c3, ?_, ?_, RC_Fc hRC1 hfc (TC_st (p := (1, (P (W m)).2.1, a ++ (e.1, z) :: b')) hRC1.1 hi32 ⟨rfl, rfl, rfl⟩) ?_ ?_ ?_, RX_Fx hRX1 hfx (TX_tell hRX1.1 hi32 hpi2 hsz) ?_ ?_ ?_, ⟨_, _, hgd⟩, Fc_KpC hfc, Fx_KpX hfx⟩
    · rw [preC, sp_isEntry hpC' hKC1 rfl, bd_some, if_pos hb2, fEq (by omega), sp_tail hpC' rfl, bd_some, sp_setTail hpC' rfl, bd_some]
    · rw [preX, mx_isAt hpX' rfl hKX1 rfl, bd_some, if_pos hb2, fEq (by omega), mx_tell hpX' rfl rfl, bd_some, ix_t (by omega), mx_tell hpX' rfl rfl, bd_some, ix_t (by omega), nat2 rfl, hv96]
    · rw [stP_k (by omega)]; exact hRC1.2.2.2.1
    · rw [stP_k (by omega)]; exact hRC1.2.2.2.2.1
    · rw [stP_k (by omega)]; exact hRC1.2.2.2.2.2
    · rw [up_k (by omega)]; exact hRX1.2.2.2.1
    · rw [up_k (by omega)]; exact hRX1.2.2.2.2.1
    · rw [up_k (by omega)]; exact hRX1.2.2.2.2.2
  · have hisC : f_X4_isEntry (W m) (a.length : Int) k C1 = some (C1, 0) := by
      cases b with
      | nil =>
        rw [List.append_nil] at hpC'
        exact sp_isEntry_end hpC' rfl
      | cons e b' =>
        rw [sp_isEntry hpC' hKC1 rfl, if_neg (hb e rfl).2]
    have hisX : f_X8_isAt ((W m : Nat) : Int) (a.length : Int) X1 = some (X1, 0) := by
      cases b with
      | nil =>
        rw [List.append_nil] at hpX'
        exact mx_isAt_end hpX' rfl rfl
      | cons e b' =>
        rw [mx_isAt hpX' rfl hKX1 rfl, if_neg (hb e rfl).2]
    have hnle := nS_le P 0 32
    by_cases hfree : L < nS P 0 32
    · -- it is new
      refine ⟨-9, by omega, by omega, Fin_tr hkc hkx ?_⟩
      have hkk : KyC (stK C1 1 w) 1 w := stK_KC hKC.2.2
      have hfk : Fk C1 (stK C1 1 w) := Fk_stK (by omega)
      have hRC2 : RC (stK C1 1 w) P root L c1 c2 c3 := RC_Fc hRC1 (Fk_Fc hfk) (Fk_TC hRC1.1 hfk) (by rw [hfk _ _ (by omega)]; exact hRC1.2.2.2.1) (by rw [hfk _ _ (by omega)]; exact hRC1.2.2.2.2.1) (by rw [hfk _ _ (by omega)]; exact hRC1.2.2.2.2.2)
      obtain ⟨X2, o1, o2, o3⟩ := mx_out0 hpX' (p := ((W m : Nat) : Int)) rfl
      have hKX2 : KX X2 w := ⟨by rw [o3 _ _ (by omega) (by omega) (by omega) (by omega)]; exact hKX1.1, fun j hj => by rw [o3 _ _ (by omega) (by omega) (by omega) (by omega)]; exact hKX1.2.1 j hj, hKX1.2.2⟩
      have hlen := PgX_len hpX'
      obtain ⟨X3, n1, n2, n3⟩ := mx_in (c := 1) (w := w) (t := z) o2 hKX2.2.1 hKX.2.2 hw1 (by omega) (by omega) (q := (a.length : Int)) (n := (w.length : Int)) rfl rfl hz
      have hF := Fro_tr o3 n3
      have hRX3 : RX X3 P root L c1 c2 c3 := RX_Fx hRX1 (Fro_Fx hF) (Fro_TX hRX1.1 hF) (by rw [hF _ _ (by omega) (by omega) (by omega) (by omega)]; exact hRX1.2.2.2.1) (by rw [hF _ _ (by omega) (by omega) (by omega) (by omega)]; exact hRX1.2.2.2.2.1) (by rw [hF _ _ (by omega) (by omega) (by omega) (by omega)]; exact hRX1.2.2.2.2.2)
      have fin := put_new (v3 := (a.length : Int)) (z := z) hm hg0 hd hpth hcp hes ha (fun e he => (hb e he).1) hfree hKC.2.2 hw1 hz hRC2 (WayC_Fc hWC (Fk_Fc hfk)) hkk hRX3 (WayX_Fx hWX (Fro_Fx hF)) n2 rfl
      obtain ⟨C', X', P', root', L', d1, d2, d3, q1, q2, q3, q4, q5, q6, q7⟩ := fin
      refine ⟨C', X', P', root', L', d1, d2, d3, ?_, ?_, q3, q4, q5, KpC_tr (Fc_KpC (Fk_Fc hfk)) q6, KpX_tr (Fx_KpX (Fro_Fx hF)) q7⟩
      · rw [preC, hisC, bd_some, tEq (by omega), sp_pos hcore.1 hRC1.1 (by omega), bd_some, hRC1.2.2.1, tLt (by omega), sp_kcopy (by omega) hKC1, bd_some]
        unfold f_X0_insertUpward
        rw [hRC2.2.2.1, show ((L : Int) - 1) = (m : Int) by omega]
        have q1' := q1
        unfold kCc at q1'
        rw [q1', bd_some]
      · rw [preX, hisX, bd_some, tEq (by omega), mx_free hcore.1 hRX1.1, bd_some, hRX1.2.2.1, tLt (by omega), o1, bd_some, hKX2.1, n1, bd_some, show ((L : Int) - 1) = (m : Int) by omega]
        exact q2
    · -- full
      refine ⟨-3, by omega, by omega, Fin_tr hkc hkx ⟨C1, X1, P, root, L, c1, c2, c3, ?_, ?_, hRC1, hRX1, ⟨V, lvl, hg0⟩, KpC_refl, KpX_refl⟩⟩
      · rw [preC, hisC, bd_some, tEq (by omega), sp_pos hcore.1 hRC1.1 (by omega), bd_some, hRC1.2.2.1, fLt (by omega)]
      · rw [preX, hisX, bd_some, tEq (by omega), mx_free hcore.1 hRX1.1, bd_some, hRX1.2.2.1, fLt (by omega)]
end PQ

/-! TAKE a key. -/
section TQ
variable {C C' X X' : Mem} {P P' : Nat → Pg} {L n t i j q root k : Nat} {V V' : Nat → List Ent} {lvl lvl' : Nat → Nat} {A B R S a b x y es : List Ent} {e f u v : Ent} {s s2 w : List Int} {r l l1 l2 z c1 c2 c3 : Int} {p : Pg} {W T : Nat → Nat} {As Bs : Nat → List Ent} {ss : Nat → List Int}
theorem take_key (hgs : GoodS P root L) (hRC : RC C P root L c1 c2 c3) (hRX : RX X P root L c1 c2 c3) (hKC : KyC C k w) (hk5 : k < 5) (hKX : KX X w) : ∃ y, -9 ≤ y ∧ y ≤ 255 ∧ FinA C X (f_X0_takeKey k C) (f_X8_takeKey X) y y := by
  obtain ⟨V, lvl, hg⟩ := hgs
  obtain ⟨C1, X1, W, T, As, Bs, ss, m, hm, hd, hpth, hcp, hi32, hi1, g1, hRC1, hWC, hKC1, hkc, x1, hRX1, hWX, hKX1, hkx⟩ := both_down hg hRC hRX hKC hk5 hKX
  have hg0 := hg
  have hfu := FU_eq
  obtain ⟨hcore, h0, heq, hL1, hL32, hr, hroot⟩ := hg
  have hvt := hpth.1 m (Nat.le_refl _)
  obtain ⟨a, b, hes, hal, ha, hb⟩ := leaf_at w (P (W m)).2.2
  have hpC := TC_pg hcore.1 hRC1.1 hi32
  have hpX := TX_pg hcore.1 hRX1.1 hi32
  have hlink := (hcore.1 _ hi32).2.2.2
  have hsz : szs (P (W m)).2.2 ≤ 61 := (hcore.1 _ hi32).2.1
  have hpi : P (W m) = (1, (P (W m)).2.1, a ++ b) := by rw [← hes, ← hi1]
  have hpC' : PgC C1 (W m) 1 (P (W m)).2.1 (a ++ b) := by rw [hpi] at hpC; exact hpC
  have hpX' : PgX X1 (W m) 1 (P (W m)).2.1 (a ++ b) := by rw [hpi] at hpX; exact hpX
  have hpo := sp_pageOn hWC hL32 (t := m) (by omega) hi32 (z := (L : Int) - 1) (by omega)
  have hbl := sp_below (t := 0) (Or.inl rfl) hpC' hKC1
  have hpl := mx_place (p := ((W m : Nat) : Int)) hpX' rfl hKX1
  rw [hes] at hal
  rw [← hal] at hbl hpl
  have hway : X1 102 ((L : Int) - 1).toNat = ((W m : Nat) : Int) := by rw [show ((L : Int) - 1).toNat = m by omega]; exact hWX.1 m (by omega)
  rcases hb with ⟨e, b', hb1, hb2⟩ | hb
  · rw [hb1] at hpC' hpX' hes
    have heo := (hcore.1 _ hi32).1
    rw [hes] at heo hsz
    have he := EsOk_mid heo
    have hzz := hsz
    rw [szs_app, szs_cons] at hzz
    have hlenX := PgX_len hpX'
    have h1 := EsOk_app.mp heo
    have h2 := EsOk_cons.mp h1.2
    have heo2 : EsOk (a ++ b') := EsOk_app.mpr ⟨h1.1, h2.2⟩
    have hsz2 : szs (a ++ b') ≤ 61 := by rw [szs_app]; omega
    refine ⟨e.2, by have := he.2.2.2; omega, he.2.2.2.2, Fin_tr hkc hkx ?_⟩
    have hpok : POk (1, (P (W m)).2.1, a ++ b') := ⟨heo2, hsz2, by show (0 : Int) ≤ 1 ∧ (1 : Int) ≤ 2; omega, hlink⟩
    have hpw : (lfs P (As m) ++ (ss m, 0) :: ((a ++ b').map k1 ++ lfs P (Bs m))).Pairwise lt2 := by
      have h3 := hcore.2.2.2.2.2
      rw [show L - 1 = m by omega, hvt, lfs_mid, hes] at h3
      have e3 : lfs P (As m) ++ (ss m, 0) :: ((a ++ e :: b').map k1 ++ lfs P (Bs m)) = (lfs P (As m) ++ (ss m, 0) :: a.map k1) ++ k1 e :: (b'.map k1 ++ lfs P (Bs m)) := by simp
      rw [e3] at h3
      have h4 := pw_del h3
      have e4 : lfs P (As m) ++ (ss m, 0) :: ((a ++ b').map k1 ++ lfs P (Bs m)) = (lfs P (As m) ++ (ss m, 0) :: a.map k1) ++ (b'.map k1 ++ lfs P (Bs m)) := by simp
      rw [e4]; exact h4
    have hgd := good_leaf hg0 hm hvt rfl hpok hpw
    -- the class
    have hfc : Fc C1 (stP C1 (W m) (enc 1 (P (W m)).2.1 (a ++ b'))) := Fc_st Fc_refl
    have hRC2 : RC (stP C1 (W m) (enc 1 (P (W m)).2.1 (a ++ b'))) (uP P (W m) (1, (P (W m)).2.1, a ++ b')) root L c1 c2 c3 := RC_Fc hRC1 hfc (TC_st (p := (1, (P (W m)).2.1, a ++ b')) hRC1.1 hi32 ⟨rfl, rfl, rfl⟩) (by rw [stP_k (by omega)]; exact hRC1.2.2.2.1) (by rw [stP_k (by omega)]; exact hRC1.2.2.2.2.1) (by rw [stP_k (by omega)]; exact hRC1.2.2.2.2.2)
    have preC : f_X0_takeKey k C = f_X0_takeKey_67 e.2 (tkC e.2) FU (m : Int) (stP C1 (W m) (enc 1 (P (W m)).2.1 (a ++ b'))) := by
      unfold f_X0_takeKey
      rw [g1, bd_some, hRC1.2.2.1, hpo, bd_some, hbl, bd_some, sp_isEntry hpC' hKC1 rfl, bd_some, if_pos hb2, fEq (by omega), sp_tail hpC' rfl, bd_some, sp_remove hpC' rfl, bd_some, hRC2.2.2.1, show ((L : Int) - 1) = (m : Int) by omega]
      rfl
    -- the model
    obtain ⟨X2, o1, o2, o3⟩ := mx_out0 hpX' (p := ((W m : Nat) : Int)) rfl
    obtain ⟨X3, n1, n2, n3⟩ := mx_go o2 (by omega) (q := (a.length : Int)) rfl
    have hF := Fro_tr o3 n3
    have hpX3 := Fro_PgX hpX' hF
    have hv96 : X1 96 (64 * W m + (3 + szs a + 1 + e.1.length)) = e.2 := by
      rw [hpX'.1 _ (by omega), enc_tail rfl]
    have mk := mx_back (i := W m) (p := ((W m : Nat) : Int)) (s := 1) (l := (P (W m)).2.1) (X := X3) (x := []) (y := a ++ b') (z := []) (q4 := 0) (q5 := X3 95 6) hi32 rfl (by rw [List.append_nil]; exact n2.2.1) heo2 (by simp at hlenX ⊢; omega) hsz2 (by rfl) (by rw [n2.1]; simp)
    have hfx : Fx X1 (stX X3 (W m) (enc 1 (P (W m)).2.1 (a ++ b'))) := Fx_st (Fro_Fx hF)
    have hRX2 : RX (stX X3 (W m) (enc 1 (P (W m)).2.1 (a ++ b'))) (uP P (W m) (1, (P (W m)).2.1, a ++ b')) root L c1 c2 c3 := RX_Fx hRX1 hfx (TX_st (pg := (1, (P (W m)).2.1, a ++ b')) (Fro_TX hRX1.1 hF) ⟨rfl, rfl, rfl⟩) (by rw [stX_k (by omega), hF _ _ (by omega) (by omega) (by omega) (by omega)]; exact hRX1.2.2.2.1) (by rw [stX_k (by omega), hF _ _ (by omega) (by omega) (by omega) (by omega)]; exact hRX1.2.2.2.2.1) (by rw [stX_k (by omega), hF _ _ (by omega) (by omega) (by omega) (by omega)]; exact hRX1.2.2.2.2.2)
    have preX : f_X8_takeKey X = f_X8_takeKey_81 e.2 (tkX e.2) FU (m : Int) (stX X3 (W m) (enc 1 (P (W m)).2.1 (a ++ b'))) := by
      unfold f_X8_takeKey
      rw [x1, bd_some, hRX1.2.2.1, ix_t (by omega), hway, hpl, bd_some, mx_isAt hpX' rfl hKX1 rfl, bd_some, if_pos hb2, fEq (by omega), mx_tell hpX' rfl rfl, bd_some, ix_t (by omega), nat2 rfl, hv96, o1, bd_some, n1, bd_some, mx_2 hpX3 rfl, bd_some, mk, bd_some, show ((L : Int) - 1) = (m : Int) by omega]
      rfl
    have hu : ∀ n, n < m → ∀ x ∈ V n, uP P (W m) (1, (P (W m)).2.1, a ++ b') x.2.toNat = P x.2.toNat := by
      intro n hn x hx
      have hso := Core_sort hcore (n := m) (by omega) (show (ss m, ((W m : Nat) : Int)) ∈ V m by rw [hvt]; simp)
      obtain ⟨k', q1, q2, q3, q4⟩ := hcore.2.1 n (by omega) x hx
      refine uP_o ?_
      intro hh
      have : k' = W m := by omega
      rw [this] at q3
      omega
    have hWt : ∀ n, n < m → uP P (W m) (1, (P (W m)).2.1, a ++ b') (W n) = P (W n) := by
      intro n hn
      have := hu n hn (ss n, ((W n : Nat) : Int)) (by rw [hpth.1 n (by omega)]; simp)
      simpa using this
    have hTk : Tk (stP C1 (W m) (enc 1 (P (W m)).2.1 (a ++ b'))) (stX X3 (W m) (enc 1 (P (W m)).2.1 (a ++ b'))) (uP P (W m) (1, (P (W m)).2.1, a ++ b')) V lvl root L m W T As Bs ss c1 c2 c3 := by
      refine ⟨⟨hgd.1, hgd.2.1, hgd.2.2.1, hgd.2.2.2.1, hgd.2.2.2.2.1, hgd.2.2.2.2.2.1⟩, by omega, ⟨fun n hn => hpth.1 n hn, ?_⟩, hd.1, hd.2.1, fun h => Or.inl (hgd.2.2.2.2.2.2 h), hRC2, WayC_Fc hWC hfc, hRX2, WayX_Fx hWX hfx⟩
      intro n hn
      obtain ⟨a2, b2, pre2, q1, q2, q3, q4, q5⟩ := hpth.2 n hn
      refine ⟨a2, b2, pre2, by rw [hWt n hn]; exact q1, q2, by rw [hWt n hn]; exact q3, ?_, ?_⟩
      · rw [exp_c (fun x hx => hu n hn x (by rw [hpth.1 n (by omega)]; simp; exact Or.inl hx))]; exact q4
      · rw [exp_c (fun x hx => hu n hn x (by rw [hpth.1 n (by omega)]; simp; exact Or.inr (Or.inr hx)))]; exact q5
    rw [preC, preX]
    exact Fin_tr (Fc_KpC hfc) (Fx_KpX hfx) (tk_loop m FU FU _ _ _ _ c2 c3 (by omega) (by omega) hTk)
  · have hisC : f_X4_isEntry (W m) (a.length : Int) k C1 = some (C1, 0) := by
      cases b with
      | nil =>
        rw [List.append_nil] at hpC'
        exact sp_isEntry_end hpC' rfl
      | cons e b' =>
        rw [sp_isEntry hpC' hKC1 rfl, if_neg (hb e rfl).2]
    have hisX : f_X8_isAt ((W m : Nat) : Int) (a.length : Int) X1 = some (X1, 0) := by
      cases b with
      | nil =>
        rw [List.append_nil] at hpX'
        exact mx_isAt_end hpX' rfl rfl
      | cons e b' =>
        rw [mx_isAt hpX' rfl hKX1 rfl, if_neg (hb e rfl).2]
    refine ⟨-9, by omega, by omega, Fin_tr hkc hkx ⟨C1, X1, P, root, L, c1, c2, c3, ?_, ?_, hRC1, hRX1, ⟨V, lvl, hg0⟩, KpC_refl, KpX_refl⟩⟩
    · unfold f_X0_takeKey
      rw [g1, bd_some, hRC1.2.2.1, hpo, bd_some, hbl, bd_some, hisC, bd_some, tEq (by omega)]
    · unfold f_X8_takeKey
      rw [x1, bd_some, hRX1.2.2.1, ix_t (by omega), hway, hpl, bd_some, hisX, bd_some, tEq (by omega)]
end TQ

/-! TAKE: class and model side by side. -/
def tkC (z : Int) : Int → Mem → Option (Mem × Int) := (fun (v5_e67 : Int) (C_e67 : Mem) => (cEq (v5_e67) 0 (bd (f_X0_lowerRoot C_e67) (fun C110 _ => (some (C110, z)))) (some (C_e67, z))))
def tkX (z : Int) : Int → Mem → Option (Mem × Int) := (fun (v1_e81 : Int) (C_e81 : Mem) => (bd (f_X8_at (C_e81 95 1) (0) C_e81) (fun C120 r120 => (cEq (r120) (2) (bd (f_X8_at (C120 95 1) (1) C120) (fun C133 r133 => (cEq (r133) 0 (bd (f_X8_at (C133 95 1) (2) C133) (fun C150 r150 => (bd (f_X8_clears (C133 95 1) (up C150 95 1 (r150))) (fun C159 _ => (some ((up C159 95 2 ((C159 95 2) - 1)), z)))))) (some (C133, z))))) (some (C120, z))))))
def Tk (C X : Mem) (P : Nat → Pg) (V : Nat → List Ent) (lvl : Nat → Nat) (root L t : Nat) (W T : Nat → Nat) (As Bs : Nat → List Ent) (ss : Nat → List Int) (c1 c2 c3 : Int) : Prop := Good0 P root L V lvl ∧ t < L ∧ Pth P V W T As Bs ss t ∧ W 0 = root ∧ (∀ n, n < L → W n < 32) ∧ (1 < L → (P root).2.2 ≠ [] ∨ (t = 0 ∧ (2 < L → (P (P root).2.1.toNat).2.2 ≠ []))) ∧ RC C P root L c1 c2 c3 ∧ WayC C L W T ∧ RX X P root L c1 c2 c3 ∧ WayX X L W T
section TK
variable {C C' X X' : Mem} {P P' : Nat → Pg} {L n t i j q root Ab : Nat} {V V' : Nat → List Ent} {lvl lvl' : Nat → Nat} {A B A1 B1 R S a b x y es le re ws a0 b0 pre : List Ent} {e f u v : Ent} {s s1 s2 s3 sA w sp : List Int} {r l l1 l2 z la ll lr sv c1 c2 c3 : Int} {p pi pj pA : Pg} {W T : Nat → Nat} {As Bs : Nat → List Ent} {ss : Nat → List Int}
theorem mx_keep {v1 : Int} (ho : TOk P) (hT : TX X P) (hR : X 95 1 = (root : Int)) (hr : root < 32) (hp : (P root).1 = 2 → (P root).2.2 ≠ []) : tkX z v1 X = some (X, z) := by
  have hpA := TX_pg ho hT hr
  have hs := (ho root hr).2.2.1
  unfold tkX
  rw [hR, mx_0 hpA rfl, bd_some]
  by_cases h2 : (P root).1 = 2
  · have hn := hp h2
    have hl := PgX_len hpA
    have : (P root).2.2.length ≠ 0 := fun h => hn (List.length_eq_zero_iff.mp h)
    rw [tEq (by omega), hR, mx_1 hpA rfl, bd_some, fEq (by omega)]
  · rw [fEq (by omega)]
theorem mx_lower {v1 : Int} (ho : TOk P) (hT : TX X P) (hR : X 95 1 = (root : Int)) (hr : root < 32) (hp : P root = (2, l, [])) : ∃ X', tkX z v1 X = some (X', z) ∧ TX X' (uP P root (0, 0, [])) ∧ X' 95 1 = l ∧ X' 95 2 = X 95 2 - 1 ∧ (∀ a b, a ≠ 96 → ¬ (a = 95 ∧ (b = 1 ∨ b = 2)) → X' a b = X a b) := by
  have hpA := TX_pg ho hT hr
  rw [hp] at hpA
  have hpA : PgX X root 2 l [] := hpA
  refine ⟨up (stX (up X 95 1 l) root (enc 0 0 [])) 95 2 (X 95 2 - 1), ?_, ?_, ?_, ?_, ?_⟩
  · unfold tkX
    rw [hR, mx_0 hpA rfl, bd_some, tEq (by omega), hR, mx_1 hpA rfl, bd_some, tEq (by simp), hR, mx_2 hpA rfl, bd_some, mx_clear hr rfl, bd_some, stX_k (by omega), up_j (by omega)]
  · exact TX_fr (TX_st (TX_fr hT (fun y => up_k (by omega))) ⟨rfl, rfl, rfl⟩) (fun y => up_k (by omega))
  · rw [up_j (by omega), stX_k (by omega), up_same]
  · rw [up_same]
  · intro a b h1 h2
    rw [up_ap, if_neg (by omega), stX_k h1, up_ap, if_neg (by omega)]
theorem Good_of (h : Good0 P root L V lvl) (h2 : 1 < L → (P root).2.2 ≠ []) : Good P root L V lvl := ⟨h.1, h.2.1, h.2.2.1, h.2.2.2.1, h.2.2.2.2.1, h.2.2.2.2.2, h2⟩
/-- the end, not at the root -/
theorem tk_endN {v : Nat} (hg : Good0 P root L V lvl) (hv : 0 < v) (hv2 : v < 32) (hn : (P root).2.2 ≠ []) (hRC : RC C P root L c1 c2 c3) (hRX : RX X P root L c1 c2 c3) : FinA C X (tkC z (v : Int) C) (tkX z (v : Int) X) z z := by
  refine ⟨C, X, P, root, L, c1, c2, c3, ?_, ?_, hRC, hRX, ⟨V, lvl, Good_of hg (fun _ => hn)⟩, KpC_refl, KpX_refl⟩
  · unfold tkC
    rw [fEq (by omega)]
  · exact mx_keep hg.1.1 hRX.1 hRX.2.1 hg.2.2.2.2.2 (fun _ => hn)
theorem tk_end0 (hP : Tk C X P V lvl root L 0 W T As Bs ss c1 c2 c3) : FinA C X (tkC z 0 C) (tkX z 0 X) z z := by
  obtain ⟨hg, ht, hpth, hW0, hW32, hroot, hRC, hWC, hRX, hWX⟩ := hP
  have hr := hg.2.2.2.2.2
  by_cases hlow : 1 < L ∧ (P root).2.2 = []
  · have hso := Core_sort hg.1 (n := 0) (i := root) (s := []) ht (by rw [hg.2.1]; simp)
    rw [if_neg (by omega)] at hso
    have hp : P root = (2, (P root).2.1, []) := by rw [← hlow.2, ← hso.2.2]
    obtain ⟨r', k1, k2, k3⟩ := good_lower hg hlow.1 hp
    obtain ⟨C', f1, f2, f3, f4, f5⟩ := sp_lower hg.1.1 hRC.1 hRC.2.1 hr hp
    obtain ⟨X', g1, g2, g3, g4, g5⟩ := mx_lower (z := z) (v1 := 0) hg.1.1 hRX.1 hRX.2.1 hr hp
    have hgood : GoodS (uP P root (0, 0, [])) r' (L - 1) := by
      refine ⟨_, _, Good_of k3 ?_⟩
      intro hL2
      rw [uP_o k2]
      rcases hroot hlow.1 with h1 | ⟨_, h1⟩
      · exact absurd hlow.2 h1
      · have := h1 (by omega)
        rw [k1] at this
        simpa using this
    refine ⟨C', X', _, r', L - 1, c1, c2, c3, ?_, g1, ⟨f2, by rw [f3, k1], ?_, ?_, ?_, ?_⟩, ⟨g2, by rw [g3, k1], ?_, ?_, ?_, ?_⟩, hgood, ?_, ?_⟩
    · unfold tkC
      rw [tEq (by omega), f1, bd_some]
    · rw [f4, hRC.2.2.1]; omega
    · rw [f5 _ _ (by omega) (by omega)]; exact hRC.2.2.2.1
    · rw [f5 _ _ (by omega) (by omega)]; exact hRC.2.2.2.2.1
    · rw [f5 _ _ (by omega) (by omega)]; exact hRC.2.2.2.2.2
    · rw [g4, hRX.2.2.1]; omega
    · rw [g5 _ _ (by omega) (by omega)]; exact hRX.2.2.2.1
    · rw [g5 _ _ (by omega) (by omega)]; exact hRX.2.2.2.2.1
    · rw [g5 _ _ (by omega) (by omega)]; exact hRX.2.2.2.2.2
    · exact fun x y h1 h2 h3 => f5 x y h1 (by omega)
    · exact fun a b hab => g5 a b (by omega) (by omega)
  · have hn : 1 < L → (P root).2.2 ≠ [] := fun h1 h2 => hlow ⟨h1, h2⟩
    have hp : (P root).1 = 2 → (P root).2.2 ≠ [] := by
      intro h2
      have hso := Core_sort hg.1 (n := 0) (i := root) (s := []) ht (by rw [hg.2.1]; simp)
      by_cases h1 : 0 + 1 = L
      · rw [if_pos h1] at hso; omega
      · exact hn (by omega)
    refine ⟨C, X, P, root, L, c1, c2, c3, ?_, mx_keep hg.1.1 hRX.1 hRX.2.1 hr hp, hRC, hRX, ⟨V, lvl, Good_of hg hn⟩, KpC_refl, KpX_refl⟩
    unfold tkC
    rw [tEq (by omega), sp_lower0 hg.1.1 hRC.1 hRC.2.1 hr hp, bd_some]
/-- the neighbour that a page is mended with -/
theorem tk_two (hP : Tk C X P V lvl root L (t + 1) W T As Bs ss c1 c2 c3) : ((P (W t)).2.2 = [] ∧ T t = 0) ∨ ∃ a0 e b0 pre s1 i j, Two P V t (As t) (Bs t) (ss t) (W t) (P (W t)).2.1 a0 e b0 pre s1 i j ∧ Btw (T t) (a0 ++ e :: b0).length a0.length ∧ T t ≤ (a0 ++ e :: b0).length ∧ (W (t + 1) = i ∨ W (t + 1) = j) := by
  obtain ⟨hg, ht, hpth, hW0, hW32, hroot, hRC, hWC, hRX, hWX⟩ := hP
  obtain ⟨a, b, pre, d1, d2, d3, d4, d5⟩ := hpth.2 t (by omega)
  have hvt := hpth.1 t (by omega)
  have hso := Core_sort hg.1 (n := t) (by omega) (show (ss t, ((W t : Nat) : Int)) ∈ V t by rw [hvt]; simp)
  rw [if_neg (by omega)] at hso
  have hV1 : V (t + 1) = exp P (As t) ++ (ss t, (P (W t)).2.1) :: ((a ++ b) ++ exp P (Bs t)) := by
    rw [hg.2.2.1 t ht, hvt, exp_app, exp_cons]
    show _ ++ (ss t, (P (W t)).2.1) :: ((P (W t)).2.2 ++ _) = _
    rw [d1]
  have hnat : ∀ e ∈ V (t + 1), ∃ k : Nat, e.2 = (k : Int) := by
    intro e he
    obtain ⟨k, q1, _⟩ := hg.1.2.1 (t + 1) ht e he
    exact ⟨k, q1⟩
  cases b with
  | cons e b0 =>
    obtain ⟨j, hj⟩ := hnat e (by rw [hV1]; simp)
    refine Or.inr ⟨a, e, b0, pre, ss (t + 1), W (t + 1), j, ⟨hvt, ?_, d3, hj⟩, Or.inl ⟨by simp; omega, d2⟩, by simp; omega, Or.inl rfl⟩
    rw [← d1, ← hso.2.2]
  | nil =>
    by_cases ha : a = []
    · subst ha
      exact Or.inl ⟨d1, by rw [← d2]; rfl⟩
    · obtain ⟨a', e, hae⟩ := snoc ha
      subst hae
      have h3 : ((ss t, (P (W t)).2.1) :: a') ++ [e] = pre ++ [(ss (t + 1), ((W (t + 1) : Nat) : Int))] := d3
      have h4 := List.append_inj' h3 rfl
      have he : e = (ss (t + 1), ((W (t + 1) : Nat) : Int)) := by simpa using h4.2
      have hl := lastD_eq (a := a') (x := (ss t, (P (W t)).2.1))
      obtain ⟨i, hi⟩ := hnat (((ss t, (P (W t)).2.1) :: a').getLastD ([], 0)) (by
        have hm : ((ss t, (P (W t)).2.1) :: a').getLastD ([], 0) ∈ (ss t, (P (W t)).2.1) :: a' := by
          have hz : ((ss t, (P (W t)).2.1) :: a').getLastD ([], 0) ∈ ((ss t, (P (W t)).2.1) :: a').dropLast ++ [((ss t, (P (W t)).2.1) :: a').getLastD ([], 0)] := List.mem_append_right _ (List.mem_singleton.mpr rfl)
          rw [← hl] at hz
          exact hz
        have e9 : V (t + 1) = exp P (As t) ++ (((ss t, (P (W t)).2.1) :: a') ++ ([e] ++ exp P (Bs t))) := by rw [hV1]; simp
        rw [e9]
        exact List.mem_append_right _ (List.mem_append_left _ hm))
      have hlx : ((ss t, (P (W t)).2.1) :: a').getLastD ([], 0) = ((((ss t, (P (W t)).2.1) :: a').getLastD ([], 0)).1, (i : Int)) := by rw [← hi]
      refine Or.inr ⟨a', e, [], ((ss t, (P (W t)).2.1) :: a').dropLast, (((ss t, (P (W t)).2.1) :: a').getLastD ([], 0)).1, i, W (t + 1), ⟨hvt, ?_, ?_, by rw [he]⟩, Or.inr ⟨?_, ?_⟩, ?_, Or.inr rfl⟩
      · have : (P (W t)).2.2 = a' ++ e :: [] := by rw [d1]; simp
        rw [← this, ← hso.2.2]
      · rw [← hlx]; exact hl
      · rw [← d2]; simp
      · rw [← d2]; simp
      · rw [← d2]; simp
theorem chd_two (h : Two P V t A1 B1 sA Ab la a0 e b0 pre s1 i j) : chd (P Ab) a0.length = (i : Int) := by
  rw [h.2.1, chd_last (s := sA), h.2.2.1]
  simp
/-- two pages with all that stands between them -/
theorem ws_sz (hw : Ws sv e lr le re ws) (he : EOk e) (h1 : szs le ≤ 61) (h2 : szs re ≤ 61) (h3 : szs le ≤ 28 ∨ szs re ≤ 28) : szs ws ≤ 99 := by
  have h8 := he.2.1
  rcases hw with ⟨_, h⟩ | ⟨_, h⟩
  · rw [h, szs_app]; omega
  · rw [h, szs_app, szs_cons]
    show szs le + (e.1.length + 2 + szs re) ≤ 99
    omega
theorem tk_loop : ∀ (t : Nat) (n1 n2 : Nat) (C X : Mem) (P : Nat → Pg) (V : Nat → List Ent) (c2 c3 : Int), t < n1 → t < n2 → Tk C X P V lvl root L t W T As Bs ss c1 c2 c3 → FinA C X (f_X0_takeKey_67 z (tkC z) n1 (t : Int) C) (f_X8_takeKey_81 z (tkX z) n2 (t : Int) X) z z
  | _, 0, _ => by intros; omega
  | _, _, 0 => by intros; omega
  | 0, n1 + 1, n2 + 1 => by
    intro C X P V c2 c3 _ _ hP
    unfold f_X0_takeKey_67 f_X8_takeKey_81
    rw [fLt (by omega), fLt (by omega)]
    exact tk_end0 hP
  | t + 1, n1 + 1, n2 + 1 => by
    intro C X P V c2 c3 hn1 hn2 hP
    have hP0 := hP
    obtain ⟨hg, ht, hpth, hW0, hW32, hroot, hRC, hWC, hRX, hWX⟩ := hP
    have hL32 := hg.2.2.2.2.1
    have hr32 := hg.2.2.2.2.2
    have hvt1 := hpth.1 (t + 1) (Nat.le_refl _)
    have hso1 := Core_sort hg.1 (n := t + 1) ht (show (ss (t + 1), ((W (t + 1) : Nat) : Int)) ∈ V (t + 1) by rw [hvt1]; simp)
    have hsn : (P (W (t + 1))).1 ≠ 0 := by rw [hso1.2.2]; split <;> omega
    have hnr : (P root).2.2 ≠ [] := by
      rcases hroot (by omega) with h | ⟨h, _⟩
      · exact h
      · omega
    have hpo := sp_pageOn hWC hL32 ht hso1.1 (z := ((t + 1 : Nat) : Int)) rfl
    have huC := sp_used (TC_pg hg.1.1 hRC.1 hso1.1) hsn
    have huX := mx_used (p := ((W (t + 1) : Nat) : Int)) (TX_pg hg.1.1 hRX.1 hso1.1) rfl hsn
    have hsz := (hg.1.1 _ hso1.1).2.1
    have hwx := hWX.1 (t + 1) ht
    unfold f_X0_takeKey_67 f_X8_takeKey_81
    rw [tLt (by omega), tLt (by omega), hpo, bd_some, huC, bd_some, ix_t (by omega), nat2 rfl, hwx, huX, bd_some]
    by_cases h32 : 3 + szs (P (W (t + 1))).2.2 < 32
    · rw [tLt (by omega), tLt (by omega)]
      rcases tk_two hP0 with ⟨h0, hT0⟩ | ⟨a0, e, b0, pre, s1, i, j, h2, hb, hTl, hij⟩
      · -- nothing beside it
        have hso := Core_sort hg.1 (n := t) (by omega) (show (ss t, ((W t : Nat) : Int)) ∈ V t by rw [hpth.1 t (by omega)]; simp)
        rw [if_neg (by omega)] at hso
        have hpA : P (W t) = (2, (P (W t)).2.1, []) := by rw [← h0, ← hso.2.2]
        rw [sp_mend0 hg.1.1 hRC.1 hWC hL32 ht rfl hso.1 hpA hT0 (by omega), bd_some, tEq (by omega), mx_mend0 hg.1.1 hRX.1 hWX hL32 ht rfl hso.1 hpA (by omega), bd_some, tEq (by omega)]
        exact tk_endN hg (by omega) (by omega) hnr hRC hRX
      · obtain ⟨i32, j32, b32, hne, hib, hjb, li, lj, lb, sb, si, sj⟩ := two_3 hg ht h2
        have hch := chd_two h2
        have oi := hg.1.1 i i32
        have oj := hg.1.1 j j32
        have ob := hg.1.1 (W t) b32
        have heo : EOk e := by rw [h2.2.1] at ob; exact EsOk_mid ob.1
        have h28 : szs (P i).2.2 ≤ 28 ∨ szs (P j).2.2 ≤ 28 := by
          rcases hij with h | h
          · rw [h] at h32; exact Or.inl (by omega)
          · rw [h] at h32; exact Or.inr (by omega)
        have hlvW : ∀ n, n ≤ t → lvl (W n) = n := fun n hn => (Core_sort hg.1 (n := n) (by omega) (show (ss n, ((W n : Nat) : Int)) ∈ V n by rw [hpth.1 n (by omega)]; simp)).2.1
        -- either kind of page: what both have
        have hcase : ∃ sv ws, (sv = 1 ∨ sv = 2) ∧ (sv = 1 ↔ t + 2 = L) ∧ P i = (sv, (P i).2.1, (P i).2.2) ∧ P j = (sv, (P j).2.1, (P j).2.2) ∧ Ws sv e (P j).2.1 (P i).2.2 (P j).2.2 ws := by
          by_cases hl : t + 2 = L
          · rw [if_pos hl] at si sj
            exact ⟨1, _, Or.inl rfl, by simp [hl], by rw [← si], by rw [← sj], Or.inl ⟨rfl, rfl⟩⟩
          · rw [if_neg hl] at si sj
            exact ⟨2, _, Or.inr rfl, by simp [hl], by rw [← si], by rw [← sj], Or.inr ⟨rfl, rfl⟩⟩
        obtain ⟨sv, ws, hsv, hsvl, hpi, hpj, hw⟩ := hcase
        have hwok := Ws_ok hw oi.1 oj.1 heo oj.2.2.2
        have hwsz := ws_sz hw heo oi.2.1 oj.2.1 h28
        by_cases h61 : szs ws ≤ 61
        · -- joined
          obtain ⟨C1, f1, f2, f3, f4, f5, f6⟩ := sp_mendJ hg.1.1 hRC.1 hWC hL32 ht rfl b32 h2.2.1 hb hch i32 h2.2.2.2 j32 hpi hpj hsv hw h61 hib hjb hne (z := ((t + 1 : Nat) : Int)) (by omega)
          obtain ⟨X1, g1, g2, g3, g4, g5, g6⟩ := mx_mendJ hg.1.1 hRX.1 hWX hL32 ht rfl b32 h2.2.1 hb hTl hch i32 h2.2.2.2 j32 hpi hpj hsv hw h61 hib hjb hne (r := ((t + 1 : Nat) : Int)) (by omega)
          have hg' := good_join hg ht h2 hpi hpj hw h61
          have hu3 : ∀ n, n < t → ∀ x ∈ V n, uP (uP (uP P i (sv, if sv = 1 then (P j).2.1 else (P i).2.1, ws)) j (0, 0, [])) (W t) (2, (P (W t)).2.1, a0 ++ b0) x.2.toNat = P x.2.toNat := fun n hn => exp_3 hg.1 (by omega) (by omega) (by omega) (by omega)
          have hWt : ∀ n, n < t → uP (uP (uP P i (sv, if sv = 1 then (P j).2.1 else (P i).2.1, ws)) j (0, 0, [])) (W t) (2, (P (W t)).2.1, a0 ++ b0) (W n) = P (W n) := by
            intro n hn
            have := hu3 n hn (ss n, ((W n : Nat) : Int)) (by rw [hpth.1 n (by omega)]; simp)
            simpa using this
          have ht2 : Tk C1 X1 (uP (uP (uP P i (sv, if sv = 1 then (P j).2.1 else (P i).2.1, ws)) j (0, 0, [])) (W t) (2, (P (W t)).2.1, a0 ++ b0)) (uV V (t + 1) ((exp P (As t) ++ pre) ++ (s1, (i : Int)) :: (b0 ++ exp P (Bs t)))) lvl root L t W T As Bs ss c1 (c2 + 1) c3 := by
            refine ⟨hg', by omega, ⟨?_, ?_⟩, hW0, hW32, ?_, RC_Fc hRC f3 f2 ?_ ?_ ?_, WayC_Fc hWC f3, RX_Fx hRX g3 g2 ?_ ?_ ?_, WayX_Fx hWX g3⟩
            · intro n hn
              rw [uV_o (by omega)]
              exact hpth.1 n (by omega)
            · intro n hn
              obtain ⟨a2, b2, pre2, q1, q2, q3, q4, q5⟩ := hpth.2 n (by omega)
              refine ⟨a2, b2, pre2, by rw [hWt n hn]; exact q1, q2, by rw [hWt n hn]; exact q3, ?_, ?_⟩
              · rw [exp_c (fun x hx => hu3 n hn x (by rw [hpth.1 n (by omega)]; simp; exact Or.inl hx))]; exact q4
              · rw [exp_c (fun x hx => hu3 n hn x (by rw [hpth.1 n (by omega)]; simp; exact Or.inr (Or.inr hx)))]; exact q5
            · intro _
              cases t with
              | zero =>
                rw [hW0] at hib hjb h2 ⊢
                rw [uP_s]
                by_cases hemp : a0 ++ b0 = []
                · refine Or.inr ⟨rfl, ?_⟩
                  intro h2L
                  have ha0 : a0 = [] := (List.append_eq_nil_iff.mp hemp).1
                  have h3 := h2.2.2.1
                  rw [ha0] at h3
                  obtain ⟨q1, q2, q3⟩ := single h3
                  have hli : (P root).2.1 = (i : Int) := (congrArg Prod.snd q2).symm
                  show (uP (uP (uP P i (sv, if sv = 1 then (P j).2.1 else (P i).2.1, ws)) j (0, 0, [])) root (2, (P root).2.1, a0 ++ b0) (P root).2.1.toNat).2.2 ≠ []
                  rw [hli, show ((i : Nat) : Int).toNat = i by omega, uP_o hib, uP_o hne, uP_s]
                  rcases hw with ⟨hw1, _⟩ | ⟨_, hw⟩
                  · exact absurd (hsvl.mp hw1) (by omega)
                  · show ws ≠ []
                    rw [hw]; simp
                · exact Or.inl hemp
              | succ t =>
                have := hWt 0 (by omega)
                rw [hW0] at this
                rw [this]
                exact Or.inl hnr
            · rw [f4]; exact hRC.2.2.2.1
            · rw [f5, hRC.2.2.2.2.1]
            · rw [f6]; exact hRC.2.2.2.2.2
            · rw [g4]; exact hRX.2.2.2.1
            · rw [g5, hRX.2.2.2.2.1]
            · rw [g6]; exact hRX.2.2.2.2.2
          rw [f1, bd_some, fEq (by omega), g1, bd_some, fEq (by omega), show ((t + 1 : Nat) : Int) + -1 = (t : Int) by omega]
          exact Fin_tr (Fc_KpC f3) (Fx_KpX g3) (tk_loop t n1 n2 C1 X1 _ _ (c2 + 1) c3 (by omega) (by omega) ht2)
        · -- shared, or left
          obtain ⟨x', u, v, y, e1, e2, e3, e4, e5⟩ := hf_split hwok (by omega)
          have e6 : szs ws = szs (x' ++ [u]) + (v.1.length + 2 + szs y) := by rw [e1, szs_app, szs_cons]
          rcases hw with ⟨hw1, hw⟩ | ⟨hw1, hw⟩
          · -- leaves
            subst hw1
            have htl := hsvl.mp rfl
            have hpw := two_pw hg htl h2
            rw [hw] at e1 e2 e6 h61 hwsz e3 e4
            rw [e1] at hpw
            obtain ⟨hc, _⟩ := pw_part hpw
            have hll := (two_link hg htl h2).1
            obtain ⟨C1, f1, f2, f3, f4, f5⟩ := sp_mendL hg.1.1 hRC.1 hWC hL32 ht rfl b32 h2.2.1 hb hch i32 h2.2.2.2 j32 hpi hpj (by omega) hib hjb hne e1 e2 hc (by omega) (by rw [szs_cons]; omega) (z := ((t + 1 : Nat) : Int)) (by omega)
            obtain ⟨X1, g1, g2, g3, g4, g5⟩ := mx_mendL hg.1.1 hRX.1 hWX hL32 ht rfl b32 h2.2.1 hb hTl hch i32 h2.2.2.2 j32 hpi hpj (by omega) hib hjb hne e1 e2 hc (by omega) (by rw [szs_cons]; omega) hll (r := ((t + 1 : Nat) : Int)) (by omega)
            rw [f1, bd_some, tEq (by omega), g1, bd_some, tEq (by omega)]
            refine Fin_tr (Fc_KpC f2) (Fx_KpX g2) ?_
            rcases f5 with ⟨k1, k2, k3⟩ | ⟨k1, k2, k3⟩
            · rcases g5 with ⟨m1, m2, m3⟩ | ⟨m1, _, _⟩
              · exact tk_endN hg (by omega) (by omega) hnr (RC_Fc hRC f2 k2 (d1 := c1) (d2 := c2) (d3 := c3) (by rw [f3]; exact hRC.2.2.2.1) (by rw [f4]; exact hRC.2.2.2.2.1) (by rw [k3]; exact hRC.2.2.2.2.2)) (RX_Fx hRX g2 m2 (d1 := c1) (d2 := c2) (d3 := c3) (by rw [g3]; exact hRX.2.2.2.1) (by rw [g4]; exact hRX.2.2.2.2.1) (by rw [m3]; exact hRX.2.2.2.2.2))
              · omega
            · rcases g5 with ⟨m1, _, _⟩ | ⟨m1, m2, m3⟩
              · omega
              · have hg' := good_shL hg htl h2 hpi hpj e1 (by omega) (by rw [szs_cons]; omega) k1
                refine tk_endN hg' (by omega) (by omega) ?_ (RC_Fc hRC f2 k2 (d1 := c1) (d2 := c2) (d3 := c3 + 1) (by rw [f3]; exact hRC.2.2.2.1) (by rw [f4]; exact hRC.2.2.2.2.1) (by rw [k3, hRC.2.2.2.2.2])) (RX_Fx hRX g2 m2 (d1 := c1) (d2 := c2) (d3 := c3 + 1) (by rw [g3]; exact hRX.2.2.2.1) (by rw [g4]; exact hRX.2.2.2.2.1) (by rw [m3, hRX.2.2.2.2.2]))
                have hlr : lvl root = 0 := (Core_sort hg.1 (n := 0) (i := root) (s := []) (by omega) (by rw [hg.2.1]; simp)).2.1
                rw [uP_o (by intro hh; subst hh; omega), uP_o (by intro hh; subst hh; omega)]
                by_cases hrt : root = W t
                · rw [hrt, uP_s]; simp
                · rw [uP_o hrt]; exact hnr
          · -- inner ones
            subst hw1
            have htl : t + 2 < L := by
              have : ¬ t + 2 = L := fun hh => by have := hsvl.mpr hh; omega
              omega
            obtain ⟨C1, f1, f2, f3, f4, f5⟩ := sp_mendI hg.1.1 hRC.1 hWC hL32 ht rfl b32 h2.2.1 hb hch i32 h2.2.2.2 j32 hpi hpj hw (by omega) hib hjb hne e1 e2 (by omega) (by omega) (z := ((t + 1 : Nat) : Int)) (by omega)
            obtain ⟨X1, g1, g2, g3, g4, g5⟩ := mx_mendI hg.1.1 hRX.1 hWX hL32 ht rfl b32 h2.2.1 hb hTl hch i32 h2.2.2.2 j32 hpi hpj hw (by omega) hib hjb hne e1 e2 (by omega) (by omega) (r := ((t + 1 : Nat) : Int)) (by omega)
            rw [f1, bd_some, tEq (by omega), g1, bd_some, tEq (by omega)]
            refine Fin_tr (Fc_KpC f2) (Fx_KpX g2) ?_
            rcases f5 with ⟨k1, k2, k3⟩ | ⟨k1, k2, k3⟩
            · rcases g5 with ⟨m1, m2, m3⟩ | ⟨m1, _, _⟩
              · exact tk_endN hg (by omega) (by omega) hnr (RC_Fc hRC f2 k2 (d1 := c1) (d2 := c2) (d3 := c3) (by rw [f3]; exact hRC.2.2.2.1) (by rw [f4]; exact hRC.2.2.2.2.1) (by rw [k3]; exact hRC.2.2.2.2.2)) (RX_Fx hRX g2 m2 (d1 := c1) (d2 := c2) (d3 := c3) (by rw [g3]; exact hRX.2.2.2.1) (by rw [g4]; exact hRX.2.2.2.2.1) (by rw [m3]; exact hRX.2.2.2.2.2))
              · omega
            · rcases g5 with ⟨m1, _, _⟩ | ⟨m1, m2, m3⟩
              · omega
              · have hg' := good_shI hg htl h2 hpi hpj (by rw [← hw]; exact e1) (by omega) (by omega) k1
                refine tk_endN hg' (by omega) (by omega) ?_ (RC_Fc hRC f2 k2 (d1 := c1) (d2 := c2) (d3 := c3 + 1) (by rw [f3]; exact hRC.2.2.2.1) (by rw [f4]; exact hRC.2.2.2.2.1) (by rw [k3, hRC.2.2.2.2.2])) (RX_Fx hRX g2 m2 (d1 := c1) (d2 := c2) (d3 := c3 + 1) (by rw [g3]; exact hRX.2.2.2.1) (by rw [g4]; exact hRX.2.2.2.2.1) (by rw [m3, hRX.2.2.2.2.2]))
                have hlr : lvl root = 0 := (Core_sort hg.1 (n := 0) (i := root) (s := []) (by omega) (by rw [hg.2.1]; simp)).2.1
                rw [uP_o (by intro hh; subst hh; omega), uP_o (by intro hh; subst hh; omega)]
                by_cases hrt : root = W t
                · rw [hrt, uP_s]; simp
                · rw [uP_o hrt]; exact hnr
    · rw [fLt (by omega), fLt (by omega)]
      exact tk_endN hg (by omega) (by omega) hnr hRC hRX
end TK

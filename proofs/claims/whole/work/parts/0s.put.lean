/-! PUT: class and model side by side. -/
def RC (C : Mem) (P : Nat → Pg) (root L : Nat) (c1 c2 c3 : Int) : Prop := TC C P ∧ C 1 4 = (root : Int) ∧ C 1 5 = (L : Int) ∧ C 2 4 = c1 ∧ C 2 5 = c2 ∧ C 2 6 = c3
def RX (X : Mem) (P : Nat → Pg) (root L : Nat) (c1 c2 c3 : Int) : Prop := TX X P ∧ X 95 1 = (root : Int) ∧ X 95 2 = (L : Int) ∧ X 95 3 = c1 ∧ X 95 4 = c2 ∧ X 95 5 = c3
def GoodS (P : Nat → Pg) (root L : Nat) : Prop := ∃ V lvl, Good P root L V lvl
/-- what commands of the tree leave as it was -/
def KpC (C C' : Mem) : Prop := ∀ x y, x ≠ 1 → x ≠ 2 → (x < 10 ∨ (23 ≤ x ∧ x < 61)) → C' x y = C x y
def KpX (X X' : Mem) : Prop := ∀ a b, ((a = 95 ∧ 16 ≤ b) ∨ 104 ≤ a) → X' a b = X a b
/-- after a change: both hold the same good tree -/
def FinA (C X : Mem) (o1 o2 : Option (Mem × Int)) (z1 z2 : Int) : Prop := ∃ C' X' P' root' L' d1 d2 d3, o1 = some (C', z1) ∧ o2 = some (X', z2) ∧ RC C' P' root' L' d1 d2 d3 ∧ RX X' P' root' L' d1 d2 d3 ∧ GoodS P' root' L' ∧ KpC C C' ∧ KpX X X'
section PU
variable {C C' X X' : Mem} {P P' : Nat → Pg} {L n t i j q root : Nat} {V V' : Nat → List Ent} {lvl lvl' : Nat → Nat} {A B R S a b x y es : List Ent} {e f u v : Ent} {s s2 w : List Int} {r l l1 l2 z c1 c2 c3 : Int} {p : Pg} {W T : Nat → Nat} {As Bs : Nat → List Ent} {ss : Nat → List Int}
theorem KpC_refl : KpC C C := fun _ _ _ _ _ => rfl
theorem KpX_refl : KpX X X := fun _ _ _ => rfl
theorem KpC_tr {C2 : Mem} (h1 : KpC C C') (h2 : KpC C' C2) : KpC C C2 := fun x y q1 q2 q3 => by rw [h2 x y q1 q2 q3, h1 x y q1 q2 q3]
theorem KpX_tr {X2 : Mem} (h1 : KpX X X') (h2 : KpX X' X2) : KpX X X2 := fun x y q1 => by rw [h2 x y q1, h1 x y q1]
theorem Fc_KpC (h : Fc C C') : KpC C C' := fun x y _ q2 q3 => h x y q2 (by omega)
theorem Fx_KpX (h : Fx X X') : KpX X X' := fun a b q => h a b (by omega) (by omega) (by omega) (by omega) (by omega) (by omega)
theorem Fin_tr {C2 X2 : Mem} {o1 o2 : Option (Mem × Int)} {z1 z2 : Int} (h1 : KpC C C2) (h2 : KpX X X2) (h : FinA C2 X2 o1 o2 z1 z2) : FinA C X o1 o2 z1 z2 := by
  obtain ⟨C', X', P', root', L', d1, d2, d3, g1, g2, g3, g4, g5, g6, g7⟩ := h
  exact ⟨C', X', P', root', L', d1, d2, d3, g1, g2, g3, g4, g5, KpC_tr h1 g6, KpX_tr h2 g7⟩
theorem RC_Fc (h : RC C P root L c1 c2 c3) (hf : Fc C C') (hT : TC C' P') {d1 d2 d3 : Int} (h1 : C' 2 4 = d1) (h2 : C' 2 5 = d2) (h3 : C' 2 6 = d3) : RC C' P' root L d1 d2 d3 := ⟨hT, by rw [hf _ _ (by omega) (by omega)]; exact h.2.1, by rw [hf _ _ (by omega) (by omega)]; exact h.2.2.1, h1, h2, h3⟩
theorem RX_Fx (h : RX X P root L c1 c2 c3) (hf : Fx X X') (hT : TX X' P') {d1 d2 d3 : Int} (h1 : X' 95 3 = d1) (h2 : X' 95 4 = d2) (h3 : X' 95 5 = d3) : RX X' P' root L d1 d2 d3 := ⟨hT, by rw [hf _ _ (by omega) (by omega) (by omega) (by omega) (by omega) (by omega)]; exact h.2.1, by rw [hf _ _ (by omega) (by omega) (by omega) (by omega) (by omega) (by omega)]; exact h.2.2.1, h1, h2, h3⟩
theorem WayC_Fc (h : WayC C L W T) (hf : Fc C C') : WayC C' L W T := ⟨fun t ht => by rw [hf _ _ (by omega) (by omega)]; exact h.1 t ht, fun t ht => by rw [hf _ _ (by omega) (by omega)]; exact h.2 t ht⟩
/-- a page of another level is not changed -/
theorem exp_lv (h : Core P L V lvl) (hn : n < L) (hnt : lvl i ≠ n) : exp (uP P i p) (V n) = exp P (V n) := by
  refine exp_c (fun e he => uP_o ?_)
  obtain ⟨k, q1, q2, q3, q4⟩ := h.2.1 n hn e he
  intro heq
  have : k = i := by omega
  subst this
  exact hnt q3
theorem exp_fr (h : Core P L V lvl) (hn : n < L) (hq : (P q).1 = 0) : exp (uP P q p) (V n) = exp P (V n) := by
  refine exp_c (fun e he => uP_o ?_)
  have := Core_free h hq hn he
  obtain ⟨k, q1, _⟩ := h.2.1 n hn e he
  omega
/-- a row of pages around one of them -/
theorem exp_AB (h : Core P L V lvl) (ht : t < L) (hv : V t = A ++ (s, (i : Int)) :: B) : exp (uP P i p) A = exp P A ∧ exp (uP P i p) B = exp P B := by
  have hnd := h.2.2.1 t ht
  rw [hv] at hnd
  have hmid := nd_mid hnd
  have key : ∀ e ∈ A ++ B, e.2.toNat ≠ i := by
    intro e he
    have h1 : e.2 ≠ (i : Int) := hmid e he
    have h2 : e ∈ V t := by rw [hv]; simp at he ⊢; rcases he with he | he; exact Or.inl he; exact Or.inr (Or.inr he)
    obtain ⟨k, q1, _⟩ := h.2.1 t ht e h2
    omega
  exact ⟨exp_c (fun e he => uP_o (key e (List.mem_append_left _ he))), exp_c (fun e he => uP_o (key e (List.mem_append_right _ he)))⟩
theorem exp_ABq (h : Core P L V lvl) (ht : t < L) (hv : V t = A ++ (s, (i : Int)) :: B) (hq : (P q).1 = 0) : exp (uP P q p) A = exp P A ∧ exp (uP P q p) B = exp P B := by
  have key : ∀ e ∈ A ++ B, e.2.toNat ≠ q := by
    intro e he
    have h2 : e ∈ V t := by rw [hv]; simp at he ⊢; rcases he with he | he; exact Or.inl he; exact Or.inr (Or.inr he)
    have := Core_free h hq ht h2
    obtain ⟨k, q1, _⟩ := h.2.1 t ht e h2
    omega
  exact ⟨exp_c (fun e he => uP_o (key e (List.mem_append_left _ he))), exp_c (fun e he => uP_o (key e (List.mem_append_right _ he)))⟩
/-- the root, split, under a new one -/
theorem good_root (h : Core P L V lvl) (hL : 1 ≤ L) (hL31 : L ≤ 31) (hr : root < 32) (h0 : V 0 = [([], (root : Int)), (s2, (j : Int))]) (h1 : ∀ n, n + 1 < L → V (n + 1) = exp P (V n)) (hq : (P q).1 = 0) (hq32 : q < 32) (hs : LOk s2) (hs1 : 1 ≤ s2.length) (hj : j < 32) : GoodS (uP P q (2, (root : Int), [(s2, (j : Int))])) q (L + 1) := by
  have hsz : szs [(s2, (j : Int))] ≤ 61 := by have := hs.1; simp [szs]; omega
  have hp : POk (2, (root : Int), [(s2, (j : Int))]) := ⟨EsOk_cons.mpr ⟨⟨hs1, hs.1, hs.2, by show (0 : Int) ≤ (j : Int) ∧ (j : Int) ≤ 255; omega⟩, by intro e he; cases he⟩, hsz, by show (0 : Int) ≤ 2 ∧ (2 : Int) ≤ 2; omega, by show (0 : Int) ≤ (root : Int) ∧ (root : Int) ≤ 255; omega⟩
  refine ⟨_, _, core_root h hL hq hq32 hp, rfl, ?_, by omega, by omega, hq32, ?_⟩
  · intro n hn
    cases n with
    | zero =>
      show V 0 = exp _ [([], (q : Int))]
      rw [exp_cons, exp_nil]
      show V 0 = ([], (uP P q (2, (root : Int), [(s2, (j : Int))]) q).2.1) :: ((uP P q (2, (root : Int), [(s2, (j : Int))]) q).2.2 ++ [])
      rw [uP_s, h0]
      rfl
    | succ n =>
      show V (n + 1) = exp _ (V n)
      rw [exp_fr h (by omega) hq]
      exact h1 n (by omega)
  · intro _
    rw [uP_s]
    simp
def kCc : Int → Int → Int → Mem → Option (Mem × Int) := (fun (v3_e16 : Int) (v4_e16 : Int) (v5_e16 : Int) (C_e16 : Mem) => (bd (f_X0_raiseRoot (v4_e16) C_e16) (fun C104 _ => (some (C104, 0)))))
def kX : Int → Int → Mem → Option (Mem × Int) := (fun (v2_e104 : Int) (v3_e104 : Int) (C_e104 : Mem) => (bd (f_X8_at (v3_e104) (0) C_e104) (fun C225 r225 => (bd (f_X8_at (v3_e104) (2) C225) (fun C231 r231 => (bd (f_X8_goBack (v3_e104) (r225) (r231) (0) (C231 95 6) C231) (fun C239 _ => (some (C239, -9)))))))))
/-- what is to come into an inner page, and all that is known there -/
def Pend (C X : Mem) (P : Nat → Pg) (V : Nat → List Ent) (lvl : Nat → Nat) (root L t : Nat) (W T : Nat → Nat) (As Bs : Nat → List Ent) (ss : Nat → List Int) (a b : List Ent) (w : List Int) (z : Nat) (c1 c2 c3 : Int) : Prop := Core P L V lvl ∧ L ≤ 31 ∧ t + 1 < L ∧ root < 32 ∧ V 0 = [([], (root : Int))] ∧ (∀ n, n + 1 < L → n ≠ t → V (n + 1) = exp P (V n)) ∧ Pth P V W T As Bs ss t ∧ W 0 = root ∧ (∀ n, n < L → W n < 32) ∧ (P (W t)).2.2 = a ++ b ∧ a.length = T t ∧ V (t + 1) = exp P (As t) ++ (ss t, (P (W t)).2.1) :: ((a ++ (w, (z : Int)) :: b) ++ exp P (Bs t)) ∧ t + 2 ≤ nS P 0 32 ∧ z < 32 ∧ LOk w ∧ 1 ≤ w.length ∧ (0 < t → (P root).2.2 ≠ []) ∧ RC C P root L c1 c2 c3 ∧ WayC C L W T ∧ KyC C 1 w ∧ RX X P root L c1 c2 c3 ∧ WayX X L W T ∧ RowX X (a ++ (w, (z : Int)) :: b)
theorem szs_1 {w : List Int} (h : LOk w) (h61 : szs (a ++ b) ≤ 61) : szs (a ++ (w, z) :: b) ≤ 71 := by
  rw [szs_app] at h61 ⊢
  rw [szs_cons]
  have := h.1
  show _ + (w.length + 2 + _) ≤ _
  omega
theorem put_fit {z : Nat} {n1 n2 : Nat} {v3 : Int} (hP : Pend C X P V lvl root L t W T As Bs ss a b w z c1 c2 c3) (hv3 : v3 = (T t : Int)) (hfit : szs (a ++ (w, (z : Int)) :: b) ≤ 61) : FinA C X (f_X0_insertUpward_16 kCc (n1 + 1) v3 (z : Int) (t : Int) C) (f_X8_putKey_104 kX (n2 + 1) (t : Int) ((W t : Nat) : Int) X) 0 (-9) := by
  obtain ⟨hcore, hL31, ht, hr, h0, heq, hpth, hW0, hW32, hes, hal, hpend, hfree, hz32, hw, hw1, hroot, hRC, hWC, hKC, hRX, hWX, hRow⟩ := hP
  have hvt := hpth.1 t (Nat.le_refl t)
  have hso := Core_sort hcore (n := t) (by omega) (show (ss t, ((W t : Nat) : Int)) ∈ V t by rw [hvt]; simp)
  rw [if_neg (by omega)] at hso
  have hpi : P (W t) = (2, (P (W t)).2.1, a ++ b) := by rw [← hes, ← hso.2.2]
  have hlink := (hcore.1 (W t) hso.1).2.2.2
  have hab : EsOk (a ++ b) := by have := (hcore.1 (W t) hso.1).1; rw [hes] at this; exact this
  have hab1 := EsOk_app.mp hab
  have heo : EsOk (a ++ (w, (z : Int)) :: b) := hRow.2.2
  obtain ⟨C', f1, f2, f3, f4⟩ := sp_inFit (K := kCc) (n := n1) hcore.1 hRC.1 hWC (by omega) (t := t) (by omega) rfl hso.1 hpi (Or.inr rfl) hKC hw1 (z := (z : Int)) (v3 := v3) (v5 := (t : Int)) (by omega) (by rw [hv3, hal]) rfl hfit
  have h3 := len_szs3 _ heo
  have hpg := TX_pg hcore.1 hRX.1 hso.1
  have mk := mx_back (i := W t) (p := ((W t : Nat) : Int)) (s := 2) (l := (P (W t)).2.1) (X := X) (x := []) (y := a ++ (w, (z : Int)) :: b) (z := []) (q4 := 0) (q5 := X 95 6) hso.1 rfl (by rw [List.append_nil]; exact hRow.2.1) heo (by simpa using (show (a ++ (w, (z : Int)) :: b).length ≤ 48 by omega)) hfit (by rfl) (by rw [hRow.1]; simp)
  have hmod : f_X8_putKey_104 kX (n2 + 1) (t : Int) ((W t : Nat) : Int) X = some (stX X (W t) (enc 2 (P (W t)).2.1 (a ++ (w, (z : Int)) :: b)), -9) := by
    rw [mx_inFit hRow (by omega) hfit]
    unfold kX
    rw [mx_0 hpg rfl, bd_some, mx_2 hpg rfl, bd_some, hso.2.2, mk, bd_some]
  have hpok : POk (2, (P (W t)).2.1, a ++ (w, (z : Int)) :: b) := ⟨heo, hfit, by show (0 : Int) ≤ 2 ∧ (2 : Int) ≤ 2; omega, hlink⟩
  have hcore' := core_in hcore ht hvt hpok
  have hg : GoodS (uP P (W t) (2, (P (W t)).2.1, a ++ (w, (z : Int)) :: b)) root L := by
    refine ⟨V, lvl, hcore', h0, ?_, by omega, by omega, hr, ?_⟩
    · intro n hn
      by_cases hnt : n = t
      · subst hnt
        have hAB := exp_AB (p := (2, (P (W n)).2.1, a ++ (w, (z : Int)) :: b)) hcore (by omega) hvt
        rw [hpend, hvt, exp_app, exp_cons, hAB.1, hAB.2]
        show _ = _ ++ (ss n, (uP P (W n) (2, (P (W n)).2.1, a ++ (w, (z : Int)) :: b) (W n)).2.1) :: ((uP P (W n) (2, (P (W n)).2.1, a ++ (w, (z : Int)) :: b) (W n)).2.2 ++ _)
        rw [uP_s]
      · rw [heq n hn hnt, exp_lv hcore (by omega) (by omega)]
    · intro _
      by_cases h00 : t = 0
      · subst h00
        rw [← hW0, uP_s]
        simp
      · have : root ≠ W t := by
          intro he
          have h1 := Core_sort hcore (n := 0) (i := root) (s := []) (by omega) (by rw [h0]; simp)
          rw [he] at h1
          omega
        rw [uP_o this]
        exact hroot (by omega)
  have hfx : Fx X (stX X (W t) (enc 2 (P (W t)).2.1 (a ++ (w, (z : Int)) :: b))) := Fx_st Fx_refl
  refine ⟨C', _, _, root, L, c1, c2, c3, f1, hmod, RC_Fc hRC f3 f2 ?_ ?_ ?_, RX_Fx hRX hfx (TX_st (pg := (2, (P (W t)).2.1, a ++ (w, (z : Int)) :: b)) hRX.1 ⟨rfl, rfl, rfl⟩) ?_ ?_ ?_, hg, Fc_KpC f3, Fx_KpX hfx⟩
  · rw [f4]; exact hRC.2.2.2.1
  · rw [f4]; exact hRC.2.2.2.2.1
  · rw [f4]; exact hRC.2.2.2.2.2
  · rw [stX_k (by omega)]; exact hRX.2.2.2.1
  · rw [stX_k (by omega)]; exact hRX.2.2.2.2.1
  · rw [stX_k (by omega)]; exact hRX.2.2.2.2.2
/-- the inner page is split: what is known then -/
theorem put_spl {z : Nat} {n1 n2 : Nat} {v3 : Int} (hP : Pend C X P V lvl root L t W T As Bs ss a b w z c1 c2 c3) (hv3 : v3 = (T t : Int)) (hfit : 61 < szs (a ++ (w, (z : Int)) :: b)) : ∃ (q : Nat) (x y : List Ent) (v : Ent) (C1 X1 : Mem), (P q).1 = 0 ∧ q < 32 ∧ LOk v.1 ∧ 1 ≤ v.1.length ∧ Core (uP (uP P (W t) (2, (P (W t)).2.1, x)) q (2, v.2, y)) L (uV V t (As t ++ (ss t, ((W t : Nat) : Int)) :: (v.1, (q : Int)) :: Bs t)) (fun k => if k = q then t else lvl k) ∧ (∀ n, n + 1 < L → n + 1 ≠ t → uV V t (As t ++ (ss t, ((W t : Nat) : Int)) :: (v.1, (q : Int)) :: Bs t) (n + 1) = exp (uP (uP P (W t) (2, (P (W t)).2.1, x)) q (2, v.2, y)) (uV V t (As t ++ (ss t, ((W t : Nat) : Int)) :: (v.1, (q : Int)) :: Bs t) n)) ∧ t + 1 ≤ nS (uP (uP P (W t) (2, (P (W t)).2.1, x)) q (2, v.2, y)) 0 32 ∧ f_X0_insertUpward_16 kCc (n1 + 1) v3 (z : Int) (t : Int) C = f_X0_insertUpward_16 kCc n1 (C 22 t) (q : Int) ((t : Int) + -1) C1 ∧ RC C1 (uP (uP P (W t) (2, (P (W t)).2.1, x)) q (2, v.2, y)) root L (c1 + 1) c2 c3 ∧ KyC C1 1 v.1 ∧ Fc C C1 ∧ RX X1 (uP (uP P (W t) (2, (P (W t)).2.1, x)) q (2, v.2, y)) root L c1 c2 c3 ∧ UpX X1 v.1 ∧ Fx X X1 ∧ f_X8_putKey_104 kX (n2 + 1) (t : Int) ((W t : Nat) : Int) X = (cEq (t : Int) 0 (bd (f_X8_newRoot ((W t : Nat) : Int) (q : Int) (up X1 95 3 ((X1 95 3) + 1))) (fun C171 _ => (some (C171, -9)))) (ix ((t : Int) + (-1)) 32 (bd (f_X8_comeOut ((up X1 95 3 ((X1 95 3) + 1)) (102) ((t : Int) + (-1)).toNat) (up (up X1 95 3 ((X1 95 3) + 1)) 95 6 (0))) (fun C194 _ => (ix ((t : Int) + (-1)) 32 (bd (f_X8_comesIn (C194 (103) ((t : Int) + (-1)).toNat) 0 (C194 95 10) (q : Int) C194) (fun C214 _ => (f_X8_putKey_104 kX n2 ((t : Int) + (-1)) ((up X1 95 3 ((X1 95 3) + 1)) (102) ((t : Int) + (-1)).toNat) C214)))))))) := by
  obtain ⟨hcore, hL31, ht, hr, h0, heq, hpth, hW0, hW32, hes, hal, hpend, hfree, hz32, hw, hw1, hroot, hRC, hWC, hKC, hRX, hWX, hRow⟩ := hP
  have hvt := hpth.1 t (Nat.le_refl t)
  have hso := Core_sort hcore (n := t) (by omega) (show (ss t, ((W t : Nat) : Int)) ∈ V t by rw [hvt]; simp)
  rw [if_neg (by omega)] at hso
  have hpi : P (W t) = (2, (P (W t)).2.1, a ++ b) := by rw [← hes, ← hso.2.2]
  have hlink := (hcore.1 (W t) hso.1).2.2.2
  have hsz0 : szs (a ++ b) ≤ 61 := by have := (hcore.1 (W t) hso.1).2.1; rw [hes] at this; exact this
  have hsz1 := szs_1 (z := (z : Int)) hw hsz0
  have heo : EsOk (a ++ (w, (z : Int)) :: b) := hRow.2.2
  have h3 := len_szs3 _ heo
  obtain ⟨x', u, v, y, e1, e2, e3, e4, e5⟩ := hf_split heo hfit
  have e6 : szs (a ++ (w, (z : Int)) :: b) = szs (x' ++ [u]) + (v.1.length + 2 + szs y) := by rw [e1, szs_app, szs_cons]
  have heo2 := heo
  rw [e1] at heo2
  have ev := EsOk_mid heo2
  have ex := (EsOk_app.mp heo2).1
  have ey := (EsOk_cons.mp (EsOk_app.mp heo2).2).2
  obtain ⟨q, hq⟩ := lf_ex (P := P) (by omega)
  have hq0 := hq.2.1
  have hq32 := hq.1
  obtain ⟨C1, f1, f2, f3, f4, f5, f6, f7⟩ := sp_inI (K := kCc) (n := n1) hcore.1 hRC.1 hWC (by omega) (t := t) (by omega) rfl hso.1 hpi hKC hw1 (z := (z : Int)) (v3 := v3) (v5 := (t : Int)) (by omega) (by rw [hv3, hal]) rfl hfit hq e1 e2 (by omega) (by omega)
  obtain ⟨X1, g1, g2, g3, g4, g5, g6, g7⟩ := mx_inI (K := kX) (n := n2) hcore.1 hRX.1 hRow hso.1 hpi hfit (by omega) (by omega) hq e1 e2 (by omega) (by omega) (v2 := (t : Int)) (v3 := ((W t : Nat) : Int)) rfl (by omega)
  have hp1 : POk (2, (P (W t)).2.1, x' ++ [u]) := ⟨ex, by show szs (x' ++ [u]) ≤ 61; omega, by show (0 : Int) ≤ 2 ∧ (2 : Int) ≤ 2; omega, hlink⟩
  have hp2 : POk (2, v.2, y) := ⟨ey, by show szs y ≤ 61; omega, by show (0 : Int) ≤ 2 ∧ (2 : Int) ≤ 2; omega, ev.2.2.2⟩
  have hcore' := core_spI (s2 := v.1) hcore ht hvt hq0 hq32 hp1 hp2
  have hiq : W t ≠ q := by intro h; rw [h, hq0] at hso; omega
  have hAB := exp_AB (p := (2, (P (W t)).2.1, x' ++ [u])) hcore (by omega) hvt
  have hABq := exp_ABq (p := (2, v.2, y)) (P := uP P (W t) (2, (P (W t)).2.1, x' ++ [u])) (lvl := lvl) (L := L) (V := V) (core_in hcore ht hvt hp1) (by omega) hvt (by rw [uP_o hiq.symm]; exact hq0)
  refine ⟨q, x' ++ [u], y, v, C1, X1, hq0, hq32, EOk_L ev, ev.1, hcore', ?_, ?_, f1, RC_Fc hRC f4 f2 ?_ ?_ ?_, f3, f4, RX_Fx hRX g3 g1 ?_ ?_ ?_, g2, g3, g7⟩
  · intro n hn hnt
    rw [uV_o hnt]
    by_cases hn2 : n = t
    · subst hn2
      rw [uV_s, hpend, exp_app, exp_cons, exp_cons, hABq.1, hABq.2, hAB.1, hAB.2]
      show _ = _ ++ (ss n, (uP (uP P (W n) (2, (P (W n)).2.1, x' ++ [u])) q (2, v.2, y) (W n)).2.1) :: ((uP (uP P (W n) (2, (P (W n)).2.1, x' ++ [u])) q (2, v.2, y) (W n)).2.2 ++ (v.1, (uP (uP P (W n) (2, (P (W n)).2.1, x' ++ [u])) q (2, v.2, y) q).2.1) :: ((uP (uP P (W n) (2, (P (W n)).2.1, x' ++ [u])) q (2, v.2, y) q).2.2 ++ _))
      rw [uP_s, uP_o hiq, uP_s, e1]
      simp
    · rw [uV_o hn2, heq n hn hn2]
      rw [exp_fr (core_in hcore ht hvt hp1) (by omega) (by rw [uP_o hiq.symm]; exact hq0), exp_lv hcore (by omega) (by omega)]
  · have n1 := nS_u (P := P) (n := 32) (p := (2, (P (W t)).2.1, x' ++ [u])) hso.1
    rw [if_neg (by rw [hso.2.2]; omega)] at n1
    have n2 := nS_u (P := uP P (W t) (2, (P (W t)).2.1, x' ++ [u])) (n := 32) (p := (2, v.2, y)) hq32
    split at n2 <;> omega
  · rw [f5, hRC.2.2.2.1]
  · rw [f6, hRC.2.2.2.2.1]
  · rw [f7, hRC.2.2.2.2.2]
  · rw [g4, hRX.2.2.2.1]
  · rw [g5, hRX.2.2.2.2.1]
  · rw [g6, hRX.2.2.2.2.2]
theorem single {p : Ent} (h : [p] = A ++ e :: B) : A = [] ∧ e = p ∧ B = [] := by
  cases A with
  | nil => simp at h; exact ⟨rfl, h.1.symm, h.2⟩
  | cons a r => simp at h
/-- the root was split: a new one -/
theorem put_root {q : Nat} {n1 : Nat} {v3 : Int} (hcore : Core P L V lvl) (hL : 1 ≤ L) (hL31 : L ≤ 31) (hr : root < 32) (h0 : V 0 = [([], (root : Int)), (s2, (q : Int))]) (h1 : ∀ n, n + 1 < L → V (n + 1) = exp P (V n)) (hfree : 1 ≤ nS P 0 32) (hs : LOk s2) (hs1 : 1 ≤ s2.length) (hq32 : q < 32) (hRC : RC C P root L (c1 + 1) c2 c3) (hKC : KyC C 1 s2) (hRX : RX X P root L c1 c2 c3) (hUp : UpX X s2) : FinA C X (f_X0_insertUpward_16 kCc (n1 + 1) v3 (q : Int) (-1) C) (bd (f_X8_newRoot (root : Int) (q : Int) (up X 95 3 ((X 95 3) + 1))) (fun C171 _ => (some (C171, -9)))) 0 (-9) := by
  obtain ⟨q2, hq2⟩ := lf_ex hfree
  obtain ⟨C', f1, f2, f3, f4, f5⟩ := sp_raise hcore.1 hRC.1 hq2 hRC.2.1 hr hKC (z := (q : Int)) (by omega)
  have hT1 : TX (up X 95 3 (X 95 3 + 1)) P := TX_fr hRX.1 (fun y => up_k (by omega))
  have hU1 : UpX (up X 95 3 (X 95 3 + 1)) s2 := ⟨by rw [up_j (by omega)]; exact hUp.1, fun j hj => by rw [up_k (by omega)]; exact hUp.2.1 j hj, hUp.2.2⟩
  obtain ⟨X', g1, g2, g3, g4, g5⟩ := mx_raise hcore.1 hT1 hq2 hU1 hs1 (r1 := (root : Int)) (r2 := (q : Int)) rfl (by omega)
  have hg := good_root hcore hL hL31 hr h0 h1 hq2.2.1 hq2.1 hs hs1 hq32
  refine ⟨C', X', _, q2, L + 1, c1 + 1, c2, c3, ?_, ?_, ⟨f2, f3, ?_, ?_, ?_, ?_⟩, ⟨g2, g3, ?_, ?_, ?_, ?_⟩, hg, ?_, ?_⟩
  · unfold f_X0_insertUpward_16 kCc
    rw [tLt (by omega), f1, bd_some]
  · rw [g1, bd_some]
  · rw [f4, hRC.2.2.1]; simp
  · rw [f5 _ _ (by omega) (by omega)]; exact hRC.2.2.2.1
  · rw [f5 _ _ (by omega) (by omega)]; exact hRC.2.2.2.2.1
  · rw [f5 _ _ (by omega) (by omega)]; exact hRC.2.2.2.2.2
  · rw [g4, up_j (by omega), hRX.2.2.1]; simp
  · rw [g5 _ _ (by omega) (by omega) (by omega) (by omega) (by omega), up_same, hRX.2.2.2.1]
  · rw [g5 _ _ (by omega) (by omega) (by omega) (by omega) (by omega), up_j (by omega)]; exact hRX.2.2.2.2.1
  · rw [g5 _ _ (by omega) (by omega) (by omega) (by omega) (by omega), up_j (by omega)]; exact hRX.2.2.2.2.2
  · exact fun x y h1 h2 h3 => f5 x y h1 (by omega)
  · intro a b hab
    rw [g5 a b (by omega) (by omega) (by omega) (by omega) (by omega), up_ap, if_neg (by omega)]
/-- what comes in upward, from an inner level on -/
theorem put_up : ∀ (t : Nat) (n1 n2 : Nat) (C X : Mem) (P : Nat → Pg) (V : Nat → List Ent) (lvl : Nat → Nat) (a b : List Ent) (w : List Int) (z : Nat) (c1 : Int) (v3 : Int), t + 1 < n1 → t + 1 < n2 → Pend C X P V lvl root L t W T As Bs ss a b w z c1 c2 c3 → v3 = (T t : Int) → FinA C X (f_X0_insertUpward_16 kCc n1 v3 (z : Int) (t : Int) C) (f_X8_putKey_104 kX n2 (t : Int) ((W t : Nat) : Int) X) 0 (-9)
  | _, 0, _ => by intros; omega
  | _, _, 0 => by intros; omega
  | 0, n1 + 1, n2 + 1 => by
    intro C X P V lvl a b w z c1 v3 hn1 hn2 hP hv3
    by_cases hfit : szs (a ++ (w, (z : Int)) :: b) ≤ 61
    · exact put_fit hP hv3 hfit
    · obtain ⟨q, x, y, v, C1, X1, k1, k2, k3, k4, k5, k6, k7, k8, k9, k10, k11, k12, k13, k14, k15⟩ := put_spl (n1 := n1) (n2 := n2) hP hv3 (by omega)
      obtain ⟨hcore, hL31, ht, hr, h0, heq, hpth, hW0, hW32, hes, hal, hpend, hfree, hz32, hw, hw1, hroot, hRC, hWC, hKC, hRX, hWX, hRow⟩ := hP
      have hvt := hpth.1 0 (Nat.le_refl 0)
      rw [h0] at hvt
      obtain ⟨s1, s2, s3⟩ := single hvt
      have s2a : ss 0 = [] := congrArg Prod.fst s2
      rw [k8, k15, tEq (by omega), hW0]
      obtain ⟨m, rfl⟩ : ∃ m, n1 = m + 1 := ⟨n1 - 1, by omega⟩
      refine Fin_tr (Fc_KpC k11) (Fx_KpX k14) (put_root (C := C1) (X := X1) (s2 := v.1) k5 (by omega) hL31 hr ?_ ?_ (by omega) k3 k4 k2 k9 k10 k12 k13)
      · rw [uV_s, s1, s3, s2a, hW0]
        rfl
      · intro n hn
        exact k6 n hn (by omega)
  | t + 1, n1 + 1, n2 + 1 => by
    intro C X P V lvl a b w z c1 v3 hn1 hn2 hP hv3
    by_cases hfit : szs (a ++ (w, (z : Int)) :: b) ≤ 61
    · exact put_fit hP hv3 hfit
    · obtain ⟨q, x, y, v, C1, X1, k1, k2, k3, k4, k5, k6, k7, k8, k9, k10, k11, k12, k13, k14, k15⟩ := put_spl (n1 := n1) (n2 := n2) hP hv3 (by omega)
      obtain ⟨hcore, hL31, ht, hr, h0, heq, hpth, hW0, hW32, hes, hal, hpend, hfree, hz32, hw, hw1, hroot, hRC, hWC, hKC, hRX, hWX, hRow⟩ := hP
      obtain ⟨a', b', pre, d1, d2, d3, d4, d5⟩ := hpth.2 t (by omega)
      have hvt1 := hpth.1 (t + 1) (Nat.le_refl _)
      have hvt := hpth.1 t (by omega)
      have hso1 := Core_sort hcore (n := t + 1) (by omega) (show (ss (t + 1), ((W (t + 1) : Nat) : Int)) ∈ V (t + 1) by rw [hvt1]; simp)
      -- pages of upper levels are as they were
      have hup : ∀ n, n ≤ t → ∀ e ∈ V n, uP (uP P (W (t + 1)) (2, (P (W (t + 1))).2.1, x)) q (2, v.2, y) e.2.toNat = P e.2.toNat := by
        intro n hn e he
        have h1 := Core_free hcore k1 (show n < L by omega) he
        obtain ⟨k, q1, q2, q3, q4⟩ := hcore.2.1 n (by omega) e he
        rw [uP_o (by omega), uP_o (by intro h; have : k = W (t + 1) := by omega
                                      rw [this] at q3; omega)]
      have hWt : ∀ n, n ≤ t → uP (uP P (W (t + 1)) (2, (P (W (t + 1))).2.1, x)) q (2, v.2, y) (W n) = P (W n) := by
        intro n hn
        have := hup n hn (ss n, ((W n : Nat) : Int)) (by rw [hpth.1 n (by omega)]; simp)
        simpa using this
      have hAs : ∀ n, n ≤ t → exp (uP (uP P (W (t + 1)) (2, (P (W (t + 1))).2.1, x)) q (2, v.2, y)) (As n) = exp P (As n) := by
        intro n hn
        exact exp_c (fun e he => hup n hn e (by rw [hpth.1 n (by omega)]; simp; exact Or.inl he))
      have hBs : ∀ n, n ≤ t → exp (uP (uP P (W (t + 1)) (2, (P (W (t + 1))).2.1, x)) q (2, v.2, y)) (Bs n) = exp P (Bs n) := by
        intro n hn
        exact exp_c (fun e he => hup n hn e (by rw [hpth.1 n (by omega)]; simp; exact Or.inr (Or.inr he)))
      have hso := Core_sort hcore (n := t) (by omega) (show (ss t, ((W t : Nat) : Int)) ∈ V t by rw [hvt]; simp)
      rw [if_neg (by omega)] at hso
      have hpA : uP (uP P (W (t + 1)) (2, (P (W (t + 1))).2.1, x)) q (2, v.2, y) (W t) = (2, (P (W t)).2.1, a' ++ b') := by
        rw [hWt t (by omega), ← d1, ← hso.2.2]
      obtain ⟨X2, m1, m2, m3, m4, m5, m6, m7⟩ := mx_next (K := kX) (n := n2) k5.1 k12.1 k13 k4 (WayX_Fx hWX k14) (t := t) (by omega) (by omega) rfl (hW32 t (by omega)) hpA d2.symm (r := (q : Int)) (v2 := ((t + 1 : Nat) : Int) + -1) (by omega) (by omega)
      have hp2 : Pend C1 X2 (uP (uP P (W (t + 1)) (2, (P (W (t + 1))).2.1, x)) q (2, v.2, y)) (uV V (t + 1) (As (t + 1) ++ (ss (t + 1), ((W (t + 1) : Nat) : Int)) :: (v.1, (q : Int)) :: Bs (t + 1))) (fun k => if k = q then t + 1 else lvl k) root L t W T As Bs ss a' b' v.1 q (c1 + 1) c2 c3 := by
        refine ⟨k5, hL31, by omega, hr, ?_, ?_, ⟨?_, ?_⟩, hW0, hW32, ?_, d2, ?_, by omega, k2, k3, k4, ?_, k9, WayC_Fc hWC k11, k10, RX_Fx k12 m4 m2 ?_ ?_ ?_, WayX_Fx (WayX_Fx hWX k14) m4, m3⟩
        · rw [uV_o (by omega)]; exact h0
        · intro n hn hnt
          exact k6 n hn (by omega)
        · intro n hn
          rw [uV_o (by omega)]
          exact hpth.1 n (by omega)
        · intro n hn
          obtain ⟨a2, b2, pre2, g1, g2, g3, g4, g5⟩ := hpth.2 n (by omega)
          refine ⟨a2, b2, pre2, ?_, g2, ?_, ?_, ?_⟩
          · rw [hWt n (by omega)]; exact g1
          · rw [hWt n (by omega)]; exact g3
          · rw [hAs n (by omega)]; exact g4
          · rw [hBs n (by omega)]; exact g5
        · rw [hWt t (by omega)]; exact d1
        · rw [uV_s, hAs t (by omega), hBs t (by omega), hWt t (by omega), d4, d5]
          have : (ss t, (P (W t)).2.1) :: ((a' ++ (v.1, (q : Int)) :: b') ++ exp P (Bs t)) = ((ss t, (P (W t)).2.1) :: a') ++ (v.1, (q : Int)) :: (b' ++ exp P (Bs t)) := by simp
          rw [this, d3]
          simp
        · intro h0t
          have h1 := Core_sort hcore (n := 0) (i := root) (s := []) (by omega) (by rw [h0]; simp)
          have : uP (uP P (W (t + 1)) (2, (P (W (t + 1))).2.1, x)) q (2, v.2, y) root = P root := by
            rw [← hW0]; exact hWt 0 (by omega)
          rw [this]
          exact hroot (by omega)
        · rw [m5, k12.2.2.2.1]
        · rw [m6, k12.2.2.2.2.1]
        · rw [m7, k12.2.2.2.2.2]
      have hslot : C 22 (t + 1) = (T t : Int) := hWC.2 t (by omega)
      have ih := put_up t n1 n2 C1 X2 _ _ _ a' b' v.1 q (c1 + 1) (C 22 (t + 1)) (by omega) (by omega) hp2 hslot
      rw [k8, k15, fEq (by omega), ix_t (by omega), m1, show ((t + 1 : Nat) : Int) + -1 = (t : Int) by omega]
      exact Fin_tr (Fc_KpC k11) (KpX_tr (Fx_KpX k14) (Fx_KpX m4)) ih
end PU

/-! LOAD: the model; sharing the last two. -/
/-- row and key -/
def Frk (X X' : Mem) : Prop := ∀ a b, a ≠ 97 → a ≠ 98 → a ≠ 99 → a ≠ 101 → ¬ (a = 95 ∧ (b = 6 ∨ b = 12)) → X' a b = X a b
/-- leaves between bounds -/
def PB (f s : Int) (N : Nat) (B : Nat → Nat) : Nat → Pg := fun p => if p ≤ N then (1, if p < N then (p : Int) + 2 else 0, sg f s (B p) (B (p + 1) - B p)) else (0, 0, [])
def BOk (N n : Nat) (B : Nat → Nat) : Prop := B 0 = 0 ∧ (∀ p, p ≤ N → B p < B (p + 1) ∧ B (p + 1) ≤ B p + 12) ∧ B (N + 1) = n
section L2
variable {C C' X X' : Mem} {P P' : Nat → Pg} {f s : Int} {a b m n N c k p : Nat} {B : Nat → Nat} {es x y : List Ent} {u v : Ent}
theorem Frk_refl : Frk X X := fun _ _ _ _ _ _ _ => rfl
theorem Frk_tr {X2 : Mem} (h1 : Frk X X') (h2 : Frk X' X2) : Frk X X2 := fun a b q1 q2 q3 q4 q5 => by rw [h2 a b q1 q2 q3 q4 q5, h1 a b q1 q2 q3 q4 q5]
theorem Fro_Frk (h : Fro X X') : Frk X X' := fun a b q1 q2 q3 q4 q5 => h a b q1 q2 q3 (by omega)
theorem lm_fill53 {K : Int → Mem → Option (Mem × Int)} {u4 u5 : Int} (h : LdOk f s n) (hu5 : u5 = (p : Int)) (hp : 12 * p ≤ n) : ∀ (m k c : Nat) (v6 : Int) (Y : Mem), c + m = min 12 (n - 12 * p) → v6 = ((12 * p + c : Nat) : Int) → m < k → RowX Y (sg f s (12 * p) c) → ∃ Y' v', f_X8_loads_53 f s (n : Int) u4 u5 K k v6 Y = K v' Y' ∧ RowX Y' (sg f s (12 * p) (min 12 (n - 12 * p))) ∧ Frk Y Y'
  | _, 0 => by intros; omega
  | 0, k + 1 => by
    intro c v6 Y h1 h2 _ h3
    have h60 := h.2.2.2.2.1
    refine ⟨Y, v6, ?_, by rw [← h1]; exact h3, Frk_refl⟩
    unfold f_X8_loads_53
    by_cases hn : 12 * p + c < n
    · rw [tLt (by omega), fLt (by omega)]
    · rw [fLt (by omega)]
  | m + 1, k + 1 => by
    intro c v6 Y h1 h2 hk h3
    have h60 := h.2.2.2.2.1
    have hr := ks_rng h (k := 12 * p + c) (by omega)
    obtain ⟨Y1, s1, s2, s3⟩ := mx_spells (X := Y) (n := 3) (r := f + s * v6) (r2 := 3) rfl (by omega) (by rw [h2]; exact hr.1) (by rw [h2]; have := hr.2; omega)
    have hks : spl 3 (f + s * v6) = ksp f s (12 * p + c) := by unfold ksp; rw [h2]
    rw [hks] at s2
    have hR1 : RowX Y1 (sg f s (12 * p) c) := ⟨by rw [s3 _ _ (by omega) (by omega)]; exact h3.1, Rows_fr _ 0 h3.2.2 h3.2.1 (fun k _ _ => ⟨s3 _ _ (by omega) (by omega), s3 _ _ (by omega) (by omega), fun j _ => s3 _ _ (by omega) (by omega)⟩), h3.2.2⟩
    have hl := sg_len (f := f) (s := s) (a := 12 * p) c
    obtain ⟨Y2, m1, m2, m3⟩ := mx_in (a := sg f s (12 * p) c) (b := []) (c := 1) (w := ksp f s (12 * p + c)) (t := v6) (by rw [List.append_nil]; exact hR1) s2.2.1 ks_LOk (by rw [ks_len]; omega) (by omega) (by rw [List.append_nil, hl]; omega) (q := Y1 95 6) (n := 3) hR1.1 (by rw [ks_len]; rfl) (by omega)
    have hsn : sg f s (12 * p) c ++ [(ksp f s (12 * p + c), v6)] = sg f s (12 * p) (c + 1) := by rw [sg_snoc, h2]; rfl
    rw [hsn] at m2
    obtain ⟨Y', v', i1, i2, i3⟩ := lm_fill53 (K := K) (u4 := u4) h hu5 hp m k (c + 1) (v6 + 1) Y2 (by omega) (by omega) (by omega) m2
    refine ⟨Y', v', ?_, i2, Frk_tr (Frk_tr (fun a b q1 q2 q3 q4 q5 => s3 a b q4 (by omega)) (Fro_Frk m3)) i3⟩
    unfold f_X8_loads_53
    rw [tLt (by omega), tLt (by omega), s1, bd_some, m1, bd_some]
    exact i1
theorem lm_fill34 {K : Int → Mem → Option (Mem × Int)} (h : LdOk f s n) (hN : 12 * N + c = n) (hc : 1 ≤ c ∧ c ≤ 12) : ∀ (m k p : Nat) (v5 : Int) (Y : Mem), p + m = N + 1 → v5 = (p : Int) → m < k → TX Y (fun i => if i < p then PF f s N c i else (0, 0, [])) → ∃ Y' v', f_X8_loads_34 f s (n : Int) ((N : Int) + 1) K k v5 Y = K v' Y' ∧ TX Y' (PF f s N c) ∧ (∀ a b, a ≠ 96 → a ≠ 97 → a ≠ 98 → a ≠ 99 → a ≠ 101 → ¬ (a = 95 ∧ (b = 6 ∨ b = 12)) → Y' a b = Y a b)
  | _, 0 => by intros; omega
  | 0, k + 1 => by
    intro p v5 Y h1 h2 _ hT
    have h60 := h.2.2.2.2.1
    refine ⟨Y, v5, ?_, ?_, fun _ _ _ _ _ _ _ _ => rfl⟩
    · unfold f_X8_loads_34
      rw [fLt (by omega)]
    · intro i hi j hj
      rw [hT i hi j hj]
      dsimp only
      by_cases hip : i < p
      · rw [if_pos hip]
      · rw [if_neg hip]
        unfold PF
        rw [if_neg (by omega), if_neg (by omega)]
  | m + 1, k + 1 => by
    intro p v5 Y h1 h2 hk hT
    have hfu := FU_eq
    have h60 := h.2.2.2.2.1
    obtain ⟨Y1, v', i1, i2, i3⟩ := lm_fill53 (K := (fun (v6_e53 : Int) (C_e53 : Mem) => (jn ((fun (s3_125 : Int) => (bd (f_X8_goBack (v5) (1) (s3_125) (0) (C_e53 95 6) C_e53) (fun C130 _ => (f_X8_loads_34 f s (n : Int) ((N : Int) + 1) K k (v5 + 1) C130)))) : Int → Option (Mem × Int)) (fun j125 => (cLt (v5) (((N : Int) + 1) - 1) (j125 (v5 + 2)) (j125 (0))))))) (u4 := (N : Int) + 1) (u5 := v5) (p := p) h h2 (by omega) (min 12 (n - 12 * p)) FU 0 (12 * v5) (up Y 95 6 0) (by omega) (by omega) (by omega) RowX_nil
    have hl := sg_len (f := f) (s := s) (a := 12 * p) (min 12 (n - 12 * p))
    have hPFp : PF f s N c p = (1, if p < N then (p : Int) + 2 else 0, sg f s (12 * p) (min 12 (n - 12 * p))) := by
      unfold PF
      by_cases hpN : p < N
      · rw [if_pos hpN, if_pos hpN, show min 12 (n - 12 * p) = 12 by omega]
      · have : p = N := by omega
        subst this
        rw [if_neg (by omega), if_pos rfl, if_neg (by omega), show min 12 (n - 12 * p) = c by omega]
    have mk : ∀ l : Int, f_X8_goBack v5 1 l 0 (Y1 95 6) Y1 = some (stX Y1 p (enc 1 l (sg f s (12 * p) (min 12 (n - 12 * p)))), 0) := fun l => mx_back (x := []) (z := []) (by omega) h2 (by rw [List.append_nil]; exact i2.2.1) i2.2.2 (by simp [hl]; omega) (by rw [sg_szs]; omega) (by rfl) (by rw [i2.1]; simp)
    have hT1 : ∀ l : Int, l = (if p < N then (p : Int) + 2 else 0) → TX (stX Y1 p (enc 1 l (sg f s (12 * p) (min 12 (n - 12 * p))))) (fun i => if i < p + 1 then PF f s N c i else (0, 0, [])) := by
      intro l hl2 i hi j hj
      by_cases hip : i = p
      · subst hip
        rw [stX_in hj]
        dsimp only
        rw [if_pos (by omega), hPFp, hl2]
        rfl
      · rw [stX_o (by omega), i3 _ _ (by omega) (by omega) (by omega) (by omega) (by omega), up_k (by omega), hT i hi j hj]
        dsimp only
        by_cases h3 : i < p
        · rw [if_pos h3, if_pos (by omega)]
        · rw [if_neg h3, if_neg (by omega)]
    unfold f_X8_loads_34
    rw [tLt (by omega), i1, jn_eq]
    by_cases hpN : p < N
    · rw [tLt (by omega)]
      dsimp only
      obtain ⟨Y', v'', g1, g2, g3⟩ := lm_fill34 (K := K) h hN hc m k (p + 1) (v5 + 1) _ (by omega) (by omega) (by omega) (hT1 (v5 + 2) (by rw [if_pos hpN]; omega))
      refine ⟨Y', v'', ?_, g2, ?_⟩
      · rw [mk, bd_some]; exact g1
      · intro a b q1 q2 q3 q4 q5 q6
        rw [g3 a b q1 q2 q3 q4 q5 q6, stX_k q1, i3 a b q2 q3 q4 q5 q6, up_ap, if_neg (by omega)]
    · rw [fLt (by omega)]
      dsimp only
      obtain ⟨Y', v'', g1, g2, g3⟩ := lm_fill34 (K := K) h hN hc m k (p + 1) (v5 + 1) _ (by omega) (by omega) (by omega) (hT1 0 (by rw [if_neg hpN]))
      refine ⟨Y', v'', ?_, g2, ?_⟩
      · rw [mk, bd_some]; exact g1
      · intro a b q1 q2 q3 q4 q5 q6
        rw [g3 a b q1 q2 q3 q4 q5 q6, stX_k q1, i3 a b q2 q3 q4 q5 q6, up_ap, if_neg (by omega)]
theorem PB_c {b1 b2 k : Nat} (h1 : p ≤ N) (hb1 : B p = b1) (hb2 : B (p + 1) = b2) (hk : b2 - b1 = k) : PB f s N B p = (1, if p < N then (p : Int) + 2 else 0, sg f s b1 k) := by
  unfold PB
  rw [if_pos h1, hb1, hb2, hk]
theorem PB_o (h : N < p) : PB f s N B p = (0, 0, []) := by
  unfold PB
  rw [if_neg (by omega)]
theorem PF_PB (hN : 12 * N + c = n) : PF f s N c = PB f s N (fun p => if p ≤ N then 12 * p else n) := by
  funext p
  by_cases h1 : p < N
  · rw [PB_c (b1 := 12 * p) (b2 := 12 * (p + 1)) (k := 12) (by omega) (by rw [if_pos (by omega)]) (by rw [if_pos (by omega)]) (by omega), if_pos h1]
    unfold PF
    rw [if_pos h1]
  · by_cases h2 : p = N
    · subst h2
      rw [PB_c (b1 := 12 * p) (b2 := n) (k := c) (by omega) (by rw [if_pos (by omega)]) (by rw [if_neg (by omega)]) (by omega), if_neg h1, PF_N]
    · rw [PB_o (by omega)]
      unfold PF
      rw [if_neg h1, if_neg h2]
theorem B0_ok (hN : 12 * N + c = n) (hc : 1 ≤ c ∧ c ≤ 12) : BOk N n (fun p => if p ≤ N then 12 * p else n) := by
  refine ⟨by simp, ?_, if_neg (by omega)⟩
  intro p hp
  dsimp only
  rw [if_pos hp]
  by_cases h : p + 1 ≤ N
  · rw [if_pos h]; omega
  · rw [if_neg h]; omega
theorem PB_ok (hB : BOk N n B) (hn : n ≤ 60) (hN : N ≤ 4) : TOk (PB f s N B) := by
  have hle : ∀ p, p ≤ N + 1 → B p ≤ n := by
    intro p hp
    have key : ∀ d, p + d = N + 1 → B p ≤ B (p + d) := by
      intro d
      induction d generalizing p with
      | zero => intro _; exact Nat.le_refl _
      | succ d ih =>
        intro h
        have h1 := ih (p + 1) (by omega) (by omega)
        have h2 := (hB.2.1 p (by omega)).1
        rw [show p + (d + 1) = p + 1 + d by omega]
        omega
    have := key (N + 1 - p) (by omega)
    rw [show p + (N + 1 - p) = N + 1 by omega, hB.2.2] at this
    exact this
  intro p hp
  unfold PB
  by_cases h1 : p ≤ N
  · rw [if_pos h1]
    have h2 := hB.2.1 p h1
    have h3 := hle (p + 1) (by omega)
    refine ⟨sg_ok _ (by omega), by show szs (sg f s (B p) (B (p + 1) - B p)) ≤ 61; rw [sg_szs]; omega, by show (0 : Int) ≤ 1 ∧ (1 : Int) ≤ 2; omega, ?_⟩
    show (0 : Int) ≤ (if p < N then (p : Int) + 2 else 0) ∧ (if p < N then (p : Int) + 2 else 0) ≤ 255
    split <;> omega
  · rw [if_neg h1]
    exact ⟨(by intro e he; cases he), by show szs [] ≤ 61; rw [szs_nil]; omega, by show (0 : Int) ≤ 0 ∧ (0 : Int) ≤ 2; omega, by show (0 : Int) ≤ 0 ∧ (0 : Int) ≤ 255; omega⟩
/-- the last two leaves share -/
theorem ld_share (h : LdOk f s n) (hN : 12 * N + c = n) (hc : 1 ≤ c ∧ c ≤ 12) (hN1 : 1 ≤ N) (hTC : TC C (PF f s N c)) (hTX : TX X (PF f s N c)) {K : Mem → Option (Mem × Int)} : ∃ C' X' B, BOk N n B ∧ f_X0_shareWithLast (N : Int) C = some (C', 0) ∧ TC C' (PB f s N B) ∧ (∀ x y, (x < 10 ∨ 20 ≤ x) → x < 61 → C' x y = C x y) ∧ (bd (f_X8_usedOf (((N : Int) + 1) - 1) X) (fun C150 r150 => (cLt (r150) (32) (bd (f_X8_comeOut (((N : Int) + 1) - 2) (up C150 95 6 (0))) (fun C168 _ => (bd (f_X8_comeOut (((N : Int) + 1) - 1) C168) (fun C176 _ => (bd (f_X8_share (((N : Int) + 1) - 2) (((N : Int) + 1) - 1) (1) (0) (0) C176) (fun C191 _ => (K C191))))))) (K C150)))) = K X' ∧ TX X' (PB f s N B) ∧ Fx X X' ∧ X' 95 3 = X 95 3 ∧ X' 95 4 = X 95 4 ∧ X' 95 5 = X 95 5 := by
  have h60 := h.2.2.2.2.1
  have hok := PF_ok (f := f) (s := s) (N := N) (c := c) (by omega) hc.2
  have pN := TC_pg hok hTC (show N < 32 by omega)
  rw [PF_N] at pN
  have pN : PgC C N 1 0 (sg f s (12 * N) c) := pN
  have xN := TX_pg hok hTX (show N < 32 by omega)
  rw [PF_N] at xN
  have xN : PgX X N 1 0 (sg f s (12 * N) c) := xN
  have eM : PF f s N c (N - 1) = (1, (N : Int) + 1, sg f s (12 * (N - 1)) 12) := by
    unfold PF
    rw [if_pos (by omega), show ((N - 1 : Nat) : Int) + 2 = (N : Int) + 1 by omega]
  have pM := TC_pg hok hTC (show N - 1 < 32 by omega)
  rw [eM] at pM
  have pM : PgC C (N - 1) 1 ((N : Int) + 1) (sg f s (12 * (N - 1)) 12) := pM
  have xM := TX_pg hok hTX (show N - 1 < 32 by omega)
  rw [eM] at xM
  have xM : PgX X (N - 1) 1 ((N : Int) + 1) (sg f s (12 * (N - 1)) 12) := xM
  by_cases hsm : c ≤ 5
  · -- shared
    have hes : sg f s (12 * (N - 1)) 12 ++ sg f s (12 * N) c = sg f s (12 * (N - 1)) (12 + c) := by
      rw [sg_app, show 12 * (N - 1) + 12 = 12 * N by omega]
    have hok2 : EsOk (sg f s (12 * (N - 1)) (12 + c)) := sg_ok _ (by omega)
    have hsz2 : szs (sg f s (12 * (N - 1)) (12 + c)) = 5 * (12 + c) := sg_szs _
    obtain ⟨x', u, v, y, e1, e2, e3, e4, e5⟩ := hf_split hok2 (by omega)
    have e6 : szs (sg f s (12 * (N - 1)) (12 + c)) = szs (x' ++ [u]) + szs (v :: y) := by rw [e1, szs_app]
    -- the parts are rows too
    have hlen : 12 + c = (x' ++ [u]).length + (v :: y).length := by
      have := congrArg List.length e1
      rw [sg_len, List.length_append] at this
      exact this
    have hsplit := e1
    rw [hlen, sg_app] at hsplit
    obtain ⟨hx, hy⟩ := List.append_inj hsplit (by rw [sg_len])
    have hh1 : 1 ≤ (x' ++ [u]).length := by simp
    have hh2 : 1 ≤ (v :: y).length := by simp
    have s1 : szs (x' ++ [u]) = 5 * (x' ++ [u]).length := by conv => lhs; rw [← hx, sg_szs]
    have s2 : szs (v :: y) = 5 * (v :: y).length := by conv => lhs; rw [← hy, sg_szs]
    have hc0 : cmp u.1 v.1 < 0 := by
      -- neighbours of a rising row
      have hu : (x' ++ [u]) = sg f s (12 * (N - 1)) x'.length ++ [en f s (12 * (N - 1) + x'.length)] := by
        rw [← hx, show (x' ++ [u]).length = x'.length + 1 by simp]; rfl
      have hu2 := (List.append_inj' hu rfl).2
      have hv : v :: y = en f s (12 * (N - 1) + (x' ++ [u]).length) :: sg f s (12 * (N - 1) + (x' ++ [u]).length + 1) y.length := by
        rw [← sg_cons, ← hy]; rfl
      have hu3 : u = en f s (12 * (N - 1) + x'.length) := by simpa using hu2
      have hv3 : v = en f s (12 * (N - 1) + (x' ++ [u]).length) := (List.cons.inj hv).1
      rw [hu3, hv3]
      show cmp (ksp f s _) (ksp f s _) < 0
      simp at hlen
      exact ks_lt h (by simp) (by simp; omega)
    -- the class
    have w1 : PgC (stP C 33 (enc 1 ((N : Int) + 1) (sg f s (12 * (N - 1)) 12))) 33 1 ((N : Int) + 1) (sg f s (12 * (N - 1)) 12) := PgC_st pM.2.1 (by rw [sg_szs, pl_33]; omega) (by omega) (by omega)
    have w2 : PgC (stP C 33 (enc 1 ((N : Int) + 1) (sg f s (12 * (N - 1)) 12))) N 1 0 ([] ++ sg f s (12 * N) c ++ []) := PgC_k (by omega) (by simpa using pN)
    have w2' : PgC (stP C 33 (enc 1 ((N : Int) + 1) (sg f s (12 * (N - 1)) 12))) N 1 0 (sg f s (12 * N) c) := PgC_k (by omega) pN
    have w3 : PgC (stP C 33 (enc 1 ((N : Int) + 1) (sg f s (12 * (N - 1)) (12 + c)))) 33 1 ((N : Int) + 1) (sg f s (12 * (N - 1)) (12 + c)) := PgC_st hok2 (by rw [hsz2, pl_33]; omega) (by omega) (by omega)
    have w4 : PgC (stP C 33 (enc 1 ((N : Int) + 1) (sg f s (12 * (N - 1)) (12 + c)))) 33 1 ((N : Int) + 1) ((x' ++ [u]) ++ v :: y) := by rw [e1] at w3; rw [e1]; exact w3
    have hd := sp_dealL (l1 := (N : Int) + 1) (l2 := 0) w4 (i := N - 1) (j := N) (by omega) (by omega) (by omega) (by rw [stP_k (by omega)]; exact pM.1 2 (by rw [pl_32 (by omega)]; omega)) (by rw [stP_k (by omega)]; exact pN.1 2 (by rw [pl_32 (by omega)]; omega)) (by omega) (by omega) (by omega) (by omega) (z := ((hf (sg f s (12 * (N - 1)) (12 + c)) : Nat) : Int)) (by rw [e2])
    -- the model
    obtain ⟨X1, o1, o2, o3⟩ := mx_out0 xM (p := ((N : Int) + 1) - 2) (by omega)
    obtain ⟨X2, q1, q2, q3⟩ := mx_out (Fro_PgX xN o3) (p := ((N : Int) + 1) - 1) (by omega) o2 (by rw [sg_len, sg_len]; omega)
    rw [hes] at q2
    obtain ⟨X3, t1, t2, t3, t4, t5, t6, t7⟩ := mx_shareL (f := 0) (r5 := 0) (r1 := ((N : Int) + 1) - 2) (r2 := ((N : Int) + 1) - 1) (Fro_TX hTX (Fro_tr o3 q3)) q2 e1 e2 hc0 (by rw [sg_len]; omega) (by omega) (i := N - 1) (j := N) (by omega) (by omega) (by omega) (by omega) (by omega) (by omega)
    have hF := Fro_tr o3 q3
    have hPB : uP (uP (PF f s N c) (N - 1) (1, (N : Int) + 1, x' ++ [u])) N (1, 0, v :: y) = PB f s N (fun p => if p < N then 12 * p else if p = N then 12 * (N - 1) + (x' ++ [u]).length else n) := by
      funext p
      by_cases k1 : p = N
      · subst k1
        rw [uP_s, PB_c (b1 := 12 * (p - 1) + (x' ++ [u]).length) (b2 := n) (k := (v :: y).length) (Nat.le_refl _) (by rw [if_neg (by omega), if_pos rfl]) (by rw [if_neg (by omega), if_neg (by omega)]) (by omega), if_neg (by omega), hy]
      · rw [uP_o k1]
        by_cases k2 : p = N - 1
        · rw [k2, uP_s, PB_c (b1 := 12 * (N - 1)) (b2 := 12 * (N - 1) + (x' ++ [u]).length) (k := (x' ++ [u]).length) (by omega) (by rw [if_pos (by omega)]) (by rw [if_neg (by omega), if_pos (by omega)]) (by omega), if_pos (by omega), hx, show ((N - 1 : Nat) : Int) + 2 = (N : Int) + 1 by omega]
        · rw [uP_o k2]
          by_cases k3 : p < N
          · rw [PB_c (b1 := 12 * p) (b2 := 12 * (p + 1)) (k := 12) (by omega) (by rw [if_pos k3]) (by rw [if_pos (by omega)]) (by omega), if_pos k3]
            unfold PF
            rw [if_pos k3]
          · rw [PB_o (by omega)]
            unfold PF
            rw [if_neg k3, if_neg k1]
    refine ⟨stP (stP (stP C 33 (enc 1 ((N : Int) + 1) (sg f s (12 * (N - 1)) (12 + c)))) (N - 1) (enc 1 ((N : Int) + 1) (x' ++ [u]))) N (enc 1 0 (v :: y)), X3, fun p => if p < N then 12 * p else if p = N then 12 * (N - 1) + (x' ++ [u]).length else n, ⟨?_, ?_, ?_⟩, ?_, ?_, ?_, ?_, ?_, ?_, ?_, ?_, ?_⟩
    · dsimp only
      rw [if_pos (by omega)]
    · intro p hp
      dsimp only
      by_cases k1 : p = N
      · subst k1
        rw [if_neg (by omega), if_pos rfl, if_neg (by omega), if_neg (by omega)]
        omega
      · rw [if_pos (by omega)]
        by_cases k2 : p + 1 = N
        · rw [if_neg (by omega), if_pos k2]
          omega
        · rw [if_pos (by omega)]
          omega
    · dsimp only
      rw [if_neg (by omega), if_neg (by omega)]
    · unfold f_X0_shareWithLast
      rw [sp_pageOf (i := N - 1) (by omega) (by omega), bd_some, sp_pageOf rfl (by omega), bd_some, sp_used pN (by omega), bd_some, sg_szs, tLt (by omega), sp_copy (by omega) pM, bd_some, sp_entries w2', bd_some, sp_append (x := []) (by omega) w1 w2 (by rfl) (by simp) (by rw [hes, hsz2, pl_33]; omega), bd_some, stP_stP, hes, sp_half w3, bd_some, hd, bd_some]
    · rw [← hPB]
      exact TC_st (TC_st (TC_w hTC (by omega)) (by omega) ⟨rfl, rfl, rfl⟩) (by omega) ⟨rfl, rfl, rfl⟩
    · intro a b ha hb
      rw [stP_k (by omega), stP_k (by omega), stP_k (by omega)]
    · rw [mx_used xN (by omega) (by omega), bd_some, sg_szs, tLt (by omega), o1, bd_some, q1, bd_some, t1, bd_some]
    · rw [← hPB]; exact t2
    · exact Fx_tr (Fro_Fx hF) t4
    · rw [t5, hF _ _ (by omega) (by omega) (by omega) (by omega)]
    · rw [t6, hF _ _ (by omega) (by omega) (by omega) (by omega)]
    · rw [t7, hF _ _ (by omega) (by omega) (by omega) (by omega)]
  · refine ⟨C, X, _, B0_ok hN hc, ?_, by rw [← PF_PB hN]; exact hTC, fun _ _ _ _ => rfl, ?_, by rw [← PF_PB hN]; exact hTX, Fx_refl, rfl, rfl, rfl⟩
    · unfold f_X0_shareWithLast
      rw [sp_pageOf (i := N - 1) (by omega) (by omega), bd_some, sp_pageOf rfl (by omega), bd_some, sp_used pN (by omega), bd_some, sg_szs, fLt (by omega)]
    · rw [mx_used xN (by omega) (by omega), bd_some, sg_szs, fLt (by omega)]
end L2

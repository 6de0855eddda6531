/-! LOAD: the root over the leaves; whole. -/
def sq (f s : Int) (B : Nat → Nat) : Nat → List Ent
  | 0 => []
  | m + 1 => sq f s B m ++ [(sep (ksp f s (B (m + 1) - 1)) (ksp f s (B (m + 1))), ((m + 1 : Nat) : Int))]
def PR (f s : Int) (N : Nat) (B : Nat → Nat) (m : Nat) : Nat → Pg := uP (PB f s N B) (N + 1) (2, 0, sq f s B m)
section L3
variable {C C' X X' : Mem} {P P' : Nat → Pg} {f s c1 c2 c3 : Int} {a b m n N c k p root L : Nat} {B : Nat → Nat} {es x y : List Ent} {u v : Ent}
theorem uP_uP {i : Nat} {q r : Pg} : uP (uP P i q) i r = uP P i r := by
  funext j
  by_cases h : j = i
  · subst h; rw [uP_s, uP_s]
  · rw [uP_o h, uP_o h, uP_o h]
theorem B_mono (hB : BOk N n B) : ∀ d p, p + d ≤ N + 1 → B p + d ≤ B (p + d)
  | 0, p => by intro _; exact Nat.le_refl _
  | d + 1, p => by
    intro h
    have h1 := B_mono hB d p (by omega)
    have h2 := (hB.2.1 (p + d) (by omega)).1
    rw [show p + (d + 1) = p + d + 1 by omega]
    omega
theorem B_le (hB : BOk N n B) (hp : p ≤ N + 1) : B p ≤ n ∧ p ≤ B p := by
  have h1 := B_mono hB (N + 1 - p) p (by omega)
  rw [show p + (N + 1 - p) = N + 1 by omega, hB.2.2] at h1
  have h2 := B_mono hB p 0 (by omega)
  rw [hB.1, Nat.zero_add] at h2
  omega
theorem B_cmp (h : LdOk f s n) (hB : BOk N n B) (hm : m < N) : cmp (ksp f s (B (m + 1) - 1)) (ksp f s (B (m + 1))) < 0 := by
  have h1 := B_le hB (p := m + 1) (by omega)
  have h2 := (hB.2.1 (m + 1) (by omega)).1
  have h3 := B_le hB (p := m + 1 + 1) (by omega)
  exact ks_lt h (by omega) (by omega)
theorem sq_len : ∀ m, (sq f s B m).length = m
  | 0 => rfl
  | m + 1 => by
    show (sq f s B m ++ [_]).length = _
    simp [sq_len m]
theorem sq_ok (h : LdOk f s n) (hB : BOk N n B) (hN : N ≤ 4) : ∀ m, m ≤ N → EsOk (sq f s B m) ∧ szs (sq f s B m) ≤ 10 * m
  | 0, _ => ⟨(by intro e he; cases he), by show szs [] ≤ _; rw [szs_nil]; omega⟩
  | m + 1, hm => by
    have ih := sq_ok h hB hN m (by omega)
    have hc := B_cmp h hB (m := m) (by omega)
    have hl := sep_LOk (u := ksp f s (B (m + 1) - 1)) (v := ksp f s (B (m + 1))) ks_LOk
    refine ⟨EsOk_app.mpr ⟨ih.1, EsOk_cons.mpr ⟨⟨sep_pos hc, hl.1, hl.2, by show (0 : Int) ≤ ((m + 1 : Nat) : Int) ∧ ((m + 1 : Nat) : Int) ≤ 255; omega⟩, by intro e he; cases he⟩⟩, ?_⟩
    show szs (sq f s B m ++ [(sep (ksp f s (B (m + 1) - 1)) (ksp f s (B (m + 1))), ((m + 1 : Nat) : Int))]) ≤ _
    rw [szs_app, szs_cons, szs_nil]
    have := hl.1
    show _ + ((sep (ksp f s (B (m + 1) - 1)) (ksp f s (B (m + 1)))).length + 2 + 0) ≤ _
    omega
theorem PR_ok (h : LdOk f s n) (hB : BOk N n B) (hN : N ≤ 4) (hm : m ≤ N) : TOk (PR f s N B m) := by
  have hs := sq_ok h hB hN m hm
  exact TOk_u (PB_ok hB h.2.2.2.2.1 hN) ⟨hs.1, by show szs (sq f s B m) ≤ 61; omega, by show (0 : Int) ≤ 2 ∧ (2 : Int) ≤ 2; omega, by show (0 : Int) ≤ 0 ∧ (0 : Int) ≤ 255; omega⟩
theorem PR_leaf (hp : p ≤ N) : PR f s N B m p = (1, if p < N then (p : Int) + 2 else 0, sg f s (B p) (B (p + 1) - B p)) := by
  unfold PR
  rw [uP_o (by omega)]
  unfold PB
  rw [if_pos hp]
theorem PR_root : PR f s N B m (N + 1) = (2, 0, sq f s B m) := by unfold PR; rw [uP_s]
theorem PR_next : uP (PR f s N B m) (N + 1) (2, 0, sq f s B (m + 1)) = PR f s N B (m + 1) := by unfold PR; rw [uP_uP]
theorem sg_last (h : a < b) : sg f s a (b - a) = sg f s a (b - a - 1) ++ [en f s (b - 1)] := by
  rw [show b - a = (b - a - 1) + 1 by omega, sg_snoc, show a + (b - a - 1) = b - 1 by omega]
  rfl
theorem sg_first (h : a < b) : sg f s a (b - a) = en f s a :: sg f s (a + 1) (b - a - 1) := by
  rw [show b - a = (b - a - 1) + 1 by omega, sg_cons]
  rfl
/-- separators come into the root: the class -/
theorem lp_cov {K : Int → Mem → Option (Mem × Int)} (h : LdOk f s n) (hB : BOk N n B) (hN : N ≤ 4) : ∀ (d k m : Nat) (v3 : Int) (M : Mem), m + d = N → v3 = (m : Int) + 1 → d < k → TC M (PR f s N B m) → ∃ M', f_X0_coverLeaves_45 (N : Int) (N + 1) K k v3 M = K ((N : Int) + 1) M' ∧ TC M' (PR f s N B N) ∧ (∀ x y, (x < 10 ∨ 20 ≤ x) → x < 61 → M' x y = M x y)
  | _, 0 => by intros; omega
  | 0, k + 1 => by
    intro m v3 M h1 h2 _ hT
    have : m = N := by omega
    subst this
    refine ⟨M, ?_, hT, fun _ _ _ _ => rfl⟩
    unfold f_X0_coverLeaves_45
    rw [tLt (by omega), h2]
  | d + 1, k + 1 => by
    intro m v3 M h1 h2 hk hT
    have hok := PR_ok h hB hN (m := m) (by omega)
    have b1 := (hB.2.1 m (by omega)).1
    have b2 := (hB.2.1 (m + 1) (by omega)).1
    have p0 := TC_pg hok hT (show m < 32 by omega)
    rw [PR_leaf (by omega)] at p0
    have p0 : PgC M m 1 (if m < N then (m : Int) + 2 else 0) (sg f s (B m) (B (m + 1) - B m)) := p0
    have p0e := sp_entries p0
    rw [sg_len] at p0e
    have p0' := p0
    rw [sg_last b1] at p0'
    have p1 := TC_pg hok hT (show m + 1 < 32 by omega)
    rw [PR_leaf (by omega)] at p1
    have p1 : PgC M (m + 1) 1 (if m + 1 < N then ((m + 1 : Nat) : Int) + 2 else 0) (sg f s (B (m + 1)) (B (m + 1 + 1) - B (m + 1))) := p1
    rw [sg_first b2] at p1
    have pr := TC_pg hok hT (show N + 1 < 32 by omega)
    rw [PR_root] at pr
    have pr : PgC M (N + 1) 2 0 (sq f s B m) := pr
    have f1 : Fk M (stK M 2 (en f s (B (m + 1) - 1)).1) := Fk_stK (by omega)
    have f2 : Fk (stK M 2 (en f s (B (m + 1) - 1)).1) (stK (stK M 2 (en f s (B (m + 1) - 1)).1) 1 (en f s (B (m + 1))).1) := Fk_stK (by omega)
    have k1 : KyC (stK (stK M 2 (en f s (B (m + 1) - 1)).1) 1 (en f s (B (m + 1))).1) 1 (ksp f s (B (m + 1))) := stK_KC ks_LOk
    have k2 : KyC (stK (stK M 2 (en f s (B (m + 1) - 1)).1) 1 (en f s (B (m + 1))).1) 2 (ksp f s (B (m + 1) - 1)) := ⟨by rw [stK_o (by omega) (by omega)]; exact stK_l, fun j hj => by rw [stK_o (by omega) (by omega)]; exact (stK_KC (C := M) (k := 2) ks_LOk).2.1 j hj, ks_LOk⟩
    have hc := B_cmp h hB (m := m) (by omega)
    have f3 : Fk M (up (stK (stK M 2 (en f s (B (m + 1) - 1)).1) 1 (en f s (B (m + 1))).1) (10 + 2 * 1) 1 ((sep (ksp f s (B (m + 1) - 1)) (ksp f s (B (m + 1)))).length : Int)) := Fk_up (by omega) (Fk_tr f1 f2)
    have k3 := KC_cut k1 hc
    have pr3 := Fk_PgC pr f3
    have pr3' : PgC (up (stK (stK M 2 (en f s (B (m + 1) - 1)).1) 1 (en f s (B (m + 1))).1) (10 + 2 * 1) 1 ((sep (ksp f s (B (m + 1) - 1)) (ksp f s (B (m + 1)))).length : Int)) (N + 1) 2 0 (sq f s B m ++ []) := by rw [List.append_nil]; exact pr3
    have hsq := sq_ok h hB hN (m + 1) (by omega)
    have hsqe : sq f s B m ++ (sep (ksp f s (B (m + 1) - 1)) (ksp f s (B (m + 1))), v3) :: [] = sq f s B (m + 1) := by rw [h2]; rfl
    have hins := sp_insert (t := v3) pr3' k3 (by omega) (z := ((sq f s B m).length : Int)) rfl (by rw [hsqe, pl_32 (by omega)]; omega)
    rw [hsqe] at hins
    have hT2 : TC (stP (up (stK (stK M 2 (en f s (B (m + 1) - 1)).1) 1 (en f s (B (m + 1))).1) (10 + 2 * 1) 1 ((sep (ksp f s (B (m + 1) - 1)) (ksp f s (B (m + 1)))).length : Int)) (N + 1) (enc 2 0 (sq f s B (m + 1)))) (PR f s N B (m + 1)) := by
      rw [← PR_next]
      exact TC_st (Fk_TC hT f3) (by omega) ⟨rfl, rfl, rfl⟩
    obtain ⟨M', i1, i2, i3⟩ := lp_cov (K := K) h hB hN d k (m + 1) (v3 + 1) _ (by omega) (by omega) (by omega) hT2
    refine ⟨M', ?_, i2, fun x y hx hy => by rw [i3 x y hx hy, stP_k (by omega), f3 x y hx]⟩
    unfold f_X0_coverLeaves_45
    rw [fLt (by omega), sp_pageOf (i := m) (by omega) (by omega), bd_some, p0e, bd_some, sp_readKey (by omega) p0' (by rw [sg_len]; omega), bd_some, sp_pageOf (i := m + 1) (by omega) (by omega), bd_some, sp_readKey (a := []) (by omega) (Fk_PgC p1 f1) (by rfl), bd_some, sp_cut k1 k2 hc, bd_some, sp_entries pr3, bd_some, hins, bd_some]
    exact i1
/-- .. the model -/
theorem lm_cov {K : Int → Mem → Option (Mem × Int)} (h : LdOk f s n) (hB : BOk N n B) (hN : N ≤ 4) : ∀ (d k m : Nat) (v2 : Int) (Y : Mem), m + d = N → v2 = (m : Int) + 1 → d < k → TX Y (PR f s N B m) → Y 95 1 = (N : Int) + 1 → ∃ Y', f_X8_loadsInner_24 ((N : Int) + 1) K k v2 Y = K ((N : Int) + 1) Y' ∧ TX Y' (PR f s N B N) ∧ Fx Y Y' ∧ Y' 95 3 = Y 95 3 ∧ Y' 95 4 = Y 95 4 ∧ Y' 95 5 = Y 95 5
  | _, 0 => by intros; omega
  | 0, k + 1 => by
    intro m v2 Y h1 h2 _ hT hR
    have : m = N := by omega
    subst this
    refine ⟨Y, ?_, hT, Fx_refl, rfl, rfl, rfl⟩
    unfold f_X8_loadsInner_24
    rw [fLt (by omega), h2]
  | d + 1, k + 1 => by
    intro m v2 Y h1 h2 hk hT hR
    have hok := PR_ok h hB hN (m := m) (by omega)
    have b1 := (hB.2.1 m (by omega))
    have b2 := (hB.2.1 (m + 1) (by omega))
    have p0 := TX_pg hok hT (show m < 32 by omega)
    rw [PR_leaf (by omega)] at p0
    have p0 : PgX Y m 1 (if m < N then (m : Int) + 2 else 0) (sg f s (B m) (B (m + 1) - B m)) := p0
    have p1 := TX_pg hok hT (show m + 1 < 32 by omega)
    rw [PR_leaf (by omega)] at p1
    have p1 : PgX Y (m + 1) 1 (if m + 1 < N then ((m + 1 : Nat) : Int) + 2 else 0) (sg f s (B (m + 1)) (B (m + 1 + 1) - B (m + 1))) := p1
    have pr := TX_pg hok hT (show N + 1 < 32 by omega)
    rw [PR_root] at pr
    have pr : PgX Y (N + 1) 2 0 (sq f s B m) := pr
    obtain ⟨Y1, o1, o2, o3⟩ := mx_out0 p0 (p := v2 - 1) (by omega)
    obtain ⟨Y2, q1, q2, q3⟩ := mx_out (Fro_PgX p1 o3) (p := v2) (by omega) o2 (by rw [sg_len, sg_len]; omega)
    have hF2 := Fro_tr o3 q3
    have hn1 : Y1 95 6 = ((B (m + 1) - B m : Nat) : Int) := by rw [o2.1, sg_len]
    have hrow : sg f s (B m) (B (m + 1) - B m) ++ sg f s (B (m + 1)) (B (m + 1 + 1) - B (m + 1)) = sg f s (B m) (B (m + 1) - B m - 1) ++ en f s (B (m + 1) - 1) :: en f s (B (m + 1)) :: sg f s (B (m + 1) + 1) (B (m + 1 + 1) - B (m + 1) - 1) := by
      rw [sg_last b1.1, sg_first b2.1]
      simp
    rw [hrow] at q2
    have hle := B_le hB (p := m + 1) (by omega)
    have h60 := h.2.2.2.2.1
    have eu : EOk (en f s (B (m + 1) - 1)) := en_ok (by omega)
    have ev : EOk (en f s (B (m + 1))) := en_ok (by omega)
    have hc := B_cmp h hB (m := m) (by omega)
    have hsh : f_X8_shortest (Y1 95 6) Y2 = some (Y2, ((cp (ksp f s (B (m + 1) - 1)) (ksp f s (B (m + 1))) + 1 : Nat) : Int)) := mx_short (r := Y1 95 6) q2.2.1 eu ev (by rw [sg_len]; omega) (by rw [hn1, sg_len]; omega)
    have q2' := q2.2.1
    have e9 : sg f s (B m) (B (m + 1) - B m - 1) ++ en f s (B (m + 1) - 1) :: en f s (B (m + 1)) :: sg f s (B (m + 1) + 1) (B (m + 1 + 1) - B (m + 1) - 1) = (sg f s (B m) (B (m + 1) - B m - 1) ++ [en f s (B (m + 1) - 1)]) ++ en f s (B (m + 1)) :: sg f s (B (m + 1) + 1) (B (m + 1 + 1) - B (m + 1) - 1) := by simp
    rw [e9] at q2'
    have rv := Rows_mid q2'
    rw [Nat.zero_add, show (sg f s (B m) (B (m + 1) - B m - 1) ++ [en f s (B (m + 1) - 1)]).length = B (m + 1) - B m by simp [sg_len]; omega] at rv
    have hcp := cp_lt _ _ hc
    obtain ⟨Y3, u1, u2, u3⟩ := mx_goesUp (r := Y1 95 6) (r2 := ((cp (ksp f s (B (m + 1) - 1)) (ksp f s (B (m + 1))) + 1 : Nat) : Int)) (c := cp (ksp f s (B (m + 1) - 1)) (ksp f s (B (m + 1))) + 1) (by omega) hn1 ev hcp rfl rv
    have u2 : UpX Y3 (sep (ksp f s (B (m + 1) - 1)) (ksp f s (B (m + 1)))) := u2
    have hF3 : Fx Y Y3 := Fx_tr (Fro_Fx hF2) (Fu_Fx u3)
    have hT3 : TX Y3 (PR f s N B m) := Fu_TX (Fro_TX hT hF2) u3
    have hR3 : Y3 95 1 = (N : Int) + 1 := by rw [hF3 _ _ (by omega) (by omega) (by omega) (by omega) (by omega) (by omega)]; exact hR
    have pr3 := TX_pg hok hT3 (show N + 1 < 32 by omega)
    rw [PR_root] at pr3
    have pr3 : PgX Y3 (N + 1) 2 0 (sq f s B m) := pr3
    obtain ⟨Y4, w1, w2, w3⟩ := mx_out0 pr3 (p := (N : Int) + 1) (by omega)
    have u4 := UpX_ro u2 w3
    have hlq := sq_len (f := f) (s := s) (B := B) m
    obtain ⟨Y5, v1, v2', v3⟩ := mx_in (a := sq f s B m) (b := []) (c := 0) (t := v2) (by rw [List.append_nil]; exact w2) u4.2.1 u4.2.2 (sep_pos hc) (by omega) (by rw [List.append_nil, hlq]; omega) (q := Y4 95 6) (n := Y4 95 10) w2.1 u4.1 (by omega)
    have hsqe : sq f s B m ++ (sep (ksp f s (B (m + 1) - 1)) (ksp f s (B (m + 1))), v2) :: [] = sq f s B (m + 1) := by rw [h2]; rfl
    rw [hsqe] at v2'
    have hF5 := Fro_tr w3 v3
    have hR5 : Y5 95 1 = (N : Int) + 1 := by rw [hF5 _ _ (by omega) (by omega) (by omega) (by omega)]; exact hR3
    have hsq := sq_ok h hB hN (m + 1) (by omega)
    have mk := mx_back (X := Y5) (i := N + 1) (p := Y5 95 1) (s := 2) (l := 0) (x := []) (y := sq f s B (m + 1)) (z := []) (q4 := 0) (q5 := Y5 95 6) (by omega) (by rw [hR5]; omega) (by rw [List.append_nil]; exact v2'.2.1) hsq.1 (by simp [sq_len]; omega) (by omega) (by rfl) (by rw [v2'.1]; simp)
    have hT6 : TX (stX Y5 (N + 1) (enc 2 0 (sq f s B (m + 1)))) (PR f s N B (m + 1)) := by
      rw [← PR_next]
      exact TX_st (Fro_TX hT3 hF5) ⟨rfl, rfl, rfl⟩
    have hF6 : Fx Y (stX Y5 (N + 1) (enc 2 0 (sq f s B (m + 1)))) := Fx_st (Fx_tr hF3 (Fro_Fx hF5))
    have cnt : ∀ t, t = 3 ∨ t = 4 ∨ t = 5 → (stX Y5 (N + 1) (enc 2 0 (sq f s B (m + 1)))) 95 t = Y 95 t := by
      intro t ht
      rw [stX_k (by omega), hF5 _ _ (by omega) (by omega) (by omega) (by omega), u3 _ _ (by omega) (by omega), hF2 _ _ (by omega) (by omega) (by omega) (by omega)]
    obtain ⟨Y', i1, i2, i3, i4, i5, i6⟩ := lm_cov (K := K) h hB hN d k (m + 1) (v2 + 1) _ (by omega) (by omega) (by omega) hT6 (by rw [stX_k (by omega)]; exact hR5)
    refine ⟨Y', ?_, i2, Fx_tr hF6 i3, by rw [i4, cnt 3 (by omega)], by rw [i5, cnt 4 (by omega)], by rw [i6, cnt 5 (by omega)]⟩
    unfold f_X8_loadsInner_24
    rw [tLt (by omega), o1, bd_some, q1, bd_some, hsh, bd_some]
    show bd (f_X8_goesUp (Y1 95 6) _ Y2) _ = _
    rw [u1, bd_some, up_j (by omega), hR3, w1, bd_some, v1, bd_some, mk, bd_some]
    exact i1
end L3

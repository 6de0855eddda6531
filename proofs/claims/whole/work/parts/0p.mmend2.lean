/-! MODEL: sharing anew; the root goes. -/
theorem uP_comm {P : Nat → Pg} {i j : Nat} {p q : Pg} (h : i ≠ j) : uP (uP P i p) j q = uP (uP P j q) i p := by
  funext k
  by_cases h1 : k = i
  · subst h1; rw [uP_o h, uP_s, uP_s]
  · by_cases h2 : k = j
    · subst h2; rw [uP_s, uP_o h1, uP_s]
    · rw [uP_o h2, uP_o h1, uP_o h1, uP_o h2]
section MN
variable {X X' : Mem} {P : Nat → Pg} {i j k q o L t A : Nat} {s l p la ll lr : Int} {es a b x y z le re ws : List Ent} {e u v : Ent} {w : List Int} {pg : Pg} {W T : Nat → Nat} {root : Nat}
theorem mx_mendL (ho : TOk P) (hT : TX X P) (hW : WayX X L W T) (hL32 : L ≤ 32) (ht : t + 1 < L) (hA : W t = A) (hA32 : A < 32) (hp : P A = (2, la, a ++ e :: b)) (hb : Btw (T t) (a ++ e :: b).length a.length) (hTl : T t ≤ (a ++ e :: b).length) (hi : chd (P A) a.length = (i : Int)) (hi32 : i < 32) (hj : e.2 = (j : Int)) (hj32 : j < 32) (hpi : P i = (1, ll, le)) (hpj : P j = (1, lr, re)) (h61 : 61 < szs (le ++ re)) (hiA : i ≠ A) (hjA : j ≠ A) (hij : i ≠ j) (hws : le ++ re = (x ++ [u]) ++ v :: y) (hh : hf (le ++ re) = (x ++ [u]).length) (hc : cmp u.1 v.1 < 0) (hx : szs (x ++ [u]) ≤ 61) (hy : szs (v :: y) ≤ 61) (hll : ll = (j : Int) + 1) {r : Int} (hr : r = (t : Int) + 1) : ∃ X', f_X8_mends r X = some (X', 0) ∧ Fx X X' ∧ X' 95 3 = X 95 3 ∧ X' 95 4 = X 95 4 ∧ ((61 < szs (a ++ (sep u.1 v.1, e.2) :: b) ∧ TX X' P ∧ X' 95 5 = X 95 5) ∨ (szs (a ++ (sep u.1 v.1, e.2) :: b) ≤ 61 ∧ TX X' (uP (uP (uP P A (2, la, a ++ (sep u.1 v.1, e.2) :: b)) i (1, ll, x ++ [u])) j (1, lr, v :: y)) ∧ X' 95 5 = X 95 5 + 1)) := by
  obtain ⟨X1, g1, g2, g3, g4, g5⟩ := mx_mend1 ho hT hW hL32 ht hA hA32 hp hb hTl hi hi32 hj hj32 hpi hpj (Or.inl rfl) (Or.inl ⟨rfl, rfl⟩) hr
  have hpA := TX_pg ho hT hA32
  rw [hp] at hpA
  have hpA : PgX X A 2 la (a ++ e :: b) := hpA
  have hgi := TX_pg ho hT hi32
  rw [hpi] at hgi
  have hgi : PgX X i 1 ll le := hgi
  have hgj := TX_pg ho hT hj32
  rw [hpj] at hgj
  have hgj : PgX X j 1 lr re := hgj
  have hzA := hpA.2.2.1
  have he := EsOk_mid hpA.2.1
  have e8 : szs (a ++ e :: b) = szs a + (e.1.length + 2 + szs b) := by rw [szs_app, szs_cons]
  have e9 : szs (a ++ (sep u.1 v.1, e.2) :: b) = szs a + ((sep u.1 v.1).length + 2 + szs b) := by rw [szs_app, szs_cons]
  obtain ⟨X2, s1, s2, s3⟩ := mx_setL (r := ((hf (le ++ re) : Nat) : Int)) (by rw [hws] at g1; exact g1) hc (by rw [← hws]; exact g3) (by rw [hh])
  have hF2 := Fru_tr g2 (Fu_Fru s3)
  have hsl := s2.2.2.1
  have pre : f_X8_mends r X = cLt (64) ((((3 + szs (a ++ e :: b) : Nat) : Int) - (e.1.length : Int)) + ((sep u.1 v.1).length : Int)) (some (X2, 0)) (bd (f_X8_at (i : Int) (2) X2) (fun C322 r322 => (bd (f_X8_at (j : Int) (2) C322) (fun C329 r329 => (bd (f_X8_share (i : Int) (j : Int) 1 (r322) (r329) C329) (fun C332 _ => (bd (f_X8_comeOut (A : Int) (up C332 95 6 (0))) (fun C342 _ => (ix (a.length : Int) 48 (bd (f_X8_goesOut (a.length : Int) C342) (fun C357 _ => (bd (f_X8_comesIn (a.length : Int) 0 (C357 95 10) (C342 (99) (a.length : Int).toNat) C357) (fun C373 _ => (bd (f_X8_at (A : Int) (2) C373) (fun C382 r382 => (bd (f_X8_goBack (A : Int) (2) (r382) (0) (C382 95 6) C382) (fun C390 _ => (some ((up C390 95 5 ((C390 95 5) + 1)), 0))))))))))))))))))) := by
    rw [g5, tLt (by omega)]
    unfold mShare
    rw [mx_half g1 g3 (by omega), bd_some, s1, bd_some, mx_used (Fru_PgX hpA hF2) rfl (by omega), bd_some, mx_len (Fru_PgX hpA hF2) rfl rfl, bd_some, s2.1]
  rw [pre]
  by_cases hb2 : 61 < szs (a ++ (sep u.1 v.1, e.2) :: b)
  · rw [tLt (by omega)]
    refine ⟨X2, rfl, Fru_Fx hF2, ?_, ?_, Or.inl ⟨hb2, Fru_TX hT hF2, ?_⟩⟩
    · exact hF2 _ _ (by omega) (by omega) (by omega) (by omega) (by omega)
    · exact hF2 _ _ (by omega) (by omega) (by omega) (by omega) (by omega)
    · exact hF2 _ _ (by omega) (by omega) (by omega) (by omega) (by omega)
  · have oks := g1.2.2
    rw [hws] at oks
    have oks1 := EsOk_app.mp oks
    obtain ⟨X3, t1, t2, t3, t4, t5, t6, t7⟩ := mx_shareL (f := ll) (r5 := lr) (Fru_TX hT hF2) (Fu_RowX s3 g1) hws hh hc g3 (by omega) hi32 hj32 (r1 := (i : Int)) (r2 := (j : Int)) rfl rfl hx hy
    have ho2 : TOk (uP (uP P i (1, (j : Int) + 1, x ++ [u])) j (1, lr, v :: y)) := TOk_u (TOk_u ho ⟨oks1.1, hx, by show (0 : Int) ≤ 1 ∧ (1 : Int) ≤ 2; omega, by show (0 : Int) ≤ (j : Int) + 1 ∧ (j : Int) + 1 ≤ 255; omega⟩) ⟨oks1.2, hy, by show (0 : Int) ≤ 1 ∧ (1 : Int) ≤ 2; omega, hgj.2.2.2.2.1⟩
    obtain ⟨X4, a1, a2, a3, a4, a5, a6⟩ := mx_above ho2 t2 hA32 (by rw [uP_o hjA.symm, uP_o hiA.symm]; exact hp) t3 (sep_pos hc) (by omega)
    rw [fLt (by omega), mx_2 (Fru_PgX hgi hF2) rfl, bd_some, mx_2 (Fru_PgX hgj hF2) rfl, bd_some, t1, bd_some]
    have hF3 : Fx X X3 := Fx_tr (Fru_Fx hF2) t4
    refine ⟨X4, a1, Fx_tr hF3 a3, ?_, ?_, Or.inr ⟨by omega, ?_, ?_⟩⟩
    · rw [a4, t5]; exact hF2 _ _ (by omega) (by omega) (by omega) (by omega) (by omega)
    · rw [a5, t6]; exact hF2 _ _ (by omega) (by omega) (by omega) (by omega) (by omega)
    · rw [uP_comm hjA, uP_comm hiA, ← hll] at a2
      exact a2
    · rw [a6, t7, hF2 _ _ (by omega) (by omega) (by omega) (by omega) (by omega)]
theorem mx_mendI (ho : TOk P) (hT : TX X P) (hW : WayX X L W T) (hL32 : L ≤ 32) (ht : t + 1 < L) (hA : W t = A) (hA32 : A < 32) (hp : P A = (2, la, a ++ e :: b)) (hb : Btw (T t) (a ++ e :: b).length a.length) (hTl : T t ≤ (a ++ e :: b).length) (hi : chd (P A) a.length = (i : Int)) (hi32 : i < 32) (hj : e.2 = (j : Int)) (hj32 : j < 32) (hpi : P i = (2, ll, le)) (hpj : P j = (2, lr, re)) (hws0 : ws = le ++ (e.1, lr) :: re) (h61 : 61 < szs ws) (hiA : i ≠ A) (hjA : j ≠ A) (hij : i ≠ j) (hws : ws = x ++ v :: y) (hh : hf ws = x.length) (hx : szs x ≤ 61) (hy : szs y ≤ 61) {r : Int} (hr : r = (t : Int) + 1) : ∃ X', f_X8_mends r X = some (X', 0) ∧ Fx X X' ∧ X' 95 3 = X 95 3 ∧ X' 95 4 = X 95 4 ∧ ((61 < szs (a ++ (v.1, e.2) :: b) ∧ TX X' P ∧ X' 95 5 = X 95 5) ∨ (szs (a ++ (v.1, e.2) :: b) ≤ 61 ∧ TX X' (uP (uP (uP P A (2, la, a ++ (v.1, e.2) :: b)) i (2, ll, x)) j (2, v.2, y)) ∧ X' 95 5 = X 95 5 + 1)) := by
  obtain ⟨X1, g1, g2, g3, g4, g5⟩ := mx_mend1 ho hT hW hL32 ht hA hA32 hp hb hTl hi hi32 hj hj32 hpi hpj (Or.inr rfl) (Or.inr ⟨rfl, hws0⟩) hr
  have hpA := TX_pg ho hT hA32
  rw [hp] at hpA
  have hpA : PgX X A 2 la (a ++ e :: b) := hpA
  have hgi := TX_pg ho hT hi32
  rw [hpi] at hgi
  have hgi : PgX X i 2 ll le := hgi
  have hgj := TX_pg ho hT hj32
  rw [hpj] at hgj
  have hgj : PgX X j 2 lr re := hgj
  have hzA := hpA.2.2.1
  have he := EsOk_mid hpA.2.1
  have e8 : szs (a ++ e :: b) = szs a + (e.1.length + 2 + szs b) := by rw [szs_app, szs_cons]
  have e9 : szs (a ++ (v.1, e.2) :: b) = szs a + (v.1.length + 2 + szs b) := by rw [szs_app, szs_cons]
  obtain ⟨X2, s1, s2, s3⟩ := mx_setI (r := ((hf ws : Nat) : Int)) (by rw [hws] at g1; exact g1) (by rw [← hws]; exact g3) (by rw [hh])
  have hF2 := Fru_tr g2 (Fu_Fru s3)
  have hsl := s2.2.2.1
  have pre : f_X8_mends r X = cLt (64) ((((3 + szs (a ++ e :: b) : Nat) : Int) - (e.1.length : Int)) + (v.1.length : Int)) (some (X2, 0)) (bd (f_X8_at (i : Int) (2) X2) (fun C322 r322 => (bd (f_X8_at (j : Int) (2) C322) (fun C329 r329 => (bd (f_X8_share (i : Int) (j : Int) 2 (r322) (r329) C329) (fun C332 _ => (bd (f_X8_comeOut (A : Int) (up C332 95 6 (0))) (fun C342 _ => (ix (a.length : Int) 48 (bd (f_X8_goesOut (a.length : Int) C342) (fun C357 _ => (bd (f_X8_comesIn (a.length : Int) 0 (C357 95 10) (C342 (99) (a.length : Int).toNat) C357) (fun C373 _ => (bd (f_X8_at (A : Int) (2) C373) (fun C382 r382 => (bd (f_X8_goBack (A : Int) (2) (r382) (0) (C382 95 6) C382) (fun C390 _ => (some ((up C390 95 5 ((C390 95 5) + 1)), 0))))))))))))))))))) := by
    rw [g5, tLt (by omega)]
    unfold mShare
    rw [mx_half g1 g3 (by omega), bd_some, s1, bd_some, mx_used (Fru_PgX hpA hF2) rfl (by omega), bd_some, mx_len (Fru_PgX hpA hF2) rfl rfl, bd_some, s2.1]
  rw [pre]
  by_cases hb2 : 61 < szs (a ++ (v.1, e.2) :: b)
  · rw [tLt (by omega)]
    refine ⟨X2, rfl, Fru_Fx hF2, ?_, ?_, Or.inl ⟨hb2, Fru_TX hT hF2, ?_⟩⟩
    · exact hF2 _ _ (by omega) (by omega) (by omega) (by omega) (by omega)
    · exact hF2 _ _ (by omega) (by omega) (by omega) (by omega) (by omega)
    · exact hF2 _ _ (by omega) (by omega) (by omega) (by omega) (by omega)
  · have oks := g1.2.2
    rw [hws] at oks
    have oks1 := EsOk_app.mp oks
    have oks2 := EsOk_cons.mp oks1.2
    obtain ⟨X3, t1, t2, t3, t4, t5, t6, t7⟩ := mx_shareI (f := ll) (r5 := lr) (Fru_TX hT hF2) (Fu_RowX s3 g1) hws hh g3 (by omega) hi32 hj32 (r1 := (i : Int)) (r2 := (j : Int)) rfl rfl hx hy
    have ho2 : TOk (uP (uP P i (2, ll, x)) j (2, v.2, y)) := TOk_u (TOk_u ho ⟨oks1.1, hx, by show (0 : Int) ≤ 2 ∧ (2 : Int) ≤ 2; omega, hgi.2.2.2.2.1⟩) ⟨oks2.2, hy, by show (0 : Int) ≤ 2 ∧ (2 : Int) ≤ 2; omega, oks2.1.2.2.2⟩
    obtain ⟨X4, a1, a2, a3, a4, a5, a6⟩ := mx_above ho2 t2 hA32 (by rw [uP_o hjA.symm, uP_o hiA.symm]; exact hp) t3 oks2.1.1 (by omega)
    rw [fLt (by omega), mx_2 (Fru_PgX hgi hF2) rfl, bd_some, mx_2 (Fru_PgX hgj hF2) rfl, bd_some, t1, bd_some]
    have hF3 : Fx X X3 := Fx_tr (Fru_Fx hF2) t4
    refine ⟨X4, a1, Fx_tr hF3 a3, ?_, ?_, Or.inr ⟨by omega, ?_, ?_⟩⟩
    · rw [a4, t5]; exact hF2 _ _ (by omega) (by omega) (by omega) (by omega) (by omega)
    · rw [a5, t6]; exact hF2 _ _ (by omega) (by omega) (by omega) (by omega) (by omega)
    · rw [uP_comm hjA, uP_comm hiA] at a2
      exact a2
    · rw [a6, t7, hF2 _ _ (by omega) (by omega) (by omega) (by omega) (by omega)]
end MN

/-! CLASS: mending. -/
section MD
variable {C C' : Mem} {P : Nat → Pg} {i j k q A L : Nat} {s l ll lr la : Int} {es a b x y le re ws : List Ent} {p : Pg} {e u v : Ent} {w : List Int} {W T : Nat → Nat} {root : Nat}
/-- what two neighbours have together -/
def Ws (s : Int) (e : Ent) (lr : Int) (le re ws : List Ent) : Prop := (s = 1 ∧ ws = le ++ re) ∨ (s = 2 ∧ ws = le ++ (e.1, lr) :: re)
theorem Fw_PgC (h : PgC C i s l es) (hi : i ≠ 33) (hf : Fw C C') : PgC C' i s l es := ⟨fun j hj => by rw [hf _ _ (by omega) (by omega)]; exact h.1 j hj, h.2⟩
theorem Fw_TC (h : TC C P) (hf : Fw C C') : TC C' P := fun i hi j hj => by rw [hf _ _ (by omega) (by omega)]; exact h i hi j hj
theorem Fw_Fc (h : Fw C C') : Fc C C' := fun x y hx hy => h x y (by omega) (by omega)
theorem Fk_Fw (h : Fk C C') : Fw C C' := fun x y hx _ => h x y hx
theorem Fw_tr {C2 : Mem} (h1 : Fw C C') (h2 : Fw C' C2) : Fw C C2 := fun x y hx hy => by rw [h2 x y hx hy, h1 x y hx hy]
theorem stP_link {z : Int} : up (stP C i (enc s l es)) (61 + i) 2 z = stP C i (enc s z es) := by
  have h2 := pl_ge i
  refine stP_ext ?_ ?_ ?_
  · intro p q hp
    rw [up_k hp, stP_k hp]
  · intro q hq
    unfold stP
    rw [up_j (by omega), stI_out (by omega)]
  · intro q hq
    by_cases h : q = 2
    · subst h; rw [up_same, enc_2]
    · rw [up_j h, stP_in hq]
      unfold enc
      by_cases h0 : q = 0
      · rw [if_pos h0, if_pos h0]
      · rw [if_neg h0, if_neg h0]
        by_cases h1 : q = 1
        · rw [if_pos h1, if_pos h1]
        · rw [if_neg h1, if_neg h1, if_neg h, if_neg h]
theorem sp_gather (hA : PgC C A 2 la (a ++ e :: b)) (hAn : A ≠ 33) (h1 : PgC C i s ll le) (hi : i ≠ 33) (h2 : PgC C j s lr re) (hj : j ≠ 33) (hw : Ws s e lr le re ws) (h61 : szs le ≤ 61) (h62 : szs re ≤ 61) {z : Int} (hz : z = (a.length : Int)) : ∃ C', f_X0_gather A z i j C = some (C', 0) ∧ PgC C' 33 s ll ws ∧ Fw C C' := by
  have p3 := pl_33
  have he := EsOk_mid hA.2.1
  have w1 : PgC (stP C 33 (enc s ll le)) 33 s ll le := PgC_st h1.2.1 (by omega) h1.2.2.2.1 h1.2.2.2.2
  rcases hw with ⟨hs, hws⟩ | ⟨hs, hws⟩
  · subst hs
    have g2 : PgC (stP C 33 (enc 1 ll le)) j 1 lr ([] ++ re ++ []) := PgC_k (by omega) (by simpa using h2)
    have g3 : PgC (stP C 33 (enc 1 ll le)) j 1 lr re := PgC_k (by omega) h2
    refine ⟨stP C 33 (enc 1 ll (le ++ re)), ?_, ?_, ?_⟩
    · unfold f_X0_gather
      rw [sp_copy (by omega) h1, bd_some, sp_sort w1, bd_some, jn_eq, fEq (by omega)]
      dsimp only
      rw [sp_entries g3, bd_some, sp_append (x := []) (by omega) w1 g2 (by rfl) (by simp) (by rw [szs_app]; omega), bd_some, stP_stP]
    · rw [hws]
      exact PgC_st (EsOk_app.mpr ⟨h1.2.1, h2.2.1⟩) (by rw [szs_app]; omega) h1.2.2.2.1 h1.2.2.2.2
    · exact fun x y hx hy => stP_k (by omega)
  · subst hs
    have hl := EOk_L he
    have k0 : Fk (stP C 33 (enc 2 ll le)) (stK (stP C 33 (enc 2 ll le)) 1 e.1) := Fk_stK (by omega)
    have w1' : PgC (stK (stP C 33 (enc 2 ll le)) 1 e.1) 33 2 ll (le ++ []) := by rw [List.append_nil]; exact Fk_PgC w1 k0
    have w1'' : PgC (stK (stP C 33 (enc 2 ll le)) 1 e.1) 33 2 ll le := Fk_PgC w1 k0
    have gA : PgC (stP C 33 (enc 2 ll le)) A 2 la (a ++ e :: b) := PgC_k (by omega) hA
    have g3 : PgC (stK (stP C 33 (enc 2 ll le)) 1 e.1) j 2 lr re := Fk_PgC (PgC_k (by omega) h2) k0
    have k1 : KyC (stK (stP C 33 (enc 2 ll le)) 1 e.1) 1 e.1 := stK_KC hl
    have hsz : szs (le ++ [(e.1, lr)]) ≤ 71 := by rw [szs_app, szs_cons, szs_nil]; have := hl.1; show _ + (e.1.length + 2 + 0) ≤ _; omega
    have hes : EsOk (le ++ [(e.1, lr)]) := EsOk_app.mpr ⟨h1.2.1, EsOk_cons.mpr ⟨⟨he.1, hl.1, hl.2, h2.2.2.2.2⟩, by intro e he; cases he⟩⟩
    have w2 : PgC (stP (stK (stP C 33 (enc 2 ll le)) 1 e.1) 33 (enc 2 ll (le ++ [(e.1, lr)]))) 33 2 ll (le ++ [(e.1, lr)]) := PgC_st hes (by omega) h1.2.2.2.1 h1.2.2.2.2
    have g4 : PgC (stP (stK (stP C 33 (enc 2 ll le)) 1 e.1) 33 (enc 2 ll (le ++ [(e.1, lr)]))) j 2 lr ([] ++ re ++ []) := PgC_k (by omega) (by simpa using g3)
    have g4' : PgC (stP (stK (stP C 33 (enc 2 ll le)) 1 e.1) 33 (enc 2 ll (le ++ [(e.1, lr)]))) j 2 lr re := PgC_k (by omega) g3
    refine ⟨stP (stK (stP C 33 (enc 2 ll le)) 1 e.1) 33 (enc 2 ll ((le ++ [(e.1, lr)]) ++ re)), ?_, ?_, ?_⟩
    · unfold f_X0_gather
      rw [sp_copy (by omega) h1, bd_some, sp_sort w1, bd_some, jn_eq, tEq (by omega), sp_readKey (by omega) gA hz, bd_some, sp_entries w1'', bd_some, sp_link g3, bd_some, sp_insert w1' k1 (by omega) rfl (by omega), bd_some]
      dsimp only
      rw [sp_entries g4', bd_some, sp_append (x := []) (by omega) w2 g4 (by rfl) (by simp) (by rw [szs_app]; omega), bd_some, stP_stP]
    · have e1 : ws = (le ++ [(e.1, lr)]) ++ re := by rw [hws]; simp
      rw [e1]
      exact PgC_st (EsOk_app.mpr ⟨hes, h2.2.1⟩) (by rw [szs_app]; omega) h1.2.2.2.1 h1.2.2.2.2
    · exact fun x y hx hy => by rw [stP_k (by omega), stK_o (by omega) (by omega), stP_k (by omega)]
theorem sp_join (hw : PgC C 33 s ll ws) (hs : s = 1 ∨ s = 2) (h61 : szs ws ≤ 61) (hi : i < 32) (hj : j < 32) (hij : i ≠ j) (hr : C (61 + j) 2 = lr) : f_X0_join i j C = some (up (stP (stP C i (enc s (if s = 1 then lr else ll) ws)) j (enc 0 0 [])) 2 5 (C 2 5 + 1), 0) := by
  have w2 : PgC (stP C i (enc s ll ws)) 33 s ll ws := PgC_k (by omega) hw
  unfold f_X0_join
  rw [sp_copy (by omega) hw, bd_some, sp_sort w2, bd_some, jn_eq]
  rcases hs with hs | hs
  · subst hs
    rw [tEq (by omega), rw_link, bd_some, stP_k (by omega), hr, sp_setLink, bd_some, stP_link]
    dsimp only
    rw [sp_release, bd_some, if_pos rfl, stP_k (by omega), stP_k (by omega)]
  · subst hs
    rw [fEq (by omega)]
    dsimp only
    rw [sp_release, bd_some, if_neg (by omega), stP_k (by omega), stP_k (by omega)]
/-- sharing anew: refused, or done -/
theorem sp_shareL (ho : TOk P) (hT : TC C P) (hA : P A = (2, la, a ++ e :: b)) (hA32 : A < 32) (hi : i < 32) (hj : j < 32) (hiA : i ≠ A) (hjA : j ≠ A) (hij : i ≠ j) (hw : PgC C 33 1 ll ws) (hws : ws = (x ++ [u]) ++ v :: y) (hh : hf ws = (x ++ [u]).length) (hc : cmp u.1 v.1 < 0) (hx : szs (x ++ [u]) ≤ 61) (hy : szs (v :: y) ≤ 61) {z : Int} (hz : z = (a.length : Int)) : ∃ C', f_X0_shareAnew A z i j C = some (C', 0) ∧ Fc C C' ∧ C' 2 4 = C 2 4 ∧ C' 2 5 = C 2 5 ∧ ((61 < szs (a ++ (sep u.1 v.1, e.2) :: b) ∧ TC C' P ∧ C' 2 6 = C 2 6) ∨ (szs (a ++ (sep u.1 v.1, e.2) :: b) ≤ 61 ∧ TC C' (uP (uP (uP P A (2, la, a ++ (sep u.1 v.1, e.2) :: b)) i (1, (P i).2.1, x ++ [u])) j (1, (P j).2.1, v :: y)) ∧ C' 2 6 = C 2 6 + 1)) := by
  have hpA := TC_pg ho hT hA32
  rw [hA] at hpA
  have hpA : PgC C A 2 la (a ++ e :: b) := hpA
  have p1 : pl A = 64 := pl_32 hA32
  have he := EsOk_mid hpA.2.1
  have hszA : szs (a ++ e :: b) ≤ 61 := by have := (ho A hA32).2.1; rw [hA] at this; exact this
  rw [szs_app, szs_cons] at hszA
  obtain ⟨C1, r1, r2, r3⟩ := sp_rsL (z := ((hf ws : Nat) : Int)) (by rw [hws] at hw; exact hw) hc (by rw [hh])
  have hl := r2.2.2.1
  have gA : PgC C1 A 2 la (a ++ e :: b) := Fk_PgC hpA r3
  have e9 : szs (a ++ (sep u.1 v.1, e.2) :: b) = szs a + ((sep u.1 v.1).length + 2 + szs b) := by rw [szs_app, szs_cons]
  have e8 : szs (a ++ e :: b) = szs a + (e.1.length + 2 + szs b) := by rw [szs_app, szs_cons]
  have kl : C1 (10 + 2 * 1) 1 = ((sep u.1 v.1).length : Int) := r2.1
  have pre : f_X0_shareAnew A z i j C = cLt (64) ((((3 + szs (a ++ e :: b) : Nat) : Int) - (e.1.length : Int)) + ((sep u.1 v.1).length : Int)) (some (C1, 0)) (bd (f_X4_child A (z + 1) C1) (fun C43 r43 => (bd (f_X4_remove A (z) C43) (fun C50 _ => (bd (f_X4_insert A (z) 1 (r43) C50) (fun C61 _ => (bd (f_X0_deal ((hf ws : Nat) : Int) i j C61) (fun C70 _ => (some ((up C70 2 6 ((C70 2 6) + 1)), 0)))))))))) := by
    unfold f_X0_shareAnew
    rw [sp_half hw, bd_some, r1, bd_some, sp_used gA (by omega), bd_some, sp_letters gA hz, bd_some, kl]
  rw [pre]
  by_cases hb : 61 < szs (a ++ (sep u.1 v.1, e.2) :: b)
  · rw [tLt (by omega)]
    exact ⟨C1, rfl, Fk_Fc r3, r3 _ _ (by omega), r3 _ _ (by omega), Or.inl ⟨hb, Fk_TC hT r3, r3 _ _ (by omega)⟩⟩
  · rw [fLt (by omega), sp_child1 gA (by omega), bd_some, sp_remove gA hz, bd_some]
    have hab := EsOk_app.mp hpA.2.1
    have hbb := EsOk_cons.mp hab.2
    have m1 : PgC (stP C1 A (enc 2 la (a ++ b))) A 2 la (a ++ b) := PgC_st (EsOk_app.mpr ⟨hab.1, hbb.2⟩) (by rw [szs_app]; omega) hpA.2.2.2.1 hpA.2.2.2.2
    have m2 : KyC (stP C1 A (enc 2 la (a ++ b))) 1 (sep u.1 v.1) := KC_st r2 (by omega)
    rw [sp_insert m1 m2 (by omega) hz (by omega), bd_some, stP_stP]
    have m3 : PgC (stP C1 A (enc 2 la (a ++ (sep u.1 v.1, e.2) :: b))) 33 1 ll ((x ++ [u]) ++ v :: y) := PgC_k (by omega) (by rw [← hws]; exact Fk_PgC hw r3)
    have li := (ho i hi).2.2.2
    have lj := (ho j hj).2.2.2
    rw [sp_dealL (l1 := (P i).2.1) (l2 := (P j).2.1) m3 hi hj hij (by rw [stP_k (by omega), r3 _ _ (by omega)]; exact (TC_pg ho hT hi).1 2 (by rw [pl_32 hi]; omega)) (by rw [stP_k (by omega), r3 _ _ (by omega)]; exact (TC_pg ho hT hj).1 2 (by rw [pl_32 hj]; omega)) li lj hx hy (by rw [hh]), bd_some]
    refine ⟨_, rfl, Fc_up2 (Fc_st (Fc_st (Fc_st (Fk_Fc r3)))), ?_, ?_, Or.inr ⟨by omega, ?_, ?_⟩⟩
    · rw [up_j (by omega), stP_k (by omega), stP_k (by omega), stP_k (by omega), r3 _ _ (by omega)]
    · rw [up_j (by omega), stP_k (by omega), stP_k (by omega), stP_k (by omega), r3 _ _ (by omega)]
    · exact TC_up (TC_st (TC_st (TC_st (Fk_TC hT r3) hA32 ⟨rfl, rfl, rfl⟩) hi ⟨rfl, rfl, rfl⟩) hj ⟨rfl, rfl, rfl⟩) (by omega)
    · rw [up_same, stP_k (by omega), stP_k (by omega), stP_k (by omega), r3 _ _ (by omega)]
theorem sp_shareI (ho : TOk P) (hT : TC C P) (hA : P A = (2, la, a ++ e :: b)) (hA32 : A < 32) (hi : i < 32) (hj : j < 32) (hiA : i ≠ A) (hjA : j ≠ A) (hij : i ≠ j) (hw : PgC C 33 2 ll ws) (hws : ws = x ++ v :: y) (hh : hf ws = x.length) (hx : szs x ≤ 61) (hy : szs y ≤ 61) {z : Int} (hz : z = (a.length : Int)) : ∃ C', f_X0_shareAnew A z i j C = some (C', 0) ∧ Fc C C' ∧ C' 2 4 = C 2 4 ∧ C' 2 5 = C 2 5 ∧ ((61 < szs (a ++ (v.1, e.2) :: b) ∧ TC C' P ∧ C' 2 6 = C 2 6) ∨ (szs (a ++ (v.1, e.2) :: b) ≤ 61 ∧ TC C' (uP (uP (uP P A (2, la, a ++ (v.1, e.2) :: b)) i (2, (P i).2.1, x)) j (2, v.2, y)) ∧ C' 2 6 = C 2 6 + 1)) := by
  have hpA := TC_pg ho hT hA32
  rw [hA] at hpA
  have hpA : PgC C A 2 la (a ++ e :: b) := hpA
  have p1 : pl A = 64 := pl_32 hA32
  have he := EsOk_mid hpA.2.1
  have hszA : szs (a ++ e :: b) ≤ 61 := by have := (ho A hA32).2.1; rw [hA] at this; exact this
  rw [szs_app, szs_cons] at hszA
  obtain ⟨C1, r1, r2, r3⟩ := sp_rsI (z := ((hf ws : Nat) : Int)) (by rw [hws] at hw; exact hw) (by rw [hh])
  have hl := r2.2.2.1
  have gA : PgC C1 A 2 la (a ++ e :: b) := Fk_PgC hpA r3
  have e9 : szs (a ++ (v.1, e.2) :: b) = szs a + (v.1.length + 2 + szs b) := by rw [szs_app, szs_cons]
  have e8 : szs (a ++ e :: b) = szs a + (e.1.length + 2 + szs b) := by rw [szs_app, szs_cons]
  have kl : C1 (10 + 2 * 1) 1 = (v.1.length : Int) := r2.1
  have pre : f_X0_shareAnew A z i j C = cLt (64) ((((3 + szs (a ++ e :: b) : Nat) : Int) - (e.1.length : Int)) + (v.1.length : Int)) (some (C1, 0)) (bd (f_X4_child A (z + 1) C1) (fun C43 r43 => (bd (f_X4_remove A (z) C43) (fun C50 _ => (bd (f_X4_insert A (z) 1 (r43) C50) (fun C61 _ => (bd (f_X0_deal ((hf ws : Nat) : Int) i j C61) (fun C70 _ => (some ((up C70 2 6 ((C70 2 6) + 1)), 0)))))))))) := by
    unfold f_X0_shareAnew
    rw [sp_half hw, bd_some, r1, bd_some, sp_used gA (by omega), bd_some, sp_letters gA hz, bd_some, kl]
  rw [pre]
  by_cases hb : 61 < szs (a ++ (v.1, e.2) :: b)
  · rw [tLt (by omega)]
    exact ⟨C1, rfl, Fk_Fc r3, r3 _ _ (by omega), r3 _ _ (by omega), Or.inl ⟨hb, Fk_TC hT r3, r3 _ _ (by omega)⟩⟩
  · rw [fLt (by omega), sp_child1 gA (by omega), bd_some, sp_remove gA hz, bd_some]
    have hab := EsOk_app.mp hpA.2.1
    have hbb := EsOk_cons.mp hab.2
    have m1 : PgC (stP C1 A (enc 2 la (a ++ b))) A 2 la (a ++ b) := PgC_st (EsOk_app.mpr ⟨hab.1, hbb.2⟩) (by rw [szs_app]; omega) hpA.2.2.2.1 hpA.2.2.2.2
    have m2 : KyC (stP C1 A (enc 2 la (a ++ b))) 1 v.1 := KC_st r2 (by omega)
    rw [sp_insert m1 m2 (by omega) hz (by omega), bd_some, stP_stP]
    have m3 : PgC (stP C1 A (enc 2 la (a ++ (v.1, e.2) :: b))) 33 2 ll (x ++ v :: y) := PgC_k (by omega) (by rw [← hws]; exact Fk_PgC hw r3)
    have li := (ho i hi).2.2.2
    rw [sp_dealI (l1 := (P i).2.1) m3 hi hj hij (by rw [stP_k (by omega), r3 _ _ (by omega)]; exact (TC_pg ho hT hi).1 2 (by rw [pl_32 hi]; omega)) li hx hy (by rw [hh]), bd_some]
    refine ⟨_, rfl, Fc_up2 (Fc_st (Fc_st (Fc_st (Fk_Fc r3)))), ?_, ?_, Or.inr ⟨by omega, ?_, ?_⟩⟩
    · rw [up_j (by omega), stP_k (by omega), stP_k (by omega), stP_k (by omega), r3 _ _ (by omega)]
    · rw [up_j (by omega), stP_k (by omega), stP_k (by omega), stP_k (by omega), r3 _ _ (by omega)]
    · exact TC_up (TC_st (TC_st (TC_st (Fk_TC hT r3) hA32 ⟨rfl, rfl, rfl⟩) hi ⟨rfl, rfl, rfl⟩) hj ⟨rfl, rfl, rfl⟩) (by omega)
    · rw [up_same, stP_k (by omega), stP_k (by omega), stP_k (by omega), r3 _ _ (by omega)]
end MD

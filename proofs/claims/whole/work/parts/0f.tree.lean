/-! CLASS: the tree's pages, sharing, splitting. -/
theorem hfA_spec (all : Nat) : ∀ (es : List Ent) (acc : Nat), 2 * acc < all → all ≤ 2 * (acc + szs es) → ∃ x u y, es = x ++ u :: y ∧ hfA all acc es = x.length + 1 ∧ 2 * (acc + szs x) < all ∧ all ≤ 2 * (acc + szs x + (u.1.length + 2))
  | [], acc => by intro h1 h2; simp [szs] at h2; omega
  | e :: r, acc => by
    intro h1 h2
    unfold hfA
    rw [if_pos h1]
    by_cases h3 : 2 * (acc + (e.1.length + 2)) < all
    · obtain ⟨x, u, y, e1, e2, e3, e4⟩ := hfA_spec all r (acc + (e.1.length + 2)) h3 (by simp [szs] at h2; omega)
      refine ⟨e :: x, u, y, by rw [e1]; rfl, by rw [e2]; rfl, ?_, ?_⟩
      · simp [szs]; omega
      · simp [szs]; omega
    · refine ⟨[], e, r, rfl, ?_, by simp [szs]; omega, by simp [szs]; omega⟩
      cases r with
      | nil => rfl
      | cons f t => unfold hfA; rw [if_neg h3]; rfl
theorem hf_split {es : List Ent} (h : EsOk es) (h1 : 61 < szs es) : ∃ x u v y, es = (x ++ [u]) ++ v :: y ∧ hf es = (x ++ [u]).length ∧ 2 * szs x < szs es ∧ szs es ≤ 2 * szs (x ++ [u]) ∧ szs (x ++ [u]) ≤ szs x + 10 := by
  obtain ⟨x, u, y, e1, e2, e3, e4⟩ := hfA_spec (szs es) es 0 (by omega) (by omega)
  have hu : EOk u := by rw [e1] at h; exact EsOk_mid h
  have hu2 := hu.2.1
  have h3 : szs es = szs x + (u.1.length + 2 + szs y) := by
    conv => lhs; rw [e1]
    rw [szs_app, szs_cons]
  have h4 : szs (x ++ [u]) = szs x + (u.1.length + 2) := by rw [szs_app, szs_cons, szs_nil]
  cases y with
  | nil => rw [szs_nil] at h3; omega
  | cons v t => exact ⟨x, u, v, t, by rw [e1]; simp, by unfold hf; rw [e2]; simp, by omega, by omega, by omega⟩
abbrev Pg : Type := Int × Int × List Ent
def eP (p : Pg) : Nat → Int := enc p.1 p.2.1 p.2.2
def POk (p : Pg) : Prop := EsOk p.2.2 ∧ szs p.2.2 ≤ 61 ∧ (0 ≤ p.1 ∧ p.1 ≤ 2) ∧ (0 ≤ p.2.1 ∧ p.2.1 ≤ 255)
def TOk (P : Nat → Pg) : Prop := ∀ i, i < 32 → POk (P i)
def TC (C : Mem) (P : Nat → Pg) : Prop := ∀ i, i < 32 → ∀ j, j < 64 → C (61 + i) j = eP (P i) j
def uP (P : Nat → Pg) (i : Nat) (p : Pg) : Nat → Pg := fun k => if k = i then p else P k
def IsLF (P : Nat → Pg) (q : Nat) : Prop := q < 32 ∧ (P q).1 = 0 ∧ ∀ i, i < q → (P i).1 ≠ 0
/-- what no change of the tree touches -/
def Fc (C C' : Mem) : Prop := ∀ x y, x ≠ 2 → (x < 10 ∨ (20 ≤ x ∧ x < 61)) → C' x y = C x y
/-- keys alone -/
def Fk (C C' : Mem) : Prop := ∀ x y, (x < 10 ∨ 20 ≤ x) → C' x y = C x y
section TR
variable {C C' : Mem} {P : Nat → Pg} {i j k q : Nat} {s l : Int} {es x y : List Ent} {p : Pg} {u v : Ent} {w : List Int}
theorem uP_s : uP P i p i = p := by unfold uP; rw [if_pos rfl]
theorem uP_o (h : j ≠ i) : uP P i p j = P j := by unfold uP; rw [if_neg h]
theorem TOk_u (h : TOk P) (hp : POk p) : TOk (uP P i p) := by
  intro j hj
  by_cases hji : j = i
  · subst hji; rw [uP_s]; exact hp
  · rw [uP_o hji]; exact h j hj
theorem pl_32 (h : i < 32) : pl i = 64 := pl_64 (by omega)
theorem TC_pg (ho : TOk P) (h : TC C P) (hi : i < 32) : PgC C i (P i).1 (P i).2.1 (P i).2.2 := by
  have h1 := ho i hi
  refine ⟨fun j hj => h i hi j (by rw [pl_32 hi] at hj; exact hj), h1.1, ?_, ⟨h1.2.2.1.1, by have := h1.2.2.1; omega⟩, h1.2.2.2⟩
  rw [pl_32 hi]
  have := h1.2.1
  omega
theorem TC_st (h : TC C P) (hi : i < 32) (hp : s = p.1 ∧ l = p.2.1 ∧ es = p.2.2) : TC (stP C i (enc s l es)) (uP P i p) := by
  obtain ⟨h1, h2, h3⟩ := hp
  subst h1 h2 h3
  intro j hj t ht
  by_cases hji : j = i
  · subst hji; rw [uP_s, stP_in (by rw [pl_32 hi]; exact ht)]; rfl
  · rw [uP_o hji, stP_k (by omega)]; exact h j hj t ht
theorem TC_w {g : Nat → Int} (h : TC C P) (hi : 32 ≤ i) : TC (stP C i g) P := by
  intro j hj t ht
  rw [stP_k (by omega)]; exact h j hj t ht
theorem TC_up {t : Nat} {z : Int} (h : TC C P) (hk : k < 61) : TC (up C k t z) P := by
  intro j hj a ha
  rw [up_k (by omega)]; exact h j hj a ha
theorem TC_fr (h : TC C P) (hf : ∀ x y, 61 ≤ x → C' x y = C x y) : TC C' P := by
  intro j hj t ht
  rw [hf _ _ (by omega)]; exact h j hj t ht
theorem Fk_TC (h : TC C P) (hf : Fk C C') : TC C' P := TC_fr h (fun x y hx => hf x y (by omega))
theorem Fk_PgC (h : PgC C i s l es) (hf : Fk C C') : PgC C' i s l es := ⟨fun j hj => by rw [hf _ _ (by omega)]; exact h.1 j hj, h.2⟩
theorem Fk_stK (hk : k < 5) : Fk C (stK C k w) := fun x y h => stK_o (by omega) (by omega)
theorem Fk_up {t : Nat} {z : Int} (hk : 10 ≤ k ∧ k < 20) (h : Fk C C') : Fk C (up C' k t z) := fun x y hx => by rw [up_k (by omega)]; exact h x y hx
theorem Fk_tr {C2 : Mem} (h1 : Fk C C') (h2 : Fk C' C2) : Fk C C2 := fun x y hx => by rw [h2 x y hx, h1 x y hx]
theorem Fk_Fc (h : Fk C C') : Fc C C' := fun x y _ hx => h x y (by omega)
theorem Fc_refl : Fc C C := fun _ _ _ _ => rfl
theorem Fc_tr {C2 : Mem} (h1 : Fc C C') (h2 : Fc C' C2) : Fc C C2 := fun x y hx hy => by rw [h2 x y hx hy, h1 x y hx hy]
theorem Fc_st {g : Nat → Int} (h : Fc C C') : Fc C (stP C' i g) := fun x y hx hy => by rw [stP_k (by omega)]; exact h x y hx hy
theorem Fc_up2 {t : Nat} {z : Int} (h : Fc C C') : Fc C (up C' 2 t z) := fun x y hx hy => by rw [up_k hx]; exact h x y hx hy
theorem Fc_upg {t : Nat} {z : Int} (hk : 61 ≤ k) (h : Fc C C') : Fc C (up C' k t z) := fun x y hx hy => by rw [up_k (by omega)]; exact h x y hx hy
theorem sp_pageOf {z : Int} (h : z = (i : Int)) (hi : i < 32) : f_X6_pageOf z C = some (C, i) := by
  unfold f_X6_pageOf
  rw [fLt (by omega), tLt (by omega), ix_t (by omega), nat2 h]
theorem lp_lf {K : Int → Mem → Option (Mem × Int)} (ho : TOk P) (h : TC C P) (hq : IsLF P q) : ∀ (m n : Nat) (z : Int), m ≤ q → z = ((q - m : Nat) : Int) → m < n → f_X6_lowestFree_2 K n z C = K (q : Int) C
  | _, 0 => by intros; omega
  | 0, n + 1 => by
    intro z _ hz _
    have h1 := hq.1
    have h2 := sp_sort (TC_pg ho h h1)
    unfold f_X6_lowestFree_2
    rw [tLt (by omega), sp_pageOf (i := q) (by omega) h1, bd_some, h2, bd_some, tEq (by rw [hq.2.1]; omega), hz]
    rfl
  | m + 1, n + 1 => by
    intro z hm hz hn
    have h1 := hq.1
    have h2 := sp_sort (TC_pg ho h (show q - (m + 1) < 32 by omega))
    have h3 := hq.2.2 (q - (m + 1)) (by omega)
    have h4 := (ho (q - (m + 1)) (by omega)).2.2.1
    have ih := lp_lf (K := K) ho h hq m n (z + 1) (by omega) (by omega) (by omega)
    unfold f_X6_lowestFree_2
    rw [tLt (by omega), sp_pageOf hz (by omega), bd_some, h2, bd_some, fEq (by omega), ih]
theorem sp_lf (ho : TOk P) (h : TC C P) (hq : IsLF P q) : f_X6_lowestFree C = some (C, (q : Int)) := by
  have hfu := FU_eq
  have h1 := hq.1
  unfold f_X6_lowestFree
  rw [lp_lf ho h hq q FU 0 (by omega) (by omega) (by omega)]
/-- the separator of a shared row, left in key 1 -/
theorem sp_rsL {lw : Int} (h : PgC C 33 1 lw ((x ++ [u]) ++ v :: y)) (hc : cmp u.1 v.1 < 0) {z : Int} (hz : z = ((x ++ [u]).length : Int)) : ∃ C', f_X0_readSeparator z C = some (C', 0) ∧ KyC C' 1 (sep u.1 v.1) ∧ Fk C C' := by
  have hv := EOk_L (EsOk_mid h.2.1)
  have h1 : PgC (stK C 1 v.1) 33 1 lw ((x ++ [u]) ++ v :: y) := Fk_PgC h (Fk_stK (by omega))
  have h1' : PgC (stK C 1 v.1) 33 1 lw (x ++ u :: (v :: y)) := by rw [List.append_assoc] at h1; exact h1
  have hu := EOk_L (EsOk_mid h1'.2.1)
  have k2 : KyC (stK (stK C 1 v.1) 2 u.1) 2 u.1 := stK_KC hu
  have k1 : KyC (stK (stK C 1 v.1) 2 u.1) 1 v.1 := ⟨by rw [stK_o (by omega) (by omega)]; exact stK_l, fun j hj => by rw [stK_o (by omega) (by omega)]; exact (stK_KC hv).2.1 j hj, hv⟩
  refine ⟨up (stK (stK C 1 v.1) 2 u.1) (10 + 2 * 1) 1 ((sep u.1 v.1).length : Int), ?_, KC_cut k1 hc, Fk_up (by omega) (Fk_tr (Fk_stK (by omega)) (Fk_stK (by omega)))⟩
  unfold f_X0_readSeparator
  rw [sp_readKey (by omega) h hz, bd_some, sp_sort h1, bd_some, tEq (by omega), sp_readKey (by omega) h1' (by rw [hz]; simp), bd_some, sp_cut k1 k2 hc, bd_some]
theorem sp_rsI {lw : Int} (h : PgC C 33 2 lw (x ++ v :: y)) {z : Int} (hz : z = (x.length : Int)) : ∃ C', f_X0_readSeparator z C = some (C', 0) ∧ KyC C' 1 v.1 ∧ Fk C C' := by
  have hv := EOk_L (EsOk_mid h.2.1)
  have h1 : PgC (stK C 1 v.1) 33 2 lw (x ++ v :: y) := Fk_PgC h (Fk_stK (by omega))
  refine ⟨stK C 1 v.1, ?_, stK_KC hv, Fk_stK (by omega)⟩
  unfold f_X0_readSeparator
  rw [sp_readKey (by omega) h hz, bd_some, sp_sort h1, bd_some, fEq (by omega)]
/-- dealing the wide page out -/
theorem sp_dealL {lw l1 l2 : Int} (h : PgC C 33 1 lw (x ++ y)) (hi : i < 32) (hj : j < 32) (hij : i ≠ j) (h1 : C (61 + i) 2 = l1) (h2 : C (61 + j) 2 = l2) (hl1 : 0 ≤ l1 ∧ l1 ≤ 255) (hl2 : 0 ≤ l2 ∧ l2 ≤ 255) (hx : szs x ≤ 61) (hy : szs y ≤ 61) {z : Int} (hz : z = (x.length : Int)) : f_X0_deal z i j C = some (stP (stP C i (enc 1 l1 x)) j (enc 1 l2 y), 0) := by
  have e1 := EsOk_app.mp h.2.1
  have p1 : pl i = 64 := pl_32 hi
  have p2 : pl j = 64 := pl_32 hj
  have s1 : PgC (stP C i (enc 1 l1 [])) i 1 l1 [] := PgC_st (by intro e he; cases he) (by rw [szs_nil]; omega) (by omega) hl1
  have w1 : PgC (stP C i (enc 1 l1 [])) 33 1 lw ([] ++ x ++ y) := PgC_k (by omega) (by rw [List.nil_append]; exact h)
  have w2 : PgC (stP C i (enc 1 l1 x)) 33 1 lw (x ++ y) := PgC_k (by omega) h
  have s2 : PgC (stP (stP C i (enc 1 l1 x)) j (enc 1 l2 [])) j 1 l2 [] := PgC_st (by intro e he; cases he) (by rw [szs_nil]; omega) (by omega) hl2
  have w3 : PgC (stP (stP C i (enc 1 l1 x)) j (enc 1 l2 [])) 33 1 lw (x ++ y ++ []) := PgC_k (by omega) (by rw [List.append_nil]; exact w2)
  have w3' : PgC (stP (stP C i (enc 1 l1 x)) j (enc 1 l2 [])) 33 1 lw (x ++ y) := PgC_k (by omega) w2
  unfold f_X0_deal
  rw [sp_sort h, bd_some, jn_eq, fEq (by omega)]
  dsimp only
  rw [sp_sort h, bd_some, rw_link, bd_some, h1, sp_begin, bd_some, sp_append (x := []) (by omega) s1 w1 (by rfl) (by rw [hz]; simp) (by simp; omega), bd_some, stP_stP, List.nil_append, sp_sort w2, bd_some, jn_eq, tEq (by omega), rw_link, bd_some, stP_k (by omega), h2]
  dsimp only
  rw [sp_begin, bd_some, jn_eq, tEq (by omega)]
  dsimp only
  rw [sp_entries w3', bd_some, sp_append (by omega) s2 w3 hz rfl (by simp; omega), bd_some, stP_stP, List.nil_append]
theorem sp_dealI {lw l1 : Int} (h : PgC C 33 2 lw (x ++ v :: y)) (hi : i < 32) (hj : j < 32) (hij : i ≠ j) (h1 : C (61 + i) 2 = l1) (hl1 : 0 ≤ l1 ∧ l1 ≤ 255) (hx : szs x ≤ 61) (hy : szs y ≤ 61) {z : Int} (hz : z = (x.length : Int)) : f_X0_deal z i j C = some (stP (stP C i (enc 2 l1 x)) j (enc 2 v.2 y), 0) := by
  have e1 := EsOk_mid h.2.1
  have p1 : pl i = 64 := pl_32 hi
  have p2 : pl j = 64 := pl_32 hj
  have s1 : PgC (stP C i (enc 2 l1 [])) i 2 l1 [] := PgC_st (by intro e he; cases he) (by rw [szs_nil]; omega) (by omega) hl1
  have w1 : PgC (stP C i (enc 2 l1 [])) 33 2 lw ([] ++ x ++ v :: y) := PgC_k (by omega) (by rw [List.nil_append]; exact h)
  have w2 : PgC (stP C i (enc 2 l1 x)) 33 2 lw (x ++ v :: y) := PgC_k (by omega) h
  have s2 : PgC (stP (stP C i (enc 2 l1 x)) j (enc 2 v.2 [])) j 2 v.2 [] := PgC_st (by intro e he; cases he) (by rw [szs_nil]; omega) (by omega) e1.2.2.2
  have w3' : PgC (stP (stP C i (enc 2 l1 x)) j (enc 2 v.2 [])) 33 2 lw (x ++ v :: y) := PgC_k (by omega) w2
  have w3 : PgC (stP (stP C i (enc 2 l1 x)) j (enc 2 v.2 [])) 33 2 lw ((x ++ [v]) ++ y ++ []) := by
    rw [List.append_nil, List.append_assoc]; exact w3'
  unfold f_X0_deal
  rw [sp_sort h, bd_some, jn_eq, tEq (by omega)]
  dsimp only
  rw [sp_sort h, bd_some, rw_link, bd_some, h1, sp_begin, bd_some, sp_append (x := []) (by omega) s1 w1 (by rfl) (by rw [hz]; simp) (by simp; omega), bd_some, stP_stP, List.nil_append, sp_sort w2, bd_some, jn_eq, fEq (by omega), sp_tail w2 hz, bd_some]
  dsimp only
  rw [sp_begin, bd_some, jn_eq, fEq (by omega)]
  dsimp only
  rw [sp_entries w3', bd_some, sp_append (by omega) s2 w3 (by rw [hz]; simp) (by simp) (by simp; omega), bd_some, stP_stP, List.nil_append]
/-- splitting a leaf; the wide page holds its entries -/
theorem sp_splitL {lw : Int} (ho : TOk P) (h : TC C P) (hi : i < 32) (hq : IsLF P q) (hs : (P i).1 = 1) (hw : PgC C 33 1 lw es) (he : es = (x ++ [u]) ++ v :: y) (hh : hf es = (x ++ [u]).length) (hc : cmp u.1 v.1 < 0) (hx : szs (x ++ [u]) ≤ 61) (hy : szs (v :: y) ≤ 61) : ∃ C', f_X0_split i C = some (C', (q : Int)) ∧ TC C' (uP (uP P i (1, (q : Int) + 1, x ++ [u])) q (1, (P i).2.1, v :: y)) ∧ KyC C' 1 (sep u.1 v.1) ∧ Fc C C' ∧ C' 2 4 = C 2 4 + 1 ∧ C' 2 5 = C 2 5 ∧ C' 2 6 = C 2 6 := by
  have hiq : i ≠ q := by intro e; rw [e, hq.2.1] at hs; omega
  have hq32 := hq.1
  have hl := (ho i hi).2.2.2
  have e0 : C (61 + i) 2 = (P i).2.1 := (TC_pg ho h hi).1 2 (by rw [pl_32 hi]; omega)
  have w1 : PgC (up (up C (61 + q) 2 (P i).2.1) (61 + i) 2 ((q : Int) + 1)) 33 1 lw es := PgC_up (by omega) (PgC_up (by omega) hw)
  obtain ⟨C1, r1, r2, r3⟩ := sp_rsL (z := ((hf es : Nat) : Int)) (by rw [he] at w1; exact w1) hc (by rw [hh])
  have w2 : PgC C1 33 1 lw ((x ++ [u]) ++ v :: y) := by rw [← he]; exact Fk_PgC w1 r3
  have d := sp_dealL (l1 := (q : Int) + 1) (l2 := (P i).2.1) w2 hi hq32 hiq (by rw [r3 _ _ (by omega), up_same]) (by rw [r3 _ _ (by omega), up_k (by omega), up_same]) (by omega) hl hx hy (z := ((hf es : Nat) : Int)) (by rw [hh])
  refine ⟨up (stP (stP C1 i (enc 1 ((q : Int) + 1) (x ++ [u]))) q (enc 1 (P i).2.1 (v :: y))) 2 4 (C 2 4 + 1), ?_, ?_, ?_, ?_, ?_, ?_, ?_⟩
  · unfold f_X0_split
    rw [sp_lf ho h hq, bd_some, sp_pageOf rfl hq32, bd_some, sp_sort hw, bd_some, jn_eq, tEq (by omega), rw_link, bd_some, sp_setLink, bd_some, e0, sp_setLink, bd_some]
    dsimp only
    rw [sp_half w1, bd_some, r1, bd_some, d, bd_some, stP_k (by omega), stP_k (by omega), r3 _ _ (by omega), up_k (by omega), up_k (by omega)]
  · have t1 : TC (stP (stP C1 i (enc 1 ((q : Int) + 1) (x ++ [u]))) q (enc 1 (P i).2.1 (v :: y))) (uP (uP P i (1, (q : Int) + 1, x ++ [u])) q (1, (P i).2.1, v :: y)) := by
      intro a ha t ht
      by_cases haq : a = q
      · subst haq; rw [uP_s, stP_in (by rw [pl_32 ha]; exact ht)]; rfl
      · rw [uP_o haq, stP_k (by omega)]
        by_cases hai : a = i
        · subst hai; rw [uP_s, stP_in (by rw [pl_32 ha]; exact ht)]; rfl
        · rw [uP_o hai, stP_k (by omega), r3 _ _ (by omega), up_k (by omega), up_k (by omega)]
          exact h a ha t ht
    exact TC_up t1 (by omega)
  · have := KC_st (i := q) (g := enc 1 (P i).2.1 (v :: y)) (KC_st (i := i) (g := enc 1 ((q : Int) + 1) (x ++ [u])) r2 (by omega)) (by omega)
    exact ⟨by rw [up_k (by omega)]; exact this.1, fun a ha => by rw [up_k (by omega)]; exact this.2.1 a ha, this.2.2⟩
  · exact Fc_up2 (Fc_st (Fc_st (Fc_tr (Fc_upg (by omega) (Fc_upg (by omega) Fc_refl)) (Fk_Fc r3))))
  · rw [up_same]
  · rw [up_j (by omega), stP_k (by omega), stP_k (by omega), r3 _ _ (by omega), up_k (by omega), up_k (by omega)]
  · rw [up_j (by omega), stP_k (by omega), stP_k (by omega), r3 _ _ (by omega), up_k (by omega), up_k (by omega)]
theorem sp_splitI {lw : Int} (ho : TOk P) (h : TC C P) (hi : i < 32) (hq : IsLF P q) (hs : (P i).1 = 2) (hw : PgC C 33 2 lw es) (he : es = x ++ v :: y) (hh : hf es = x.length) (hx : szs x ≤ 61) (hy : szs y ≤ 61) : ∃ C', f_X0_split i C = some (C', (q : Int)) ∧ TC C' (uP (uP P i (2, (P i).2.1, x)) q (2, v.2, y)) ∧ KyC C' 1 v.1 ∧ Fc C C' ∧ C' 2 4 = C 2 4 + 1 ∧ C' 2 5 = C 2 5 ∧ C' 2 6 = C 2 6 := by
  have hiq : i ≠ q := by intro e; rw [e, hq.2.1] at hs; omega
  have hq32 := hq.1
  have hl := (ho i hi).2.2.2
  have e0 : C (61 + i) 2 = (P i).2.1 := (TC_pg ho h hi).1 2 (by rw [pl_32 hi]; omega)
  obtain ⟨C1, r1, r2, r3⟩ := sp_rsI (z := ((hf es : Nat) : Int)) (by rw [he] at hw; exact hw) (by rw [hh])
  have w2 : PgC C1 33 2 lw (x ++ v :: y) := by rw [← he]; exact Fk_PgC hw r3
  have d := sp_dealI (l1 := (P i).2.1) w2 hi hq32 hiq (by rw [r3 _ _ (by omega), e0]) hl hx hy (z := ((hf es : Nat) : Int)) (by rw [hh])
  refine ⟨up (stP (stP C1 i (enc 2 (P i).2.1 x)) q (enc 2 v.2 y)) 2 4 (C 2 4 + 1), ?_, ?_, ?_, ?_, ?_, ?_, ?_⟩
  · unfold f_X0_split
    rw [sp_lf ho h hq, bd_some, sp_pageOf rfl hq32, bd_some, sp_sort hw, bd_some, jn_eq, fEq (by omega)]
    dsimp only
    rw [sp_half hw, bd_some, r1, bd_some, d, bd_some, stP_k (by omega), stP_k (by omega), r3 _ _ (by omega)]
  · exact TC_up (TC_st (TC_st (Fk_TC h r3) hi ⟨rfl, rfl, rfl⟩) hq32 ⟨rfl, rfl, rfl⟩) (by omega)
  · have := KC_st (i := q) (g := enc 2 v.2 y) (KC_st (i := i) (g := enc 2 (P i).2.1 x) r2 (by omega)) (by omega)
    exact ⟨by rw [up_k (by omega)]; exact this.1, fun a ha => by rw [up_k (by omega)]; exact this.2.1 a ha, this.2.2⟩
  · exact Fc_up2 (Fc_st (Fc_st (Fk_Fc r3)))
  · rw [up_same]
  · rw [up_j (by omega), stP_k (by omega), stP_k (by omega), r3 _ _ (by omega)]
  · rw [up_j (by omega), stP_k (by omega), stP_k (by omega), r3 _ _ (by omega)]
end TR

/-! CALLS: rank, letter, value. -/
section RK
variable {C C' X X' : Mem} {P P' : Nat → Pg} {c1 c2 c3 a b c z : Int} {n k root L i : Nat} {w : List Int} {V : Nat → List Ent} {lvl : Nat → Nat} {s l : Int} {es ea eb : List Ent} {e : Ent}
def cl (w : List Int) : List Ent → Nat
  | [] => 0
  | e :: r => (if cmp e.1 w < 0 then 1 else 0) + cl w r
def cg (w : List Int) : List Ent → Nat
  | [] => 0
  | e :: r => (if cp e.1 w = w.length then 1 else 0) + cg w r
theorem cl_zero : ∀ r : List Ent, (∀ x ∈ r, ¬ cmp x.1 w < 0) → cl w r = 0
  | [], _ => rfl
  | e :: r, h => by
    unfold cl
    rw [if_neg (h e (List.mem_cons_self ..)), cl_zero r (fun x hx => h x (List.mem_cons_of_mem _ hx))]
theorem cb_cl : ∀ es : List Ent, es.Pairwise (fun x y => cmp x.1 y.1 < 0) → cb 0 w es = cl w es
  | [], _ => rfl
  | e :: r, h => by
    rw [List.pairwise_cons] at h
    unfold cb cl
    by_cases hc : cmp e.1 w < 0
    · rw [if_pos hc, if_pos hc, cb_cl r h.2]
      omega
    · rw [if_neg hc, if_neg hc, cl_zero r]
      intro x hx hxw
      exact hc (cmp_trans _ _ _ (h.1 x hx) hxw)
theorem leaf_pw (hg : Good P root L V lvl) (hi : i < 32) (h1 : (P i).1 = 1) : (P i).2.2.Pairwise (fun x y => cmp x.1 y.1 < 0) := by
  have hm := (leaf_mem hg.1 hg.2.2.2.1 hi).mp h1
  obtain ⟨e, he, hei⟩ := List.mem_map.mp hm
  obtain ⟨A, B, hAB⟩ := List.append_of_mem he
  have hpw := hg.1.2.2.2.2.2
  have hei : e.2 = (i : Int) := hei
  have he2 : e = (e.1, (i : Int)) := by rw [← hei]
  rw [hAB, he2, lfs_mid] at hpw
  have h2 := (List.pairwise_cons.mp (List.pairwise_append.mp hpw).2.1).2
  have h3 := (List.pairwise_append.mp h2).1
  rw [List.pairwise_map] at h3
  refine h3.imp ?_
  intro x y hxy
  rcases hxy with h4 | ⟨_, h4⟩
  · exact h4
  · exact absurd h4 (by show ¬ (1 : Int) < 1; omega)
theorem sp_letterOf (h : PgC C i s l (ea ++ e :: eb)) {q : Int} (hq : q = (ea.length : Int)) (h0 : 0 ≤ z) (h1 : z < 2147480000) : f_X4_letterOf i q z C = some (C, e.1.getD z.toNat 0) := by
  have h6 := PgC_len h
  rw [szs_app, szs_cons] at h6
  unfold f_X4_letterOf
  rw [sp_offset h hq, bd_some, fLt (by omega), sp_at h (by omega) (by omega), bd_some, nat2 rfl, enc_len rfl]
  by_cases hj : z < (e.1.length : Int)
  · rw [tLt (by omega), sp_at h (by omega) (by omega), bd_some, enc_let (j := z.toNat) (by omega) (by omega)]
  · rw [fLt (by omega), gd_out (by omega)]
theorem lp_beg15 {K : Int → Mem → Option (Mem × Int)} {u2 q : Int} (h : PgC C i s l (ea ++ e :: eb)) (hk : KyC C k w) (hq : q = (ea.length : Int)) : ∀ (m n : Nat) (v : Int), m ≤ 8 → v = ((8 - m : Nat) : Int) → m < n → f_X4_entriesThatBegin_15 i k u2 q K n v C = K ((8 - m + cp (e.1.drop (8 - m)) (w.drop (8 - m)) : Nat) : Int) C
  | _, 0 => by intros; omega
  | 0, n + 1 => by
    intro v _ hv _
    have h3 := hk.2.2.1
    unfold f_X4_entriesThatBegin_15
    rw [hk.1, fLt (by omega), cp_drop (LOk_pos hk.2.2), if_neg (by omega), hv]
  | m + 1, n + 1 => by
    intro v hm hv hn
    have h3 := hk.2.2.1
    have he := EsOk_mid h.2.1
    have g1 := LOk_gd hk.2.2 (8 - (m + 1))
    have g2 := LOk_gd (EOk_L he) (8 - (m + 1))
    have ih := lp_beg15 (K := K) (u2 := u2) h hk hq m n (v + 1) (by omega) (by omega) (by omega)
    unfold f_X4_entriesThatBegin_15
    rw [hk.1, cp_drop (LOk_pos hk.2.2)]
    by_cases h2 : 8 - (m + 1) < w.length
    · rw [tLt (by omega), sp_letterOf h hq (by omega) (by omega), bd_some, sp_kat hk (by omega) (by omega), bd_some, nat2 hv]
      by_cases h4 : w.getD (8 - (m + 1)) 0 = e.1.getD (8 - (m + 1)) 0
      · rw [tEq (by omega), if_pos ⟨h2, h4⟩, ih, show 8 - (m + 1) + 1 = 8 - m by omega]
        congr 1
        omega
      · rw [fEq (by omega), if_neg (fun q => h4 q.2), hv]
        rfl
    · rw [fLt (by omega), if_neg (by omega), hv]
      rfl
theorem lp_beg4 {K : Int → Int → Mem → Option (Mem × Int)} (h : PgC C i s l es) (hk : KyC C k w) : ∀ (b a : List Ent) (n : Nat) (v2 v3 : Int), es = a ++ b → v3 = (a.length : Int) → b.length < n → f_X4_entriesThatBegin_4 i k K n v2 v3 C = K (v2 + ((cg w b : Nat) : Int)) (es.length : Int) C
  | _, _, 0 => by intros; omega
  | [], a, n + 1 => by
    intro v2 v3 h1 h3 _
    have h6 := PgC_len h
    have h7 : es.length = a.length := by rw [h1]; simp
    unfold f_X4_entriesThatBegin_4
    rw [sp_entries h, bd_some, fLt (by omega), h3, h7]
    show K v2 _ C = K (v2 + 0) _ C
    rw [Int.add_zero]
  | e :: b, a, n + 1 => by
    intro v2 v3 h1 h3 hn
    have hfu := FU_eq
    have h6 := PgC_len h
    have h9 : es.length = a.length + (b.length + 1) := by rw [h1]; simp
    have h' : PgC C i s l (a ++ e :: b) := by rw [← h1]; exact h
    have hw := hk.2.2.1
    have hcp := cp_le e.1 w
    have q := lp_beg15 (u2 := v2) (K := (fun (v4_e15 : Int) (C_e15 : Mem) => (cEq (v4_e15) (C_e15 (10 + 2 * k) 1) (f_X4_entriesThatBegin_4 i k K n (v2 + 1) (v3 + 1) C_e15) (f_X4_entriesThatBegin_4 i k K n (v2) (v3 + 1) C_e15)))) h' hk h3 8 FU 0 (by omega) rfl (by omega)
    rw [Nat.sub_self, List.drop_zero, List.drop_zero, Nat.zero_add] at q
    unfold f_X4_entriesThatBegin_4 cg
    rw [sp_entries h, bd_some, tLt (by omega), q, hk.1]
    have ih := fun v => lp_beg4 (K := K) h hk b (a ++ [e]) n v (v3 + 1) (by rw [h1]; simp) (by simp; omega) (by simp at hn; omega)
    by_cases hc : cp e.1 w = w.length
    · rw [tEq (by omega), ih, if_pos hc]
      congr 1
      omega
    · rw [fEq (by omega), ih, if_neg hc]
      congr 1
      omega
theorem sp_begin2 (h : PgC C i s l es) (hk : KyC C k w) : f_X4_entriesThatBegin i k C = some (C, ((cg w es : Nat) : Int)) := by
  have hfu := FU_eq
  have h6 := PgC_len h
  unfold f_X4_entriesThatBegin
  rw [lp_beg4 h hk es [] FU 0 0 rfl rfl (by omega)]
  simp
/-- what a page counts -/
def rv (P : Nat → Pg) (what : Int) (w : List Int) (i : Nat) : Int := if what = 0 then ((cl w (P i).2.2 : Nat) : Int) else ((cg w (P i).2.2 : Nat) : Int)
theorem lp_rank {K : Int → Int → Mem → Option (Mem × Int)} (hg : Good P root L V lvl) (hT : TC C P) (hk : KyC C 0 w) (hc : c = 0 ∨ c = 1) : ∀ (m n : Nat) (v4 v5 : Int), m ≤ 32 → v4 = sm (fun i => if (P i).1 = 1 then rv P c w i else 0) (32 - m) → v5 = ((32 - m : Nat) : Int) → m < n → f_X7_rank_34 c K n v4 v5 C = K (sm (fun i => if (P i).1 = 1 then rv P c w i else 0) 32) 32 C
  | _, 0 => by intros; omega
  | 0, n + 1 => by
    intro v4 v5 _ h4 h5 _
    unfold f_X7_rank_34
    rw [fLt (by omega), h4, h5]
    rfl
  | m + 1, n + 1 => by
    intro v4 v5 hm h4 h5 hn
    have ho := hg.1.1
    have hp := TC_pg ho hT (show 32 - (m + 1) < 32 by omega)
    have hsr := (ho (32 - (m + 1)) (by omega)).2.2.1
    have hst : sm (fun i => if (P i).1 = 1 then rv P c w i else 0) (32 - m) = sm (fun i => if (P i).1 = 1 then rv P c w i else 0) (32 - (m + 1)) + (if (P (32 - (m + 1))).1 = 1 then rv P c w (32 - (m + 1)) else 0) := by
      rw [show 32 - m = (32 - (m + 1)) + 1 by omega]; rfl
    unfold f_X7_rank_34
    rw [tLt (by omega), sp_pageOf h5 (by omega), bd_some, sp_sort hp, bd_some]
    by_cases h : (P (32 - (m + 1))).1 = 1
    · rw [if_pos h] at hst
      have hpw := leaf_pw hg (show 32 - (m + 1) < 32 by omega) h
      rw [tEq (a := (P (32 - (m + 1))).1) (by omega)]
      unfold rv at hst
      by_cases hc0 : c = 0
      · rw [if_pos hc0] at hst
        rw [tEq (a := c) (by omega), sp_below (Or.inl rfl) hp hk, bd_some, cb_cl _ hpw]
        exact lp_rank hg hT hk hc m n _ _ (by omega) (by rw [h4]; exact hst.symm) (by omega) (by omega)
      · rw [if_neg hc0] at hst
        rw [fEq (a := c) (by omega), sp_begin2 hp hk, bd_some]
        exact lp_rank hg hT hk hc m n _ _ (by omega) (by rw [h4]; exact hst.symm) (by omega) (by omega)
    · rw [if_neg h] at hst
      rw [fEq (by omega)]
      exact lp_rank hg hT hk hc m n _ _ (by omega) (by rw [h4, hst]; omega) (by omega) (by omega)
/-- the model: does an entry begin so -/
theorem lm_beg22 {K : Int → Int → Mem → Option (Mem × Int)} {p : Int} (h : PgX X i s l (ea ++ e :: eb)) (hp : p = (i : Int)) (hk : KX X w) (hlen : w.length ≤ e.1.length) : ∀ (m n : Nat) (v4 : Int), m ≤ w.length → v4 = ((w.length - m : Nat) : Int) → m < n → ∃ v, f_X8_beginsSo_22 p ((3 + szs ea : Nat) : Int) K n 1 v4 X = K (if cp (e.1.drop (w.length - m)) (w.drop (w.length - m)) = m then 1 else 0) v X
  | _, 0 => by intros; omega
  | 0, n + 1 => by
    intro v4 _ h4 _
    have h8 := hk.2.2.1
    refine ⟨v4, ?_⟩
    have hz : cp (e.1.drop (w.length - 0)) (w.drop (w.length - 0)) = 0 := by rw [cp_drop (LOk_pos hk.2.2), if_neg (by omega)]
    unfold f_X8_beginsSo_22
    rw [hk.1, fLt (by omega), if_pos hz]
  | m + 1, n + 1 => by
    intro v4 hm h4 hn
    have h8 := hk.2.2.1
    have he := EsOk_mid h.2.1
    have g1 := LOk_gd hk.2.2 (w.length - (m + 1))
    have g2 := LOk_gd (EOk_L he) (w.length - (m + 1))
    obtain ⟨v, ih⟩ := lm_beg22 (K := K) h hp hk hlen m n (v4 + 1) (by omega) (by omega) (by omega)
    unfold f_X8_beginsSo_22
    rw [hk.1, tLt (by omega), fEq (by omega), mx_let h hp (j := w.length - (m + 1)) (by omega) (by omega), bd_some, ix_t (by omega), nat2 h4, hk.2.1 _ (by omega)]
    have hst := cp_drop (u := e.1) (LOk_pos hk.2.2) (w.length - (m + 1))
    by_cases h5 : w.getD (w.length - (m + 1)) 0 = e.1.getD (w.length - (m + 1)) 0
    · rw [if_pos ⟨by omega, h5⟩, show w.length - (m + 1) + 1 = w.length - m by omega] at hst
      rw [tEq (by omega), ih, hst]
      refine ⟨v, ?_⟩
      by_cases h6 : cp (e.1.drop (w.length - m)) (w.drop (w.length - m)) = m
      · rw [if_pos h6, if_pos (by omega)]
      · rw [if_neg h6, if_neg (by omega)]
    · rw [if_neg (fun q => h5 q.2)] at hst
      rw [fEq (by omega), hst, if_neg (by omega)]
      cases n with
      | zero => omega
      | succ n =>
        refine ⟨v4 + 1, ?_⟩
        unfold f_X8_beginsSo_22
        rw [hk.1]
        by_cases h6 : v4 + 1 < (w.length : Int)
        · rw [tLt (by omega), tEq (by omega)]
        · rw [fLt (by omega)]
theorem mx_begins {p : Int} (h : PgX X i s l (ea ++ e :: eb)) (hp : p = (i : Int)) (hk : KX X w) {q : Int} (hq : q = ((3 + szs ea : Nat) : Int)) : f_X8_beginsSo p q X = some (X, if cp e.1 w = w.length then 1 else 0) := by
  have hfu := FU_eq
  have h8 := hk.2.2.1
  have he := EsOk_mid h.2.1
  have he8 := he.2.1
  subst hq
  unfold f_X8_beginsSo
  rw [mx_len h hp rfl, bd_some, jn_eq, hk.1]
  by_cases hl : w.length ≤ e.1.length
  · rw [fLt (by omega)]
    dsimp only
    obtain ⟨v, q1⟩ := lm_beg22 (K := (fun (v3_e22 : Int) (v4_e22 : Int) (C_e22 : Mem) => (bo (v3_e22) (some (C_e22, v3_e22))))) h hp hk hl w.length FU 0 (by omega) (by omega) (by omega)
    rw [Nat.sub_self, List.drop_zero, List.drop_zero] at q1
    rw [q1]
    rw [bo_b]
  · rw [tLt (by omega)]
    dsimp only
    have hc := cp_le e.1 w
    rw [if_neg (by omega), hfu]
    unfold f_X8_beginsSo_22
    rw [hk.1, tLt (by omega), tEq (by omega)]
    rw [bo_t (by omega)]
theorem lm_rank47 {K : Int → Int → Int → Mem → Option (Mem × Int)} {p : Int} (h : PgX X i s l es) (hp : p = (i : Int)) (hk : KX X w) (hc : c = 0 ∨ c = 1) : ∀ (b a : List Ent) (n : Nat) (v4 v6 v7 : Int), es = a ++ b → v6 = ((3 + szs a : Nat) : Int) → v7 = (a.length : Int) → b.length < n → ∃ v, f_X8_rank_47 c p K n v4 v6 v7 X = K (v4 + (if c = 0 then ((cl w b : Nat) : Int) else ((cg w b : Nat) : Int))) v (es.length : Int) X
  | _, _, 0 => by intros; omega
  | [], a, n + 1 => by
    intro v4 v6 v7 h1 h6 h7 _
    have hl := PgX_len h
    have h9 : es.length = a.length := by rw [h1]; simp
    refine ⟨v6, ?_⟩
    unfold f_X8_rank_47
    rw [mx_1 h hp, bd_some, fLt (by omega), h7, h9]
    have : v4 + (if c = 0 then ((cl w [] : Nat) : Int) else ((cg w [] : Nat) : Int)) = v4 := by
      have e1 : ((cl w [] : Nat) : Int) = 0 := rfl
      have e2 : ((cg w [] : Nat) : Int) = 0 := rfl
      rw [e1, e2]; split <;> omega
    rw [this]
  | e :: b, a, n + 1 => by
    intro v4 v6 v7 h1 h6 h7 hn
    have hl := PgX_len h
    have h9 : es.length = a.length + (b.length + 1) := by rw [h1]; simp
    have h' : PgX X i s l (a ++ e :: b) := by rw [← h1]; exact h
    have ih := fun v => lm_rank47 (K := K) h hp hk hc b (a ++ [e]) n v (v6 + ((e.1.length : Int) + 2)) (v7 + 1) (by rw [h1]; simp) (by rw [szs_app, szs_cons, szs_nil]; omega) (by simp; omega) (by simp at hn; omega)
    unfold f_X8_rank_47
    rw [mx_1 h hp, bd_some, tLt (by omega), jn_eq]
    rcases hc with hc | hc
    · subst hc
      obtain ⟨r, r1, r2, r3, r4⟩ := mx_against h' hp hk h6
      have ha := cmp_anti e.1 w
      rw [tEq (by omega), r1, bd_some]
      have e0 : ((cl w (e :: b) : Nat) : Int) = (if cmp e.1 w < 0 then 1 else 0) + ((cl w b : Nat) : Int) := by
        show (((if cmp e.1 w < 0 then 1 else 0) + cl w b : Nat) : Int) = _
        split <;> omega
      rw [if_pos rfl, e0]
      by_cases hd : cmp e.1 w < 0
      · rw [tLt (by omega)]
        dsimp only
        rw [jn_eq, fEq (by omega)]
        dsimp only
        rw [mx_len h' hp h6, bd_some, if_pos hd]
        obtain ⟨v, q⟩ := ih (v4 + 1)
        rw [q, if_pos rfl]
        exact ⟨v, by congr 1; omega⟩
      · rw [fLt (by omega)]
        dsimp only
        rw [jn_eq, tEq (by omega)]
        dsimp only
        rw [mx_len h' hp h6, bd_some, if_neg hd]
        obtain ⟨v, q⟩ := ih (v4 + 0)
        rw [q, if_pos rfl]
        exact ⟨v, by congr 1; omega⟩
    · subst hc
      rw [fEq (by omega), mx_begins h' hp hk h6, bd_some]
      dsimp only
      have e0 : ((cg w (e :: b) : Nat) : Int) = (if cp e.1 w = w.length then 1 else 0) + ((cg w b : Nat) : Int) := by
        show (((if cp e.1 w = w.length then 1 else 0) + cg w b : Nat) : Int) = _
        split <;> omega
      rw [jn_eq, cEq_b, if_neg (show ¬ (1 : Int) = 0 by omega), e0]
      by_cases hd : cp e.1 w = w.length
      · rw [if_pos hd]
        dsimp only
        rw [mx_len h' hp h6, bd_some, if_pos hd]
        obtain ⟨v, q⟩ := ih (v4 + 1)
        rw [q, if_neg (by omega)]
        exact ⟨v, by congr 1; omega⟩
      · rw [if_neg hd]
        dsimp only
        rw [mx_len h' hp h6, bd_some, if_neg hd]
        obtain ⟨v, q⟩ := ih (v4 + 0)
        rw [q, if_neg (by omega)]
        exact ⟨v, by congr 1; omega⟩
theorem lm_rank34 {K : Int → Int → Mem → Option (Mem × Int)} (ho : TOk P) (hT : TX X P) (hk : KX X w) (hc : c = 0 ∨ c = 1) : ∀ (R : List Ent) (n : Nat) (v4 v5 : Int), LkTo P R 0 → (∀ e ∈ R, ∃ i : Nat, e.2 = (i : Int) ∧ i < 32) → v5 = hdp R → R.length < n → f_X8_rank_34 c K n v4 v5 X = K (v4 + ls (rv P c w) R) (-9) X
  | _, 0 => by intros; omega
  | [], n + 1 => by
    intro v4 v5 _ _ h5 _
    have h5 : v5 = -9 := h5
    unfold f_X8_rank_34
    rw [tEq (by omega), h5]
    show K v4 (-9) X = K (v4 + 0) (-9) X
    rw [Int.add_zero]
  | e :: r, n + 1 => by
    intro v4 v5 hl hr h5 hn
    have hfu := FU_eq
    obtain ⟨i, i1, i2⟩ := hr e (List.mem_cons_self ..)
    have h5 : v5 = e.2 := h5
    have hpg := TX_pg ho hT i2
    have hlen := PgX_len hpg
    have hr2 : ∀ f ∈ r, 0 ≤ f.2 ∧ f.2 < 32 := by
      intro f hf
      obtain ⟨j, j1, j2⟩ := hr f (List.mem_cons_of_mem _ hf)
      omega
    obtain ⟨v, q⟩ := lm_rank47 (K := (fun (v4_e47 : Int) (v6_e47 : Int) (v7_e47 : Int) (C_e47 : Mem) => (bd (f_X8_nextLeaf (v5) C_e47) (fun C131 r131 => (f_X8_rank_34 c K n (v4_e47) (r131) C131))))) (p := v5) hpg (by omega) hk hc (P i).2.2 [] FU v4 3 0 rfl rfl rfl (by omega)
    unfold f_X8_rank_34
    rw [fEq (by omega), q]
    rw [mx_nextL ho hT hl i1 i2 hr2 (by omega), bd_some, lm_rank34 ho hT hk hc r n _ _ hl.2 (fun f hf => hr f (List.mem_cons_of_mem _ hf)) rfl (by simp at hn; omega)]
    congr 1
    show v4 + rv P c w i + ls (rv P c w) r = v4 + (rv P c w e.2.toNat + ls (rv P c w) r)
    rw [i1, show ((i : Nat) : Int).toNat = i by omega]
    omega
theorem ag_rank (h : Inv C X) (ha : R32 a) (hb : R32 b) (hc : R32 c) : Agree Inv (f_X7_rank a b c C) (f_X8_rank a b c X) := by
  have hfu := FU_eq
  unfold f_X7_rank f_X8_rank
  rcases both_spelled (C := C) (X := X) ha hb with ⟨g1, g2, g3⟩ | ⟨g1, g2⟩
  · rw [g1, g2, bd_some, bd_some, fEq (by omega), fEq (by omega), sp_within hc (by simp only [R32]; omega) (by simp only [R32]; omega), mx_within hc (by simp only [R32]; omega) (by simp only [R32]; omega), bd_some, bd_some, cEq_b, cEq_b]
    by_cases hin : 0 ≤ c ∧ c ≤ 1
    · rw [if_pos hin, if_pos hin]
      obtain ⟨X0, k1, k2, k3, k4, k5, k6, k7, k8, k9⟩ := both_key g3 h
      generalize spl b.toNat a = w at *
      obtain ⟨P, root, L, d1, d2, d3, r1, r2, V, lvl, hg⟩ := k6
      obtain ⟨q, q1, q2, q3, q4⟩ := both_first hg r1 r2
      have hm := leaf_many hg.1 hg.2.2.2.1
      rw [k1, k2, bd_some, bd_some, q4, bd_some, lp_rank hg r1.1 k3 (by omega) 32 FU 0 0 (by omega) rfl rfl (by omega), lm_rank34 hg.1.1 r2.1 k4 (by omega) (V (L - 1)) FU 0 _ hg.1.2.2.2.2.1 (leaf_nat hg) q2.symm (by omega), leaf_sum hg.1 hg.2.2.2.1, Int.zero_add]
      exact ⟨_, _, _, rfl, rfl, k9⟩
    · rw [if_neg hin, if_neg hin]
      exact ⟨C, X, -1, rfl, rfl, h⟩
  · rw [g1, g2, bd_some, bd_some, tEq (by omega), tEq (by omega)]
    exact ⟨C, X, -1, rfl, rfl, h⟩
/-! keys by their number -/
theorem place_in {K : Int → Int → Int → Mem → Option (Mem × Int)} {K' : Int → Int → Mem → Option (Mem × Int)} (ho : TOk P) (hC : TC C P) (hX : TX X P) : ∀ (R : List Ent) (n n' : Nat) (j : Nat) (v2 v3 v4 : Int), LkTo P R 0 → (∀ e ∈ R, ∃ i : Nat, e.2 = (i : Int) ∧ i < 32) → R ≠ [] → v3 = hdp R → v2 = (j : Int) → (j : Int) < ls (nk P) R → 0 ≤ v4 → v4 + (R.length : Int) ≤ 32 → R.length < n → R.length < n' → ∃ (i : Nat) (ea eb : List Ent) (e : Ent), i < 32 ∧ (P i).2.2 = ea ++ e :: eb ∧ f_X6_placeOfKey_10 K n v2 v3 v4 C = some (C, (i : Int) * 64 + (ea.length : Int)) ∧ f_X8_whereIs_7 K' n' v2 v3 X = K' (ea.length : Int) (i : Int) X
  | _, 0, _ => by intros; omega
  | _, _, 0 => by intros; omega
  | [], _, _ => by
    intro j v2 v3 v4 _ _ hne
    exact absurd rfl hne
  | e :: r, n + 1, n' + 1 => by
    intro j v2 v3 v4 hl hr _ h3 h2 hj h4 h4' hn hn'
    obtain ⟨i, i1, i2⟩ := hr e (List.mem_cons_self ..)
    have h3 : v3 = e.2 := h3
    have hpC := TC_pg ho hC i2
    have hpX := TX_pg ho hX i2
    have hlen := PgX_len hpX
    have hb := ls_rng ho (e :: r) hr
    simp at hb h4' hn hn'
    have hr2 : ∀ f ∈ r, 0 ≤ f.2 ∧ f.2 < 32 := by
      intro f hf
      obtain ⟨j, j1, j2⟩ := hr f (List.mem_cons_of_mem _ hf)
      omega
    have hls : ls (nk P) (e :: r) = ((P i).2.2.length : Int) + ls (nk P) r := by
      show nk P e.2.toNat + ls (nk P) r = _
      rw [i1, show ((i : Nat) : Int).toNat = i by omega]
      rfl
    rw [hls] at hj hb
    unfold f_X6_placeOfKey_10 f_X8_whereIs_7
    rw [tLt (by omega), fLt (by omega), fLt (by omega), sp_pageOf (i := i) (by omega) i2, bd_some, sp_entries hpC, bd_some, mx_1 hpX (by omega), bd_some]
    by_cases hlt : j < (P i).2.2.length
    · have he : (P i).2.2 = (P i).2.2.take j ++ (P i).2.2[j] :: (P i).2.2.drop (j + 1) := by rw [List.getElem_cons_drop, List.take_append_drop]
      have hlj : ((P i).2.2.take j).length = j := by rw [List.length_take]; omega
      refine ⟨i, (P i).2.2.take j, (P i).2.2.drop (j + 1), (P i).2.2[j], i2, he, ?_, ?_⟩
      · rw [tLt (by omega), hlj, h3, i1, h2]
      · rw [tLt (by omega), hlj, h3, i1, h2]
    · rw [fLt (by omega), fLt (by omega), sp_entries hpC, bd_some, sp_link hpC, bd_some, mx_1 hpX (by omega), bd_some, mx_nextL ho hX hl i1 i2 hr2 (by omega), bd_some]
      have hne : r ≠ [] := by
        intro hh
        rw [hh] at hj
        simp [ls] at hj
        omega
      have hlk : (P i).2.1 - 1 = hdp r := by
        have := hl.1
        rw [i1, show ((i : Nat) : Int).toNat = i by omega] at this
        rw [this]
        cases r with
        | nil => exact absurd rfl hne
        | cons f r => show f.2 + 1 - 1 = f.2; omega
      rw [hlk]
      exact place_in ho hC hX r n n' (j - (P i).2.2.length) _ _ _ hl.2 (fun f hf => hr f (List.mem_cons_of_mem _ hf)) hne rfl (by omega) (by omega) (by omega) (by omega) (by omega) (by omega)
def hd1 : List Ent → Int
  | [] => -1
  | e :: _ => e.2
theorem place_out {K : Int → Int → Int → Mem → Option (Mem × Int)} (ho : TOk P) (hC : TC C P) (hK : ∀ v2 v3 v4, K v2 v3 v4 C = some (C, -1)) : ∀ (R : List Ent) (n : Nat) (v2 v3 v4 : Int), LkTo P R 0 → (∀ e ∈ R, ∃ i : Nat, e.2 = (i : Int) ∧ i < 32) → v3 = hd1 R → ls (nk P) R ≤ v2 → v2 < 2147483648 → 0 ≤ v4 → v4 + (R.length : Int) ≤ 32 → R.length < n → f_X6_placeOfKey_10 K n v2 v3 v4 C = some (C, -1)
  | _, 0 => by intros; omega
  | [], n + 1 => by
    intro v2 v3 v4 _ _ h3 _ h2 h4 h4' _
    have h3 : v3 = -1 := h3
    simp at h4'
    unfold f_X6_placeOfKey_10
    by_cases h5 : v4 < 32
    · rw [tLt (by omega), tLt (by omega), hK]
    · rw [fLt (by omega), hK]
  | e :: r, n + 1 => by
    intro v2 v3 v4 hl hr h3 hls0 h2 h4 h4' hn
    obtain ⟨i, i1, i2⟩ := hr e (List.mem_cons_self ..)
    have h3 : v3 = e.2 := h3
    have hpC := TC_pg ho hC i2
    have hlen := PgC_len hpC
    have hb := ls_rng ho r (fun f hf => hr f (List.mem_cons_of_mem _ hf))
    simp at h4' hn
    have hls : ls (nk P) (e :: r) = ((P i).2.2.length : Int) + ls (nk P) r := by
      show nk P e.2.toNat + ls (nk P) r = _
      rw [i1, show ((i : Nat) : Int).toNat = i by omega]
      rfl
    rw [hls] at hls0
    have hlk : (P i).2.1 - 1 = hd1 r := by
      have := hl.1
      rw [i1, show ((i : Nat) : Int).toNat = i by omega] at this
      rw [this]
      cases r with
      | nil => rfl
      | cons f r => show f.2 + 1 - 1 = f.2; omega
    unfold f_X6_placeOfKey_10
    rw [tLt (by omega), fLt (by omega), fLt (by omega), sp_pageOf (i := i) (by omega) i2, bd_some, sp_entries hpC, bd_some, fLt (by omega), sp_entries hpC, bd_some, sp_link hpC, bd_some]
    exact place_out ho hC hK r n _ _ _ hl.2 (fun f hf => hr f (List.mem_cons_of_mem _ hf)) hlk (by omega) (by omega) (by omega) (by omega) (by omega)
/-- a key by its number, both; or none -/
theorem both_place (hg : Good P root L V lvl) (hRC : RC C P root L c1 c2 c3) (hRX : RX X P root L c1 c2 c3) (ha : R32 a) : (∃ (i : Nat) (ea eb : List Ent) (e : Ent), i < 32 ∧ (P i).2.2 = ea ++ e :: eb ∧ f_X6_placeOfKey a C = some (C, (i : Int) * 64 + (ea.length : Int)) ∧ f_X8_whereIs a X = some (X, 64 * (i : Int) + ((3 + szs ea : Nat) : Int)) ∧ 0 ≤ a ∧ a ≤ ls (nk P) (V (L - 1)) - 1) ∨ (f_X6_placeOfKey a C = some (C, -1) ∧ ¬ (0 ≤ a ∧ a ≤ ls (nk P) (V (L - 1)) - 1)) := by
  have hfu := FU_eq
  simp only [R32] at ha
  obtain ⟨q, q1, q2, q3, q4⟩ := both_first hg hRC hRX
  have hm := leaf_many hg.1 hg.2.2.2.1
  have ho := hg.1.1
  unfold f_X6_placeOfKey f_X8_whereIs
  rw [q3, q4, bd_some, bd_some]
  by_cases hin : 0 ≤ a ∧ a ≤ ls (nk P) (V (L - 1)) - 1
  · have hne : V (L - 1) ≠ [] := by
      intro hh
      rw [hh] at hin
      simp [ls] at hin
      omega
    obtain ⟨i, ea, eb, e, e1, e2, e3, e4⟩ := place_in (K := (fun (v2_e10 : Int) (v3_e10 : Int) (v4_e10 : Int) (C_e10 : Mem) => (some (C_e10, -1)))) (K' := (fun (v2_e7 : Int) (v3_e7 : Int) (C_e7 : Mem) => (bd (f_X8_startOf (v3_e7) (v2_e7) C_e7) (fun C42 r42 => (some (C42, (64 * v3_e7) + r42)))))) ho hRC.1 hRX.1 (V (L - 1)) FU FU a.toNat a (q : Int) 0 hg.1.2.2.2.2.1 (leaf_nat hg) hne q2.symm (by omega) (by omega) (by omega) (by omega) (by omega) (by omega)
    refine Or.inl ⟨i, ea, eb, e, e1, e2, e3, ?_, hin⟩
    have hp := TX_pg ho hRX.1 e1
    rw [e2] at hp
    rw [e4]
    rw [mx_start hp rfl rfl, bd_some]
  · refine Or.inr ⟨?_, hin⟩
    by_cases h0 : a < 0
    · have : FU = 4999 + 1 := hfu
      rw [this]
      unfold f_X6_placeOfKey_10
      rw [tLt (by omega), fLt (by omega), tLt (by omega)]
    · refine place_out ho hRC.1 (fun _ _ _ => rfl) (V (L - 1)) FU a (q : Int) 0 hg.1.2.2.2.2.1 (leaf_nat hg) ?_ (by omega) (by omega) (by omega) (by omega) (by omega)
      cases hV : V (L - 1) with
      | nil =>
        rw [hV] at q2
        have q2 : (-9 : Int) = (q : Int) := q2
        omega
      | cons e r =>
        rw [hV] at q2
        exact q2.symm
theorem ag_letter (h : Inv C X) (ha : R32 a) (hb : R32 b) : Agree Inv (f_X7_letter a b C) (f_X8_letter a b X) := by
  have hb' := hb
  simp only [R32] at hb'
  obtain ⟨P, root, L, d1, d2, d3, r1, r2, V, lvl, hg⟩ := h.1
  have ho := hg.1.1
  have hm := leaf_many hg.1 hg.2.2.2.1
  have hb30 := ls_rng ho (V (L - 1)) (leaf_nat hg)
  unfold f_X7_letter f_X8_letter
  rw [mx_keys hg r1 r2, bd_some, mx_within ha (by simp only [R32]; omega) (by simp only [R32]; omega), bd_some, cEq_b]
  rcases both_place hg r1 r2 ha with ⟨i, ea, eb, e, e1, e2, e3, e4, hin⟩ | ⟨e3, hin⟩
  · have hpC := TC_pg ho r1.1 e1
    have hpX := TX_pg ho r2.1 e1
    rw [e2] at hpC hpX
    have hlen := PgX_len hpX
    simp at hlen
    have hz := hpX.2.2.1
    rw [szs_app, szs_cons] at hz
    have he8 := (EsOk_mid hpX.2.1).2.1
    rw [e3, bd_some, fLt (by omega), sp_within hb (by simp only [R32]; omega) (by simp only [R32]; omega), bd_some, cEq_b, if_pos hin, mx_within hb (by simp only [R32]; omega) (by simp only [R32]; omega), bd_some, cEq_b]
    by_cases hb7 : 0 ≤ b ∧ b ≤ 7
    · have x0 : X 96 (64 * i + (3 + szs ea)) = (e.1.length : Int) := by rw [hpX.1 _ (by omega), enc_len rfl]
      rw [if_pos hb7, if_pos hb7, dv_t (by omega), sp_pageOf (i := i) (by omega) e1, bd_some, dv_t (by omega), sp_letters hpC (by omega), bd_some, e4, bd_some, ix_t (by omega), show (64 * (i : Int) + ((3 + szs ea : Nat) : Int)).toNat = 64 * i + (3 + szs ea) by omega, x0]
      by_cases hlt : b < (e.1.length : Int)
      · have x1 : X 96 (64 * i + (3 + szs ea + 1 + b.toNat)) = e.1.getD b.toNat 0 := by rw [hpX.1 _ (by omega), enc_let (by omega) rfl]
        rw [tLt (by omega), tLt (by omega), sp_letterOf hpC (by omega) (by omega) (by omega), bd_some, ix_t (by omega), show (64 * (i : Int) + ((3 + szs ea : Nat) : Int) + 1 + b).toNat = 64 * i + (3 + szs ea + 1 + b.toNat) by omega, x1]
        exact ⟨C, X, _, rfl, rfl, h⟩
      · rw [fLt (by omega), fLt (by omega)]
        exact ⟨C, X, _, rfl, rfl, h⟩
    · rw [if_neg hb7, if_neg hb7]
      exact ⟨C, X, -1, rfl, rfl, h⟩
  · rw [e3, bd_some, tLt (by omega), if_neg hin]
    exact ⟨C, X, -1, rfl, rfl, h⟩
theorem ag_value (h : Inv C X) (ha : R32 a) : Agree Inv (f_X7_value a C) (f_X8_value a X) := by
  obtain ⟨P, root, L, d1, d2, d3, r1, r2, V, lvl, hg⟩ := h.1
  have ho := hg.1.1
  have hm := leaf_many hg.1 hg.2.2.2.1
  have hb30 := ls_rng ho (V (L - 1)) (leaf_nat hg)
  unfold f_X7_value f_X8_value
  rw [mx_keys hg r1 r2, bd_some, mx_within ha (by simp only [R32]; omega) (by simp only [R32]; omega), bd_some, cEq_b]
  rcases both_place hg r1 r2 ha with ⟨i, ea, eb, e, e1, e2, e3, e4, hin⟩ | ⟨e3, hin⟩
  · have hpC := TC_pg ho r1.1 e1
    have hpX := TX_pg ho r2.1 e1
    rw [e2] at hpC hpX
    have hlen := PgX_len hpX
    simp at hlen
    have hz := hpX.2.2.1
    rw [szs_app, szs_cons] at hz
    have x0 : X 96 (64 * i + (3 + szs ea)) = (e.1.length : Int) := by rw [hpX.1 _ (by omega), enc_len rfl]
    have x1 : X 96 (64 * i + (3 + szs ea + 1 + e.1.length)) = e.2 := by rw [hpX.1 _ (by omega), enc_tail rfl]
    rw [e3, bd_some, fLt (by omega), dv_t (by omega), sp_pageOf (i := i) (by omega) e1, bd_some, dv_t (by omega), sp_tail hpC (by omega), bd_some, if_pos hin, e4, bd_some, ix_t (by omega), show (64 * (i : Int) + ((3 + szs ea : Nat) : Int)).toNat = 64 * i + (3 + szs ea) by omega, x0, ix_t (by omega), show (64 * (i : Int) + ((3 + szs ea : Nat) : Int) + (e.1.length : Int) + 1).toNat = 64 * i + (3 + szs ea + 1 + e.1.length) by omega, x1]
    exact ⟨C, X, _, rfl, rfl, h⟩
  · rw [e3, bd_some, tLt (by omega), if_neg hin]
    exact ⟨C, X, -1, rfl, rfl, h⟩
end RK

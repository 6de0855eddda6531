/-! MODEL: the way down, what comes in upward. -/
def WayX (M : Mem) (L : Nat) (W T : Nat → Nat) : Prop := (∀ t, t < L → M 102 t = (W t : Int)) ∧ (∀ t, t + 1 < L → M 103 t = (T t : Int))
section MC
variable {X X' : Mem} {P : Nat → Pg} {i j k q o L t A : Nat} {s l p la : Int} {es a b x y z : List Ent} {e u v : Ent} {w : List Int} {pg : Pg} {W T : Nat → Nat} {root : Nat}
theorem lm_turn {K : Int → Int → Mem → Option (Mem × Int)} {u2 : Int} (h : PgX X i s l es) (hp : p = (i : Int)) (hk : KX X w) : ∀ (b a : List Ent) (n : Nat) (v3 v4 : Int), es = a ++ b → v3 = (a.length : Int) → v4 = ((3 + szs a : Nat) : Int) → b.length < n → ∃ r, f_X8_goesDown_37 p u2 K n v3 v4 X = K ((a.length + cb 1 w b : Nat) : Int) r X
  | _, _, 0 => by intros; omega
  | [], a, n + 1 => by
    intro v3 v4 h1 h3 h4 _
    have h6 := PgX_len h
    unfold f_X8_goesDown_37
    rw [mx_1 h hp, bd_some, fLt (by rw [h1] at h6 ⊢; simp at h6 ⊢; omega), h3]
    exact ⟨v4, rfl⟩
  | e :: b, a, n + 1 => by
    intro v3 v4 h1 h3 h4 hn
    have h6 := PgX_len h
    have h9 : es.length = a.length + (b.length + 1) := by rw [h1]; simp
    have h' : PgX X i s l (a ++ e :: b) := by rw [← h1]; exact h
    obtain ⟨r, r1, r2, r3, r4⟩ := mx_against h' hp hk h4
    have ha := cmp_anti e.1 w
    obtain ⟨z, ih⟩ := lm_turn (K := K) (u2 := u2) h hp hk b (a ++ [e]) n (v3 + 1) (v4 + ((e.1.length : Int) + 2)) (by rw [h1]; simp) (by simp; omega) (by rw [szs_app, szs_cons, szs_nil]; omega) (by simp at hn; omega)
    unfold f_X8_goesDown_37 cb
    rw [mx_1 h hp, bd_some, tLt (by omega), r1, bd_some]
    by_cases hd : cmp e.1 w < 1
    · rw [fLt (by omega), mx_len h' hp h4, bd_some, ih, if_pos hd]
      refine ⟨z, ?_⟩
      congr 1
      simp
      omega
    · rw [tLt (by omega), if_neg hd, h3]
      exact ⟨v4, rfl⟩
theorem lm_down {K : Int → Int → Mem → Option (Mem × Int)} (ho : TOk P) (hT : TX X P) (hL : X 95 2 = (L : Int)) (hL32 : L ≤ 32) (hk : KX X w) (hd : Down P w root L W T) : ∀ (m n : Nat) (v1 v2 : Int) (M : Mem), m ≤ L → v2 = ((L - m : Nat) : Int) → (0 < m → v1 = (W (L - m) : Int)) → m < n → (∀ x y, x ≠ 102 → x ≠ 103 → M x y = X x y) → (∀ t, t < L - m → M 102 t = (W t : Int)) → (∀ t, t < L - m → t + 1 < L → M 103 t = (T t : Int)) → ∃ M' r, f_X8_goesDown_7 K n v1 v2 M = K r (L : Int) M' ∧ (∀ x y, x ≠ 102 → x ≠ 103 → M' x y = X x y) ∧ WayX M' L W T
  | _, 0 => by intros; omega
  | 0, n + 1 => by
    intro v1 v2 M _ hz _ _ h1 h2 h3
    refine ⟨M, v1, ?_, h1, h2, fun t ht => h3 t (by omega) ht⟩
    unfold f_X8_goesDown_7
    rw [h1 _ _ (by omega) (by omega), hL, fLt (by omega), hz]
    rfl
  | m + 1, n + 1 => by
    intro v1 v2 M hm hz hv hn h1 h2 h3
    have hfu := FU_eq
    have hv1 := hv (by omega)
    have hw := hd.2.1 (L - (m + 1)) (by omega)
    have hM1 : TX (up M 102 (L - (m + 1)) v1) P := TX_fr hT (fun y => by rw [up_k (by omega), h1 _ _ (by omega) (by omega)])
    have hk1 : KX (up M 102 (L - (m + 1)) v1) w := ⟨by rw [up_k (by omega), h1 _ _ (by omega) (by omega)]; exact hk.1, fun t ht => by rw [up_k (by omega), h1 _ _ (by omega) (by omega)]; exact hk.2.1 t ht, hk.2.2⟩
    unfold f_X8_goesDown_7
    rw [h1 95 2 (by omega) (by omega), hL, tLt (by omega), ix_t (by omega), nat2 hz, up_k (by omega), h1 95 2 (by omega) (by omega), hL]
    by_cases hlast : L - (m + 1) + 1 < L
    · obtain ⟨d1, d2⟩ := hd.2.2 (L - (m + 1)) hlast
      have hp := TX_pg ho hM1 hw
      have h6 := PgX_len hp
      obtain ⟨r, q1⟩ := lm_turn (K := (fun (v3_e37 : Int) (v4_e37 : Int) (C_e37 : Mem) => (ix (v2) 32 (bd (f_X8_childOf (v1) (v3_e37) (up C_e37 (103) (L - (m + 1)) (v3_e37))) (fun C87 r87 => (f_X8_goesDown_7 K n (r87) (v2 + 1) C87)))))) (u2 := v2) hp hv1 hk1 (P (W (L - (m + 1)))).2.2 [] FU 0 3 rfl rfl rfl (by omega)
      have e1 : ((([] : List Ent).length + cb 1 w (P (W (L - (m + 1)))).2.2 : Nat) : Int) = ((T (L - (m + 1)) : Nat) : Int) := by rw [d1]; simp; rfl
      rw [e1] at q1
      have hp2 : PgX (up (up M 102 (L - (m + 1)) v1) 103 (L - (m + 1)) ((T (L - (m + 1)) : Nat) : Int)) (W (L - (m + 1))) (P (W (L - (m + 1)))).1 (P (W (L - (m + 1)))).2.1 (P (W (L - (m + 1)))).2.2 := ⟨fun j hj => by rw [up_k (by omega)]; exact hp.1 j hj, hp.2⟩
      have hle : T (L - (m + 1)) ≤ (P (W (L - (m + 1)))).2.2.length := by rw [d1]; exact cb_le _ _ _
      obtain ⟨M', r', i1, i2, i3⟩ := lm_down (K := K) ho hT hL hL32 hk hd m n ((W (L - (m + 1) + 1) : Nat) : Int) (v2 + 1) (up (up M 102 (L - (m + 1)) v1) 103 (L - (m + 1)) ((T (L - (m + 1)) : Nat) : Int)) (by omega) (by omega) (fun _ => by rw [show L - (m + 1) + 1 = L - m by omega]) (by omega) (fun x y hx hy => by rw [up_k hy, up_k hx, h1 x y hx hy]) (by
        intro t ht
        rw [up_k (by omega)]
        by_cases htt : t = L - (m + 1)
        · rw [htt, up_same, hv1]
        · rw [up_j htt, h2 t (by omega)]) (by
        intro t ht ht2
        by_cases htt : t = L - (m + 1)
        · rw [htt, up_same]
        · rw [up_j htt, up_k (by omega), h3 t (by omega) ht2])
      refine ⟨M', r', ?_, i2, i3⟩
      rw [tLt (by omega), q1]
      rw [ix_t (by omega), mx_child hp2 hv1 hle rfl, bd_some]
      show f_X8_goesDown_7 K n (chd (P (W (L - (m + 1)))) (T (L - (m + 1)))) _ _ = _
      rw [d2]
      exact i1
    · obtain ⟨M', r', i1, i2, i3⟩ := lm_down (K := K) ho hT hL hL32 hk hd m n v1 (v2 + 1) (up M 102 (L - (m + 1)) v1) (by omega) (by omega) (fun h => by omega) (by omega) (fun x y hx hy => by rw [up_k hx, h1 x y hx hy]) (by
        intro t ht
        by_cases htt : t = L - (m + 1)
        · rw [htt, up_same, hv1]
        · rw [up_j htt, h2 t (by omega)]) (by
        intro t ht ht2
        rw [up_k (by omega), h3 t (by omega) ht2])
      refine ⟨M', r', ?_, i2, i3⟩
      rw [fLt (by omega)]
      exact i1
theorem mx_down (ho : TOk P) (hT : TX X P) (hR : X 95 1 = (root : Int)) (hL : X 95 2 = (L : Int)) (hL32 : L ≤ 32) (hk : KX X w) (hd : Down P w root L W T) : ∃ X', f_X8_goesDown X = some (X', 0) ∧ (∀ x y, x ≠ 102 → x ≠ 103 → X' x y = X x y) ∧ WayX X' L W T := by
  have hfu := FU_eq
  obtain ⟨M', r, i1, i2, i3⟩ := lm_down (K := (fun (v1_e7 : Int) (v2_e7 : Int) (C_e7 : Mem) => (some (C_e7, 0)))) ho hT hL hL32 hk hd L FU (X 95 1) 0 X (by omega) (by omega) (fun _ => by rw [hR, Nat.sub_self, hd.1]) (by omega) (fun _ _ _ _ => rfl) (fun t ht => by omega) (fun t ht => by omega)
  exact ⟨M', by unfold f_X8_goesDown; rw [i1], i2, i3⟩
/-- what is to come in fits: the loop ends -/
theorem mx_inFit {K : Int → Int → Mem → Option (Mem × Int)} {n : Nat} {v2 v3 : Int} (h : RowX X es) (h48 : es.length ≤ 48) (hz : szs es ≤ 61) : f_X8_putKey_104 K (n + 1) v2 v3 X = K v2 v3 X := by
  unfold f_X8_putKey_104
  rw [mx_bytes_all h h48, bd_some, fLt (by omega)]
theorem WayX_Fx (h : WayX X L W T) (hf : Fx X X') : WayX X' L W T := ⟨fun t ht => by rw [hf _ _ (by omega) (by omega) (by omega) (by omega) (by omega) (by omega)]; exact h.1 t ht, fun t ht => by rw [hf _ _ (by omega) (by omega) (by omega) (by omega) (by omega) (by omega)]; exact h.2 t ht⟩
/-- the next page above: its entries with what went up -/
theorem mx_next {K : Int → Int → Mem → Option (Mem × Int)} {n : Nat} (ho : TOk P) (hT : TX X P) (hu : UpX X w) (hw1 : 1 ≤ w.length) (hW : WayX X L W T) (ht : t + 1 < L) (ht32 : t < 32) (hA : W t = A) (hA32 : A < 32) (hp : P A = (2, la, a ++ b)) (hTt : T t = a.length) {r v2 : Int} (hr : 0 ≤ r ∧ r ≤ 255) (hv2 : v2 = (t : Int)) : ∃ X', bd (f_X8_comeOut ((up X 95 3 ((X 95 3) + 1)) (102) v2.toNat) (up (up X 95 3 ((X 95 3) + 1)) 95 6 (0))) (fun C194 _ => (ix v2 32 (bd (f_X8_comesIn (C194 (103) v2.toNat) 0 (C194 95 10) r C194) (fun C214 _ => (f_X8_putKey_104 K n v2 ((up X 95 3 ((X 95 3) + 1)) (102) v2.toNat) C214))))) = f_X8_putKey_104 K n v2 (A : Int) X' ∧ TX X' P ∧ RowX X' (a ++ (w, r) :: b) ∧ Fx X X' ∧ X' 95 3 = X 95 3 + 1 ∧ X' 95 4 = X 95 4 ∧ X' 95 5 = X 95 5 := by
  have hT1 : TX (up X 95 3 (X 95 3 + 1)) P := TX_fr hT (fun y => up_k (by omega))
  have hpg := TX_pg ho hT1 hA32
  rw [hp] at hpg
  have hpg : PgX (up X 95 3 (X 95 3 + 1)) A 2 la (a ++ b) := hpg
  have h6 := PgX_len hpg
  have e1 : (up X 95 3 (X 95 3 + 1)) 102 v2.toNat = (A : Int) := by rw [up_k (by omega), nat2 hv2, hW.1 t (by omega), hA]
  obtain ⟨X1, q1, q2, q3⟩ := mx_out0 hpg (p := (A : Int)) rfl
  have e2 : X1 103 v2.toNat = (a.length : Int) := by rw [q3 _ _ (by omega) (by omega) (by omega) (by omega), up_k (by omega), nat2 hv2, hW.2 t ht, hTt]
  have e3 : X1 95 10 = (w.length : Int) := by rw [q3 _ _ (by omega) (by omega) (by omega) (by omega), up_j (by omega), hu.1]
  have ar : ArX X1 (100 + 0) w := fun j hj => by rw [q3 _ _ (by omega) (by omega) (by omega) (by omega), up_k (by omega)]; exact hu.2.1 j hj
  obtain ⟨X2, m1, m2, m3⟩ := mx_in q2 ar hu.2.2 hw1 (by omega) (by omega) (q := (a.length : Int)) (n := (w.length : Int)) rfl rfl hr
  have hF : Fro (up X 95 3 (X 95 3 + 1)) X2 := Fro_tr q3 m3
  refine ⟨X2, ?_, Fro_TX hT1 hF, m2, Fx_tr (Fx_up (by omega) Fx_refl) (Fro_Fx hF), ?_, ?_, ?_⟩
  · rw [e1, q1, bd_some, ix_t (by omega), e2, e3, m1, bd_some]
  · rw [hF _ _ (by omega) (by omega) (by omega) (by omega), up_same]
  · rw [hF _ _ (by omega) (by omega) (by omega) (by omega), up_j (by omega)]
  · rw [hF _ _ (by omega) (by omega) (by omega) (by omega), up_j (by omega)]
/-- a leaf, or an inner one, is split; more above -/
theorem mx_inL {K : Int → Int → Mem → Option (Mem × Int)} {n : Nat} (ho : TOk P) (hT : TX X P) (h : RowX X es) (hi32 : i < 32) (hp : P i = (1, l, z)) (h61 : 61 < szs es) (h48 : es.length ≤ 48) (hz : szs es ≤ 1000) (hq : IsLF P q) (he : es = (x ++ [u]) ++ v :: y) (hh : hf es = (x ++ [u]).length) (hc : cmp u.1 v.1 < 0) (hx : szs (x ++ [u]) ≤ 61) (hy : szs (v :: y) ≤ 61) {v2 v3 : Int} (hv3 : v3 = (i : Int)) (hv2 : 0 ≤ v2 ∧ v2 < 32) : ∃ X', TX X' (uP (uP P i (1, (q : Int) + 1, x ++ [u])) q (1, l, v :: y)) ∧ UpX X' (sep u.1 v.1) ∧ Fx X X' ∧ X' 95 3 = X 95 3 ∧ X' 95 4 = X 95 4 ∧ X' 95 5 = X 95 5 ∧ f_X8_putKey_104 K (n + 1) v2 v3 X = (cEq (v2) 0 (bd (f_X8_newRoot (v3) (q : Int) (up X' 95 3 ((X' 95 3) + 1))) (fun C171 _ => (some (C171, -9)))) (ix (v2 + (-1)) 32 (bd (f_X8_comeOut ((up X' 95 3 ((X' 95 3) + 1)) (102) (v2 + (-1)).toNat) (up (up X' 95 3 ((X' 95 3) + 1)) 95 6 (0))) (fun C194 _ => (ix (v2 + (-1)) 32 (bd (f_X8_comesIn (C194 (103) (v2 + (-1)).toNat) 0 (C194 95 10) (q : Int) C194) (fun C214 _ => (f_X8_putKey_104 K n (v2 + (-1)) ((up X' 95 3 ((X' 95 3) + 1)) (102) (v2 + (-1)).toNat) C214)))))))) := by
  have hpg := TX_pg ho hT hi32
  rw [hp] at hpg
  have hpg : PgX X i 1 l z := hpg
  obtain ⟨X', s1, s2, s3, s4, s5, s6, s7⟩ := mx_shareL (f := l) (r1 := v3) (r2 := (q : Int)) (r5 := l) hT h he hh hc h48 hz hi32 hq.1 hv3 rfl hx hy
  refine ⟨X', s2, s3, s4, s5, s6, s7, ?_⟩
  rw [f_X8_putKey_104, mx_bytes_all h h48, bd_some, tLt (by omega), mx_0 hpg hv3, bd_some, mx_lf ho hT hq, bd_some, mx_2 hpg hv3, bd_some, mx_2 hpg hv3, bd_some, s1, bd_some]
theorem mx_inI {K : Int → Int → Mem → Option (Mem × Int)} {n : Nat} (ho : TOk P) (hT : TX X P) (h : RowX X es) (hi32 : i < 32) (hp : P i = (2, l, z)) (h61 : 61 < szs es) (h48 : es.length ≤ 48) (hz : szs es ≤ 1000) (hq : IsLF P q) (he : es = x ++ v :: y) (hh : hf es = x.length) (hx : szs x ≤ 61) (hy : szs y ≤ 61) {v2 v3 : Int} (hv3 : v3 = (i : Int)) (hv2 : 0 ≤ v2 ∧ v2 < 32) : ∃ X', TX X' (uP (uP P i (2, l, x)) q (2, v.2, y)) ∧ UpX X' v.1 ∧ Fx X X' ∧ X' 95 3 = X 95 3 ∧ X' 95 4 = X 95 4 ∧ X' 95 5 = X 95 5 ∧ f_X8_putKey_104 K (n + 1) v2 v3 X = (cEq (v2) 0 (bd (f_X8_newRoot (v3) (q : Int) (up X' 95 3 ((X' 95 3) + 1))) (fun C171 _ => (some (C171, -9)))) (ix (v2 + (-1)) 32 (bd (f_X8_comeOut ((up X' 95 3 ((X' 95 3) + 1)) (102) (v2 + (-1)).toNat) (up (up X' 95 3 ((X' 95 3) + 1)) 95 6 (0))) (fun C194 _ => (ix (v2 + (-1)) 32 (bd (f_X8_comesIn (C194 (103) (v2 + (-1)).toNat) 0 (C194 95 10) (q : Int) C194) (fun C214 _ => (f_X8_putKey_104 K n (v2 + (-1)) ((up X' 95 3 ((X' 95 3) + 1)) (102) (v2 + (-1)).toNat) C214)))))))) := by
  have hpg := TX_pg ho hT hi32
  rw [hp] at hpg
  have hpg : PgX X i 2 l z := hpg
  obtain ⟨X', s1, s2, s3, s4, s5, s6, s7⟩ := mx_shareI (f := l) (r1 := v3) (r2 := (q : Int)) (r5 := l) hT h he hh h48 hz hi32 hq.1 hv3 rfl hx hy
  refine ⟨X', s2, s3, s4, s5, s6, s7, ?_⟩
  rw [f_X8_putKey_104, mx_bytes_all h h48, bd_some, tLt (by omega), mx_0 hpg hv3, bd_some, mx_lf ho hT hq, bd_some, mx_2 hpg hv3, bd_some, mx_2 hpg hv3, bd_some, s1, bd_some]
/-- a key spelled -/
theorem lm_spells {K : Int → Int → Mem → Option (Mem × Int)} : ∀ (m n : Nat) (r r2 : Int) (M : Mem), r2 = (m : Int) - 1 → m ≤ 8 → m < n → 0 ≤ r → r < 2147483648 → ∃ r', f_X8_spells_12 K n r r2 M = K r' (-1) (stI M 101 0 m (fun j => (spl m r).getD j 0))
  | _, 0 => by intros; omega
  | 0, n + 1 => by
    intro q z M hz _ _ _ _
    unfold f_X8_spells_12
    rw [tLt (by omega), stI_nil, hz]
    exact ⟨q, rfl⟩
  | m + 1, n + 1 => by
    intro q z M hz hm hn h0 h1
    obtain ⟨q', ih⟩ := lm_spells (K := K) m n (q / 26) (z + -1) (up M 101 m (97 + q % 26)) (by omega) (by omega) (by omega) (by omega) (by omega)
    unfold f_X8_spells_12
    rw [fLt (by omega), dv_t (by omega), ix_t (by omega), dv_t (by omega), show z.toNat = m by omega, ih, stI_spl]
    exact ⟨q', rfl⟩
theorem mx_spells {n : Nat} {r r2 : Int} (hr2 : r2 = (n : Int)) (hn : n ≤ 8) (h0 : 0 ≤ r) (h1 : r < 2147483648) : ∃ X', f_X8_spells r r2 X = some (X', 0) ∧ KX X' (spl n r) ∧ (∀ a b, a ≠ 101 → ¬ (a = 95 ∧ b = 12) → X' a b = X a b) := by
  have hfu := FU_eq
  obtain ⟨q', ih⟩ := lm_spells (K := (fun (v3_e12 : Int) (v4_e12 : Int) (C_e12 : Mem) => (some (C_e12, 0)))) n FU r (r2 - 1) (up X 95 12 r2) (by omega) hn (by omega) h0 h1
  refine ⟨stI (up X 95 12 r2) 101 0 n (fun j => (spl n r).getD j 0), ?_, ⟨?_, ?_, spl_LOk hn r⟩, ?_⟩
  · unfold f_X8_spells
    rw [ih]
  · rw [stI_k (by omega), up_same, spl_len, hr2]
  · intro j hj
    rw [spl_len] at hj
    rw [stI_in (by omega)]
  · intro a b h1 h2
    rw [stI_k h1, up_ap, if_neg h2]
end MC

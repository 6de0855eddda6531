/-! MODEL: the tree's pages, sharing, the way down. -/
def TX (X : Mem) (P : Nat → Pg) : Prop := ∀ i, i < 32 → ∀ j, j < 64 → X 96 (64 * i + j) = eP (P i) j
def UpX (X : Mem) (w : List Int) : Prop := X 95 10 = (w.length : Int) ∧ ArX X 100 w ∧ LOk w
/-- what goes up, alone -/
def Fu (X X' : Mem) : Prop := ∀ a b, a ≠ 100 → ¬ (a = 95 ∧ b = 10) → X' a b = X a b
/-- what no change of the tree touches -/
def Fx (X X' : Mem) : Prop := ∀ a b, a ≠ 96 → a ≠ 97 → a ≠ 98 → a ≠ 99 → a ≠ 100 → ¬ (a = 95 ∧ (b = 3 ∨ b = 4 ∨ b = 5 ∨ b = 6 ∨ b = 10)) → X' a b = X a b
section MT
variable {X X' : Mem} {P : Nat → Pg} {i j k q o L : Nat} {s l p : Int} {es a b x y z : List Ent} {e u v : Ent} {w : List Int} {pg : Pg} {W T : Nat → Nat} {root : Nat}
theorem TX_pg (ho : TOk P) (h : TX X P) (hi : i < 32) : PgX X i (P i).1 (P i).2.1 (P i).2.2 := by
  have h1 := ho i hi
  exact ⟨fun j hj => h i hi j hj, h1.1, h1.2.1, ⟨h1.2.2.1.1, by have := h1.2.2.1; omega⟩, h1.2.2.2, hi⟩
theorem TX_st (h : TX X P) (hp : s = pg.1 ∧ l = pg.2.1 ∧ es = pg.2.2) : TX (stX X i (enc s l es)) (uP P i pg) := by
  obtain ⟨h1, h2, h3⟩ := hp
  subst h1 h2 h3
  intro j hj t ht
  by_cases hji : j = i
  · subst hji; rw [uP_s, stX_in ht]; rfl
  · rw [uP_o hji, stX_o (by omega)]; exact h j hj t ht
theorem TX_fr (h : TX X P) (hf : ∀ y, X' 96 y = X 96 y) : TX X' P := fun j hj t ht => by rw [hf]; exact h j hj t ht
theorem Fx_refl : Fx X X := fun _ _ _ _ _ _ _ _ => rfl
theorem Fx_tr {X2 : Mem} (h1 : Fx X X') (h2 : Fx X' X2) : Fx X X2 := fun a b q1 q2 q3 q4 q5 q6 => by rw [h2 a b q1 q2 q3 q4 q5 q6, h1 a b q1 q2 q3 q4 q5 q6]
theorem Fro_Fx (h : Fro X X') : Fx X X' := fun a b q1 q2 q3 q4 q5 q6 => h a b q2 q3 q4 (by omega)
theorem Fu_Fx (h : Fu X X') : Fx X X' := fun a b q1 q2 q3 q4 q5 q6 => h a b q5 (by omega)
theorem Fx_st {g : Nat → Int} (h : Fx X X') : Fx X (stX X' i g) := fun a b q1 q2 q3 q4 q5 q6 => by rw [stX_k q1]; exact h a b q1 q2 q3 q4 q5 q6
theorem Fx_up {t : Nat} {r : Int} (ht : t = 3 ∨ t = 4 ∨ t = 5 ∨ t = 6 ∨ t = 10) (h : Fx X X') : Fx X (up X' 95 t r) := fun a b q1 q2 q3 q4 q5 q6 => by rw [up_ap, if_neg (by omega)]; exact h a b q1 q2 q3 q4 q5 q6
theorem Fro_TX (h : TX X P) (hf : Fro X X') : TX X' P := TX_fr h (fun y => hf _ _ (by omega) (by omega) (by omega) (by omega))
theorem Fu_TX (h : TX X P) (hf : Fu X X') : TX X' P := TX_fr h (fun y => hf _ _ (by omega) (by omega))
theorem Fu_Rows (hf : Fu X X') (ho : EsOk es) (h : Rows X o es) : Rows X' o es := Rows_fr es o ho h (fun k _ _ => ⟨hf _ _ (by omega) (by omega), hf _ _ (by omega) (by omega), fun j _ => hf _ _ (by omega) (by omega)⟩)
theorem Fu_RowX (hf : Fu X X') (h : RowX X es) : RowX X' es := ⟨by rw [hf _ _ (by omega) (by omega)]; exact h.1, Fu_Rows hf h.2.2 h.2.1, h.2.2⟩
theorem Rows_st {g : Nat → Int} (ho : EsOk es) (h : Rows X o es) : Rows (stX X i g) o es := Rows_fr es o ho h (fun k _ _ => ⟨stX_k (by omega), stX_k (by omega), fun j _ => stX_k (by omega)⟩)
theorem RowX_st {g : Nat → Int} (h : RowX X es) : RowX (stX X i g) es := ⟨by rw [stX_k (by omega)]; exact h.1, Rows_st h.2.2 h.2.1, h.2.2⟩
theorem UpX_st {g : Nat → Int} (h : UpX X w) : UpX (stX X i g) w := ⟨by rw [stX_k (by omega)]; exact h.1, fun j hj => by rw [stX_k (by omega)]; exact h.2.1 j hj, h.2.2⟩
theorem UpX_ro (h : UpX X w) (hf : Fro X X') : UpX X' w := ⟨by rw [hf _ _ (by omega) (by omega) (by omega) (by omega)]; exact h.1, fun j hj => by rw [hf _ _ (by omega) (by omega) (by omega) (by omega)]; exact h.2.1 j hj, h.2.2⟩
theorem lm_half {K : Int → Mem → Option (Mem × Int)} (h : Rows X 0 es) (h48 : es.length ≤ 48) (hz : szs es ≤ 1000) : ∀ (b a : List Ent) (n : Nat) (r : Int), es = a ++ b → r = (a.length : Int) → b.length < n → f_X8_half_12 ((szs es : Nat) : Int) K n r X = K ((a.length + hfA (szs es) (szs a) b : Nat) : Int) X
  | _, _, 0 => by intros; omega
  | [], a, n + 1 => by
    intro r h1 hr _
    rw [List.append_nil] at h1
    have h2 : Rows X 0 (a ++ []) := by rw [List.append_nil, ← h1]; exact h
    unfold f_X8_half_12
    rw [mx_bytes h2 (by rw [← h1]; exact h48) hr, bd_some, h1, fLt (by rw [h1] at hz; omega), hr]
    rfl
  | e :: b, a, n + 1 => by
    intro r h1 hr hn
    have h9 : es.length = a.length + (b.length + 1) := by rw [h1]; simp
    have h8 : szs es = szs a + (e.1.length + 2 + szs b) := by rw [h1, szs_app, szs_cons]
    have ih := lm_half (K := K) h h48 hz b (a ++ [e]) n (r + 1) (by rw [h1]; simp) (by simp; omega) (by simp at hn; omega)
    rw [szs_app, szs_cons, szs_nil] at ih
    unfold f_X8_half_12 hfA
    rw [mx_bytes (by rw [← h1]; exact h) (by omega) hr, bd_some]
    by_cases hd : 2 * szs a < szs es
    · rw [tLt (by omega), if_pos hd, ih]
      congr 1
      simp
      omega
    · rw [fLt (by omega), if_neg hd, hr]
      rfl
theorem mx_half (h : RowX X es) (h48 : es.length ≤ 48) (hz : szs es ≤ 1000) : f_X8_half X = some (X, ((hf es : Nat) : Int)) := by
  have hfu := FU_eq
  unfold f_X8_half
  rw [mx_bytes_all h h48, bd_some, lm_half h.2.1 h48 hz es [] FU 0 rfl rfl (by omega)]
  unfold hf
  simp [szs]
theorem lm_short {K : Int → Mem → Option (Mem × Int)} {r : Int} (h : Rows X 0 (x ++ u :: v :: y)) (hu : EOk u) (hv : EOk v) (h48 : x.length + 1 < 48) (hr : r = (x.length : Int) + 1) : ∀ (m n : Nat) (t : Int), m ≤ 8 → t = ((8 - m : Nat) : Int) → m < n → f_X8_shortest_2 r K n t X = K ((8 - m + cp (u.1.drop (8 - m)) (v.1.drop (8 - m)) : Nat) : Int) X
  | _, 0 => by intros; omega
  | 0, n + 1 => by
    intro t _ ht _
    have r1 := Rows_mid h
    rw [Nat.zero_add] at r1
    have hu2 := hu.2.1
    have hv2 := hv.2.1
    unfold f_X8_shortest_2
    rw [ix_t (by omega), show (r - 1).toNat = x.length by omega, r1.1, fLt (by omega), cp_drop (LOk_pos (EOk_L hv)), if_neg (by omega), ht]
  | m + 1, n + 1 => by
    intro t hm ht hn
    have r1 := Rows_mid h
    rw [Nat.zero_add] at r1
    have h' : Rows X 0 ((x ++ [u]) ++ v :: y) := by rw [List.append_assoc]; exact h
    have r2 := Rows_mid h'
    rw [Nat.zero_add, show (x ++ [u]).length = x.length + 1 by simp] at r2
    have hu2 := hu.2.1
    have hv2 := hv.2.1
    have g1 := LOk_gd (EOk_L hu) (8 - (m + 1))
    have g2 := LOk_gd (EOk_L hv) (8 - (m + 1))
    have gp := LOk_pos (EOk_L hv)
    have ih := lm_short (K := K) h hu hv h48 hr m n (t + 1) (by omega) (by omega) (by omega)
    unfold f_X8_shortest_2
    rw [ix_t (by omega), show (r - 1).toNat = x.length by omega, show r.toNat = x.length + 1 by omega, r1.1, r2.1, cp_drop gp]
    by_cases c1 : 8 - (m + 1) < u.1.length
    · rw [tLt (by omega), ix_t (by omega)]
      by_cases c2 : 8 - (m + 1) < v.1.length
      · rw [tLt (by omega), ix_t (by omega), ix_t (by omega), show (8 * (r - 1) + t).toNat = 8 * x.length + (8 - (m + 1)) by omega, show (8 * r + t).toNat = 8 * (x.length + 1) + (8 - (m + 1)) by omega, r1.2.2 _ c1, r2.2.2 _ c2]
        by_cases c3 : u.1.getD (8 - (m + 1)) 0 = v.1.getD (8 - (m + 1)) 0
        · rw [tEq (by omega), if_pos ⟨c2, c3.symm⟩, ih, show 8 - (m + 1) + 1 = 8 - m by omega]
          congr 1
          omega
        · rw [fEq (by omega), if_neg (fun q => c3 q.2.symm), ht]
          rfl
      · rw [fLt (by omega), if_neg (fun q => c2 q.1), ht]
        rfl
    · have : ¬ (8 - (m + 1) < v.1.length ∧ v.1.getD (8 - (m + 1)) 0 = u.1.getD (8 - (m + 1)) 0) := by
        intro q
        have := gp _ (gd_mem q.1)
        rw [q.2, gd_out (by omega)] at this
        omega
      rw [fLt (by omega), if_neg this, ht]
      rfl
theorem mx_short {r : Int} (h : Rows X 0 (x ++ u :: v :: y)) (hu : EOk u) (hv : EOk v) (h48 : x.length + 1 < 48) (hr : r = (x.length : Int) + 1) : f_X8_shortest r X = some (X, ((cp u.1 v.1 + 1 : Nat) : Int)) := by
  have hfu := FU_eq
  unfold f_X8_shortest
  rw [lm_short h hu hv h48 hr 8 FU 0 (by omega) rfl (by omega), Nat.sub_self, List.drop_zero, List.drop_zero]
  simp
theorem lm_goesUp {K : Int → Mem → Option (Mem × Int)} {r r2 : Int} {c : Nat} (h48 : k < 48) (hr : r = (k : Int)) (hv : EOk v) (hc : c ≤ v.1.length) (hr2 : r2 = (c : Int)) : ∀ (m n : Nat) (t : Int) (Y : Mem), rowAt Y k v → m ≤ c → t = ((c - m : Nat) : Int) → m < n → f_X8_goesUp_7 r r2 K n t (stI Y 100 0 (c - m) (fun j => v.1.getD j 0)) = K (c : Int) (stI Y 100 0 c (fun j => v.1.getD j 0))
  | _, 0 => by intros; omega
  | 0, n + 1 => by
    intro t Y _ _ ht _
    have h8 := hv.2.1
    unfold f_X8_goesUp_7
    rw [fLt (by omega), ht]
    rfl
  | m + 1, n + 1 => by
    intro t Y hY hm ht hn
    have h8 := hv.2.1
    have ih := lm_goesUp (K := K) h48 hr hv hc hr2 m n (t + 1) Y hY (by omega) (by omega) (by omega)
    unfold f_X8_goesUp_7
    rw [tLt (by omega), ix_t (by omega), ix_t (by omega), nat2 ht, show (8 * r + t).toNat = 8 * k + (c - (m + 1)) by omega, stI_k (by omega), hY.2.2 _ (by omega), stI_up (by omega) rfl, show c - (m + 1) + 1 = c - m by omega]
    exact ih
theorem mx_goesUp {r r2 : Int} {c : Nat} (h48 : k < 48) (hr : r = (k : Int)) (hv : EOk v) (hc : c ≤ v.1.length) (hr2 : r2 = (c : Int)) (h : rowAt X k v) : ∃ X', f_X8_goesUp r r2 X = some (X', 0) ∧ UpX X' (v.1.take c) ∧ Fu X X' := by
  have hfu := FU_eq
  have h8 := hv.2.1
  have hl : (v.1.take c).length = c := by rw [List.length_take]; omega
  have q := lm_goesUp (K := (fun (v3_e7 : Int) (C_e7 : Mem) => (some (C_e7, 0)))) h48 hr hv hc hr2 c FU 0 (up X 95 10 r2) ⟨by rw [up_k (by omega)]; exact h.1, by rw [up_k (by omega)]; exact h.2.1, fun j hj => by rw [up_k (by omega)]; exact h.2.2 j hj⟩ (by omega) (by omega) (by omega)
  rw [Nat.sub_self, stI_nil] at q
  refine ⟨stI (up X 95 10 r2) 100 0 c (fun j => v.1.getD j 0), ?_, ⟨?_, ?_, ?_⟩, ?_⟩
  · unfold f_X8_goesUp
    exact q
  · rw [stI_k (by omega), up_same, hl, hr2]
  · intro j hj
    rw [hl] at hj
    rw [stI_in (by omega), gd_take hj]
  · refine ⟨by omega, fun t ht => hv.2.2.1 t (List.mem_of_mem_take ht)⟩
  · intro a b h1 h2
    rw [stI_k h1, up_ap, if_neg h2]
theorem mx_setL {r : Int} (h : RowX X ((x ++ [u]) ++ v :: y)) (hc : cmp u.1 v.1 < 0) (h48 : ((x ++ [u]) ++ v :: y).length ≤ 48) (hr : r = ((x ++ [u]).length : Int)) : ∃ X', f_X8_setUp 1 r X = some (X', 0) ∧ UpX X' (sep u.1 v.1) ∧ Fu X X' := by
  have hv := EsOk_mid h.2.2
  have hl : (x ++ [u]).length = x.length + 1 := by simp
  have hl2 : ((x ++ [u]) ++ v :: y).length = x.length + 1 + (y.length + 1) := by simp; omega
  have h' : Rows X 0 (x ++ u :: v :: y) := by have := h.2.1; rw [List.append_assoc] at this; exact this
  have hu : EOk u := by have := h.2.2; rw [List.append_assoc] at this; exact EsOk_mid this
  have hcp := cp_lt u.1 v.1 hc
  have rv := Rows_mid h.2.1
  rw [Nat.zero_add] at rv
  obtain ⟨X', q1, q2, q3⟩ := mx_goesUp (c := cp u.1 v.1 + 1) (r := r) (r2 := ((cp u.1 v.1 + 1 : Nat) : Int)) (by omega) hr hv (by omega) rfl rv
  refine ⟨X', ?_, q2, q3⟩
  unfold f_X8_setUp
  rw [jn_eq, tEq (by omega), mx_short h' hu hv (by omega) (by omega), bd_some]
  dsimp only
  rw [q1, bd_some]
theorem mx_setI {r : Int} (h : RowX X (x ++ v :: y)) (h48 : (x ++ v :: y).length ≤ 48) (hr : r = (x.length : Int)) : ∃ X', f_X8_setUp 2 r X = some (X', 0) ∧ UpX X' v.1 ∧ Fu X X' := by
  have hv := EsOk_mid h.2.2
  have hl2 : (x ++ v :: y).length = x.length + (y.length + 1) := by simp
  have rv := Rows_mid h.2.1
  rw [Nat.zero_add] at rv
  obtain ⟨X', q1, q2, q3⟩ := mx_goesUp (c := v.1.length) (r := r) (r2 := (v.1.length : Int)) (by omega) hr hv (by omega) rfl rv
  rw [List.take_length] at q2
  refine ⟨X', ?_, q2, q3⟩
  unfold f_X8_setUp
  rw [jn_eq, fEq (by omega), ix_t (by omega), nat2 hr, rv.1]
  dsimp only
  rw [q1, bd_some]
/-- two pages share the row -/
theorem mx_shareL {f r1 r2 r5 : Int} (hX : TX X P) (h : RowX X es) (he : es = (x ++ [u]) ++ v :: y) (hh : hf es = (x ++ [u]).length) (hc : cmp u.1 v.1 < 0) (h48 : es.length ≤ 48) (hz : szs es ≤ 1000) (hi : i < 32) (hj : j < 32) (hr1 : r1 = (i : Int)) (hr2 : r2 = (j : Int)) (hx : szs (x ++ [u]) ≤ 61) (hy : szs (v :: y) ≤ 61) : ∃ X', f_X8_share r1 r2 1 f r5 X = some (X', 0) ∧ TX X' (uP (uP P i (1, (j : Int) + 1, x ++ [u])) j (1, r5, v :: y)) ∧ UpX X' (sep u.1 v.1) ∧ Fx X X' ∧ X' 95 3 = X 95 3 ∧ X' 95 4 = X 95 4 ∧ X' 95 5 = X 95 5 := by
  have hl2 : ((x ++ [u]) ++ v :: y).length = (x ++ [u]).length + (y.length + 1) := by simp; omega
  obtain ⟨X1, q1, q2, q3⟩ := mx_setL (r := ((hf es : Nat) : Int)) (by rw [he] at h; exact h) hc (by rw [← he]; exact h48) (by rw [hh])
  have hR := Fu_RowX q3 h
  have ho := hR.2.2
  rw [he] at ho
  have ho1 := EsOk_app.mp ho
  have b1 : Rows X1 0 ([] ++ (x ++ [u]) ++ v :: y) := by have := hR.2.1; rw [he] at this; exact this
  have b2 : Rows (stX X1 i (enc 1 ((j : Int) + 1) (x ++ [u]))) 0 ((x ++ [u]) ++ (v :: y) ++ []) := by
    rw [List.append_nil]; exact Rows_st ho (by have := hR.2.1; rw [he] at this; exact this)
  rw [he] at h48
  refine ⟨stX (stX X1 i (enc 1 ((j : Int) + 1) (x ++ [u]))) j (enc 1 r5 (v :: y)), ?_, ?_, ?_, ?_, ?_, ?_, ?_⟩
  · unfold f_X8_share
    rw [mx_half h (by rw [he]; exact h48) hz, bd_some, q1, bd_some, tEq (by omega), hr2, mx_back hi hr1 b1 ho1.1 (by simp at hl2 ⊢; simp at h48; omega) hx (by rfl) (by rw [hh]; simp), bd_some, mx_back hj rfl b2 ho1.2 (by omega) hy (by rw [hh]) (by rw [stX_k (by omega), hR.1, he]), bd_some]
  · exact TX_st (TX_st (Fu_TX hX q3) ⟨rfl, rfl, rfl⟩) ⟨rfl, rfl, rfl⟩
  · exact UpX_st (UpX_st q2)
  · exact Fx_st (Fx_st (Fu_Fx q3))
  · rw [stX_k (by omega), stX_k (by omega), q3 _ _ (by omega) (by omega)]
  · rw [stX_k (by omega), stX_k (by omega), q3 _ _ (by omega) (by omega)]
  · rw [stX_k (by omega), stX_k (by omega), q3 _ _ (by omega) (by omega)]
theorem mx_shareI {f r1 r2 r5 : Int} (hX : TX X P) (h : RowX X es) (he : es = x ++ v :: y) (hh : hf es = x.length) (h48 : es.length ≤ 48) (hz : szs es ≤ 1000) (hi : i < 32) (hj : j < 32) (hr1 : r1 = (i : Int)) (hr2 : r2 = (j : Int)) (hx : szs x ≤ 61) (hy : szs y ≤ 61) : ∃ X', f_X8_share r1 r2 2 f r5 X = some (X', 0) ∧ TX X' (uP (uP P i (2, f, x)) j (2, v.2, y)) ∧ UpX X' v.1 ∧ Fx X X' ∧ X' 95 3 = X 95 3 ∧ X' 95 4 = X 95 4 ∧ X' 95 5 = X 95 5 := by
  have hl2 : (x ++ v :: y).length = x.length + (y.length + 1) := by simp
  obtain ⟨X1, q1, q2, q3⟩ := mx_setI (r := ((hf es : Nat) : Int)) (by rw [he] at h; exact h) (by rw [← he]; exact h48) (by rw [hh])
  have hR := Fu_RowX q3 h
  have ho := hR.2.2
  rw [he] at ho
  have ho1 := EsOk_app.mp ho
  have ho2 := EsOk_cons.mp ho1.2
  have b0 : Rows X1 0 (x ++ v :: y) := by have := hR.2.1; rw [he] at this; exact this
  have b1 : Rows X1 0 ([] ++ x ++ v :: y) := b0
  have b2 : Rows (stX X1 i (enc 2 f x)) 0 ((x ++ [v]) ++ y ++ []) := by
    rw [List.append_nil, List.append_assoc]; exact Rows_st ho b0
  have rv := Rows_mid b0
  rw [Nat.zero_add] at rv
  rw [he] at h48
  refine ⟨stX (stX X1 i (enc 2 f x)) j (enc 2 v.2 y), ?_, ?_, ?_, ?_, ?_, ?_, ?_⟩
  · unfold f_X8_share
    rw [mx_half h (by rw [he]; exact h48) hz, bd_some, q1, bd_some, fEq (by omega), ix_t (by rw [hh]; omega), mx_back hi hr1 b1 ho1.1 (by simp; omega) hx (by rfl) (by rw [hh]; simp), bd_some, nat2 rfl, hh, rv.2.1, mx_back hj hr2 b2 ho2.2 (by simp; omega) hy (by simp) (by rw [stX_k (by omega), hR.1, he]; simp), bd_some]
  · exact TX_st (TX_st (Fu_TX hX q3) ⟨rfl, rfl, rfl⟩) ⟨rfl, rfl, rfl⟩
  · exact UpX_st (UpX_st q2)
  · exact Fx_st (Fx_st (Fu_Fx q3))
  · rw [stX_k (by omega), stX_k (by omega), q3 _ _ (by omega) (by omega)]
  · rw [stX_k (by omega), stX_k (by omega), q3 _ _ (by omega) (by omega)]
  · rw [stX_k (by omega), stX_k (by omega), q3 _ _ (by omega) (by omega)]
theorem lm_lf {K : Int → Mem → Option (Mem × Int)} (ho : TOk P) (h : TX X P) (hq : IsLF P q) : ∀ (m n : Nat) (r : Int), m ≤ q → r = ((q - m : Nat) : Int) → m < n → f_X8_lowestFree_2 K n r X = K (q : Int) X
  | _, 0 => by intros; omega
  | 0, n + 1 => by
    intro r _ hr _
    have h2 := mx_0 (p := r) (TX_pg ho h hq.1) (by omega)
    unfold f_X8_lowestFree_2
    rw [h2, bd_some, tEq (by rw [hq.2.1]; omega), hr]
    rfl
  | m + 1, n + 1 => by
    intro r hm hr hn
    have h1 := hq.1
    have h2 := mx_0 (p := r) (TX_pg ho h (show q - (m + 1) < 32 by omega)) hr
    have h3 := hq.2.2 (q - (m + 1)) (by omega)
    have h4 := (ho (q - (m + 1)) (by omega)).2.2.1
    have ih := lm_lf (K := K) ho h hq m n (r + 1) (by omega) (by omega) (by omega)
    unfold f_X8_lowestFree_2
    rw [h2, bd_some, fEq (by omega), ih]
theorem mx_lf (ho : TOk P) (h : TX X P) (hq : IsLF P q) : f_X8_lowestFree X = some (X, (q : Int)) := by
  have hfu := FU_eq
  have h1 := hq.1
  unfold f_X8_lowestFree
  rw [lm_lf ho h hq q FU 0 (by omega) (by omega) (by omega)]
theorem lm_free {K : Int → Int → Mem → Option (Mem × Int)} (ho : TOk P) (hT : TX X P) : ∀ (m n : Nat) (v2 v3 : Int), m ≤ 32 → v2 = ((nS P 0 (32 - m) : Nat) : Int) → v3 = ((32 - m : Nat) : Int) → m < n → f_X8_freeMany_4 K n v2 v3 X = K ((nS P 0 32 : Nat) : Int) 32 X
  | _, 0 => by intros; omega
  | 0, n + 1 => by
    intro v2 v3 _ h2 h3 _
    unfold f_X8_freeMany_4
    rw [fLt (by omega), h2, h3]
    rfl
  | m + 1, n + 1 => by
    intro v2 v3 hm h2 h3 hn
    have hp := mx_0 (p := v3) (TX_pg ho hT (show 32 - (m + 1) < 32 by omega)) h3
    have hsr := (ho (32 - (m + 1)) (by omega)).2.2.1
    have hst : nS P 0 (32 - m) = nS P 0 (32 - (m + 1)) + (if (P (32 - (m + 1))).1 = 0 then 1 else 0) := by
      rw [show 32 - m = (32 - (m + 1)) + 1 by omega]; rfl
    unfold f_X8_freeMany_4
    rw [tLt (by omega), hp, bd_some]
    by_cases h : (P (32 - (m + 1))).1 = 0
    · rw [if_pos h] at hst
      rw [tEq (by omega)]
      exact lm_free ho hT m n _ _ (by omega) (by omega) (by omega) (by omega)
    · rw [if_neg h] at hst
      rw [fEq (by omega)]
      exact lm_free ho hT m n _ _ (by omega) (by omega) (by omega) (by omega)
theorem mx_free (ho : TOk P) (hT : TX X P) : f_X8_freeMany X = some (X, ((nS P 0 32 : Nat) : Int)) := by
  have hfu := FU_eq
  unfold f_X8_freeMany
  rw [lm_free ho hT 32 FU 0 0 (by omega) rfl rfl (by omega)]
/-- a new root over the old one -/
theorem mx_raise (ho : TOk P) (hT : TX X P) (hq : IsLF P q) (hk : UpX X w) (hw1 : 1 ≤ w.length) {r1 r2 : Int} (h1 : r1 = (i : Int)) (hr2 : 0 ≤ r2 ∧ r2 ≤ 255) : ∃ X', f_X8_newRoot r1 r2 X = some (X', 0) ∧ TX X' (uP P q (2, (i : Int), [(w, r2)])) ∧ X' 95 1 = (q : Int) ∧ X' 95 2 = X 95 2 + 1 ∧ (∀ a b, a ≠ 96 → a ≠ 97 → a ≠ 98 → a ≠ 99 → ¬ (a = 95 ∧ (b = 1 ∨ b = 2 ∨ b = 6)) → X' a b = X a b) := by
  have hq32 := hq.1
  have hl := hk.2.2.1
  have hrow : RowX (up (up (up X 95 1 (q : Int)) 95 2 (X 95 2 + 1)) 95 6 0) ([] ++ []) := RowX_nil
  have har : ArX (up (up (up X 95 1 (q : Int)) 95 2 (X 95 2 + 1)) 95 6 0) (100 + 0) w := fun j hj => by rw [up_k (by omega), up_k (by omega), up_k (by omega)]; exact hk.2.1 j hj
  obtain ⟨X1, q1, q2, q3⟩ := mx_in (q := 0) (n := (w.length : Int)) (t := r2) hrow har hk.2.2 hw1 (by omega) (by simp) (by rfl) rfl hr2
  have b1 : Rows X1 0 ([] ++ [(w, r2)] ++ []) := q2.2.1
  have e1 : X1 95 1 = (q : Int) := by rw [q3 _ _ (by omega) (by omega) (by omega) (by omega), up_j (by omega), up_j (by omega), up_same]
  refine ⟨stX X1 q (enc 2 (i : Int) [(w, r2)]), ?_, ?_, ?_, ?_, ?_⟩
  · unfold f_X8_newRoot
    rw [mx_lf ho hT hq, bd_some, up_j (k := 95) (j := 1) (a := 95) (b := 2) (by omega), up_j (b := 10) (by omega), up_j (b := 10) (by omega), up_j (b := 10) (by omega), hk.1, q1, bd_some, e1, mx_back hq32 rfl b1 q2.2.2 (by simp) (by simp [szs]; omega) (by rfl) (by rfl), bd_some, h1]
  · refine TX_st (TX_fr hT (fun y => ?_)) ⟨rfl, rfl, rfl⟩
    rw [q3 _ _ (by omega) (by omega) (by omega) (by omega), up_k (by omega), up_k (by omega), up_k (by omega)]
  · rw [stX_k (by omega), e1]
  · rw [stX_k (by omega), q3 _ _ (by omega) (by omega) (by omega) (by omega), up_j (by omega), up_same]
  · intro a b h1 h2 h3 h4 h5
    rw [stX_k h1, q3 _ _ h2 h3 h4 (by omega), up_ap, if_neg (by omega), up_ap, if_neg (by omega), up_ap, if_neg (by omega)]
end MT

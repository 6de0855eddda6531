/-! MODEL: the row changes, pages are written. -/
def ArX (X : Mem) (c : Nat) (w : List Int) : Prop := ∀ j, j < w.length → X c j = w.getD j 0
section R2
variable {X X' : Mem} {i o k c : Nat} {s l p t : Int} {es a b x y z : List Ent} {e u v : Ent} {w : List Int}
/-- the row's tail moves up by one -/
theorem lm_in6 {K : Int → Mem → Option (Mem × Int)} {u3 u4 q : Int} (hq : q = (o : Int)) : ∀ (m n : Nat) (b1 b2 : List Ent) (v5 : Int) (Y : Mem), b1.length = m → v5 = ((o + m : Nat) : Int) → m < n → EsOk (b1 ++ b2) → o + (b1 ++ b2).length < 48 → Rows Y o b1 → Rows Y (o + m + 1) b2 → ∃ Y', f_X8_comesIn_6 q c u3 u4 K n v5 Y = K (o : Int) Y' ∧ Rows Y' (o + 1) (b1 ++ b2) ∧ (∀ k, k ≤ o → Y' 97 k = Y 97 k ∧ Y' 99 k = Y 99 k ∧ ∀ j, j < 8 → Y' 98 (8 * k + j) = Y 98 (8 * k + j)) ∧ (∀ a d, a ≠ 97 → a ≠ 98 → a ≠ 99 → Y' a d = Y a d)
  | _, 0 => by intros; omega
  | 0, n + 1 => by
    intro b1 b2 v5 Y hb hv _ _ h48 _ h2
    have : b1 = [] := List.length_eq_zero_iff.mp hb
    subst this
    refine ⟨Y, ?_, h2, fun k _ => ⟨rfl, rfl, fun _ _ => rfl⟩, fun _ _ _ _ _ => rfl⟩
    simp at h48
    unfold f_X8_comesIn_6
    rw [fLt (by omega), hv]
    rfl
  | m + 1, n + 1 => by
    intro b1 b2 v5 Y hb hv hn ho h48 h1 h2
    have hne : b1 ≠ [] := by intro h; rw [h] at hb; simp at hb
    have hsp := List.dropLast_concat_getLast hne
    have hdl : b1.dropLast.length = m := by rw [List.length_dropLast]; omega
    generalize b1.dropLast = d at hsp hdl
    generalize b1.getLast hne = f at hsp
    rw [← hsp] at ho h48 h1
    have ho1 := EsOk_app.mp ho
    have ho2 := EsOk_app.mp ho1.1
    have hf := (EsOk_cons.mp ho2.2).1
    have r1 := (Rows_app d [f] o).mp h1
    simp at h48
    obtain ⟨Y1, c1, c2, c3, c4⟩ := mx_copies (k1 := o + m) (k2 := o + m + 1) (q1 := v5 - 1) (q2 := v5) (by omega) (by omega) (by omega) (by omega) (by omega) (by rw [← hdl]; exact r1.2.1) hf
    have g1 : Rows Y1 o d := Rows_fr d o ho2.1 r1.1 (fun k q1 q2 => c3 k (by omega))
    have g2 : Rows Y1 (o + m + 1) (f :: b2) := ⟨c2, Rows_fr b2 (o + m + 1 + 1) ho1.2 h2 (fun k q1 q2 => c3 k (by omega))⟩
    obtain ⟨Y', i1, i2, i3, i4⟩ := lm_in6 (K := K) (u3 := u3) (u4 := u4) hq m n d (f :: b2) (v5 + -1) Y1 hdl (by omega) (by omega) (by rw [List.append_assoc] at ho; exact ho) (by simp; omega) g1 g2
    refine ⟨Y', ?_, ?_, ?_, ?_⟩
    · unfold f_X8_comesIn_6
      rw [tLt (by omega), c1, bd_some]
      exact i1
    · rw [← hsp, List.append_assoc]
      exact i2
    · intro k hk
      obtain ⟨a1, a2, a3⟩ := i3 k hk
      obtain ⟨b1, b2, b3⟩ := c3 k (by omega)
      exact ⟨by rw [a1, b1], by rw [a2, b2], fun j hj => by rw [a3 j hj, b3 j hj]⟩
    · intro a d h1 h2 h3
      rw [i4 a d h1 h2 h3, c4 a d h1 h2 h3]
theorem lm_in46 {K : Int → Mem → Option (Mem × Int)} {q u3 : Int} (hq : q = (o : Int)) (ho : o < 48) (hw : LOk w) (hu : u3 = (w.length : Int)) (hc : c ≤ 1) : ∀ (m n : Nat) (v5 : Int) (Y : Mem), ArX Y (100 + c) w → m ≤ w.length → v5 = ((w.length - m : Nat) : Int) → m < n → f_X8_comesIn_46 q c u3 K n v5 (stI Y 98 (8 * o) (8 * o + (w.length - m)) (fun j => w.getD (j - 8 * o) 0)) = K (w.length : Int) (stI Y 98 (8 * o) (8 * o + w.length) (fun j => w.getD (j - 8 * o) 0))
  | _, 0 => by intros; omega
  | 0, n + 1 => by
    intro v5 Y _ _ hv _
    have h8 := hw.1
    unfold f_X8_comesIn_46
    rw [fLt (by omega), hv]
    rfl
  | m + 1, n + 1 => by
    intro v5 Y hY hm hv hn
    have h8 := hw.1
    have ih := lm_in46 (K := K) hq ho hw hu hc m n (v5 + 1) Y hY (by omega) (by omega) (by omega)
    unfold f_X8_comesIn_46
    rw [tLt (by omega), ix_t (by omega), ix_t (by omega), nat2 hv, show (8 * q + v5).toNat = 8 * o + (w.length - (m + 1)) by omega, stI_k (by omega), hY _ (by omega), stI_up (by omega) (by rw [show 8 * o + (w.length - (m + 1)) - 8 * o = w.length - (m + 1) by omega]), show 8 * o + (w.length - (m + 1)) + 1 = 8 * o + (w.length - m) by omega]
    exact ih
/-- an entry comes into the row -/
theorem mx_in (h : RowX X (a ++ b)) (hw : ArX X (100 + c) w) (hl : LOk w) (hw1 : 1 ≤ w.length) (hc : c ≤ 1) (h48 : (a ++ b).length < 48) {q n t : Int} (hq : q = (a.length : Int)) (hn : n = (w.length : Int)) (ht : 0 ≤ t ∧ t ≤ 255) : ∃ X', f_X8_comesIn q c n t X = some (X', 0) ∧ RowX X' (a ++ (w, t) :: b) ∧ Fro X X' := by
  have hfu := FU_eq
  have hab := EsOk_app.mp h.2.2
  have hr := (Rows_app a b 0).mp h.2.1
  rw [Nat.zero_add] at hr
  have hlen : (a ++ b).length = a.length + b.length := by simp
  have h8 := hl.1
  obtain ⟨Y, i1, i2, i3, i4⟩ := lm_in6 (o := a.length) (c := c) (u3 := n) (u4 := t) (K := (fun (v5_e6 : Int) (C_e6 : Mem) => (ix (q) 48 (ix (q) 48 (f_X8_comesIn_46 (q) c (n) (fun (v5_e46 : Int) (C_e46 : Mem) => (some ((up C_e46 95 6 ((C_e46 95 6) + 1)), 0))) FU (0) (up (up C_e6 (97) (q).toNat (n)) (99) (q).toNat (t))))))) hq b.length FU b [] (X 95 6) X rfl (by rw [h.1, hlen]) (by omega) (by rw [List.append_nil]; exact hab.2) (by simp; omega) hr.2 trivial
  rw [List.append_nil] at i2
  have h46 := lm_in46 (K := (fun (v5_e46 : Int) (C_e46 : Mem) => (some ((up C_e46 95 6 ((C_e46 95 6) + 1)), 0)))) (o := a.length) (c := c) hq (by omega) hl hn hc w.length FU 0 (up (up Y 97 a.length n) 99 a.length t) (fun j hj => by rw [up_k (by omega), up_k (by omega), i4 _ _ (by omega) (by omega) (by omega)]; exact hw j hj) (by omega) (by omega) (by omega)
  rw [show 8 * a.length + (w.length - w.length) = 8 * a.length by omega, stI_nil] at h46
  refine ⟨up (stI (up (up Y 97 a.length n) 99 a.length t) 98 (8 * a.length) (8 * a.length + w.length) (fun j => w.getD (j - 8 * a.length) 0)) 95 6 (((a ++ b).length : Int) + 1), ?_, ⟨?_, ?_, ?_⟩, ?_⟩
  · unfold f_X8_comesIn
    rw [i1]
    rw [ix_t (by omega), ix_t (by omega), nat2 hq, h46]
    rw [stI_k (by omega), up_k (by omega), up_k (by omega), i4 _ _ (by omega) (by omega) (by omega), h.1]
  · rw [up_same]
    simp
    omega
  · rw [Rows_app, Nat.zero_add]
    refine ⟨?_, ⟨?_, ?_, ?_⟩, ?_⟩
    · refine Rows_fr a 0 hab.1 hr.1 ?_
      intro k _ hk
      obtain ⟨a1, a2, a3⟩ := i3 k (by omega)
      exact ⟨by rw [up_k (by omega), stI_k (by omega), up_k (by omega), up_j (by omega), a1], by rw [up_k (by omega), stI_k (by omega), up_j (by omega), up_k (by omega), a2], fun j hj => by rw [up_k (by omega), stI_out (by omega), up_k (by omega), up_k (by omega), a3 j hj]⟩
    · rw [up_k (by omega), stI_k (by omega), up_k (by omega), up_same, hn]
    · rw [up_k (by omega), stI_k (by omega), up_same]
    · intro j hj
      have hj : j < w.length := hj
      rw [up_k (by omega), stI_in (by omega), show 8 * a.length + j - 8 * a.length = j by omega]
    · refine Rows_fr b (a.length + 1) hab.2 i2 ?_
      intro k hk1 hk2
      exact ⟨by rw [up_k (by omega), stI_k (by omega), up_k (by omega), up_j (by omega)], by rw [up_k (by omega), stI_k (by omega), up_j (by omega), up_k (by omega)], fun j hj => by rw [up_k (by omega), stI_out (by omega), up_k (by omega), up_k (by omega)]⟩
  · exact EsOk_app.mpr ⟨hab.1, EsOk_cons.mpr ⟨⟨hw1, hl.1, hl.2, ht⟩, hab.2⟩⟩
  · intro c d h1 h2 h3 h4
    rw [up_ap, if_neg h4, stI_k (by omega), up_k (by omega), up_k (by omega), i4 _ _ h1 h2 h3]
/-- the row's tail moves down by one -/
theorem lm_go {K : Int → Mem → Option (Mem × Int)} {M : Nat} (hM : M ≤ 48) : ∀ (b : List Ent) (o n : Nat) (q : Int) (Y : Mem), EsOk b → Rows Y (o + 1) b → Y 95 6 = (M : Int) → o + 1 + b.length = M → q = (o : Int) + 1 → b.length < n → ∃ Y', f_X8_goesOut_4 K n q Y = K (M : Int) Y' ∧ Rows Y' o b ∧ (∀ k, k < o → Y' 97 k = Y 97 k ∧ Y' 99 k = Y 99 k ∧ ∀ j, j < 8 → Y' 98 (8 * k + j) = Y 98 (8 * k + j)) ∧ (∀ a d, a ≠ 97 → a ≠ 98 → a ≠ 99 → Y' a d = Y a d)
  | _, _, 0 => by intros; omega
  | [], o, n + 1 => by
    intro q Y _ _ h1 h2 hq _
    refine ⟨Y, ?_, trivial, fun k _ => ⟨rfl, rfl, fun _ _ => rfl⟩, fun _ _ _ _ _ => rfl⟩
    simp at h2
    unfold f_X8_goesOut_4
    rw [h1, fLt (by omega), hq, ← h2]
    rfl
  | f :: r, o, n + 1 => by
    intro q Y ho h1 h2 h3 hq hn
    have ho1 := EsOk_cons.mp ho
    simp at h3 hn
    obtain ⟨Y1, c1, c2, c3, c4⟩ := mx_copies (k1 := o + 1) (k2 := o) (q1 := q) (q2 := q - 1) (by omega) (by omega) (by omega) (by omega) (by omega) h1.1 ho1.1
    obtain ⟨Y', i1, i2, i3, i4⟩ := lm_go (K := K) hM r (o + 1) n (q + 1) Y1 ho1.2 (Rows_fr r (o + 1 + 1) ho1.2 h1.2 (fun k q1 q2 => c3 k (by omega))) (by rw [c4 _ _ (by omega) (by omega) (by omega), h2]) (by omega) (by omega) (by omega)
    refine ⟨Y', ?_, ⟨?_, i2⟩, ?_, ?_⟩
    · unfold f_X8_goesOut_4
      rw [h2, tLt (by omega), c1, bd_some]
      exact i1
    · obtain ⟨a1, a2, a3⟩ := i3 o (by omega)
      have := ho1.1.2.1
      exact ⟨by rw [a1]; exact c2.1, by rw [a2]; exact c2.2.1, fun j hj => by rw [a3 j (by omega)]; exact c2.2.2 j hj⟩
    · intro k hk
      obtain ⟨a1, a2, a3⟩ := i3 k (by omega)
      obtain ⟨b1, b2, b3⟩ := c3 k (by omega)
      exact ⟨by rw [a1, b1], by rw [a2, b2], fun j hj => by rw [a3 j hj, b3 j hj]⟩
    · intro a d h1 h2 h3
      rw [i4 a d h1 h2 h3, c4 a d h1 h2 h3]
theorem mx_go (h : RowX X (a ++ e :: b)) (h48 : (a ++ e :: b).length ≤ 48) {q : Int} (hq : q = (a.length : Int)) : ∃ X', f_X8_goesOut q X = some (X', 0) ∧ RowX X' (a ++ b) ∧ Fro X X' := by
  have hfu := FU_eq
  have hab := EsOk_app.mp h.2.2
  have hb := EsOk_cons.mp hab.2
  have hr := (Rows_app a (e :: b) 0).mp h.2.1
  rw [Nat.zero_add] at hr
  have hlen : (a ++ e :: b).length = a.length + (b.length + 1) := by simp
  obtain ⟨Y, i1, i2, i3, i4⟩ := lm_go (K := (fun (v2_e4 : Int) (C_e4 : Mem) => (some ((up C_e4 95 6 ((C_e4 95 6) - 1)), 0)))) (M := (a ++ e :: b).length) h48 b a.length FU (q + 1) X hb.2 hr.2.2 h.1 (by omega) (by omega) (by omega)
  refine ⟨up Y 95 6 (((a ++ e :: b).length : Int) - 1), ?_, ⟨?_, ?_, EsOk_app.mpr ⟨hab.1, hb.2⟩⟩, ?_⟩
  · unfold f_X8_goesOut
    rw [i1]
    rw [i4 _ _ (by omega) (by omega) (by omega), h.1]
  · rw [up_same]
    simp
    omega
  · rw [Rows_app, Nat.zero_add]
    refine ⟨Rows_fr a 0 hab.1 hr.1 ?_, Rows_fr b a.length hb.2 i2 ?_⟩
    · intro k _ hk
      obtain ⟨a1, a2, a3⟩ := i3 k (by omega)
      exact ⟨by rw [up_k (by omega), a1], by rw [up_k (by omega), a2], fun j hj => by rw [up_k (by omega), a3 j hj]⟩
    · intro k _ _
      exact ⟨by rw [up_k (by omega)], by rw [up_k (by omega)], fun j hj => by rw [up_k (by omega)]⟩
  · intro c d h1 h2 h3 h4
    rw [up_ap, if_neg h4, i4 _ _ h1 h2 h3]
/-! pages are written -/
theorem stX_ap {g : Nat → Int} {c d : Nat} : stX X i g c d = if c = 96 ∧ 64 * i ≤ d ∧ d < 64 * i + 64 then g (d - 64 * i) else X c d := rfl
theorem stX_k {g : Nat → Int} {c d : Nat} (h : c ≠ 96) : stX X i g c d = X c d := by rw [stX_ap, if_neg (by omega)]
theorem stX_in {g : Nat → Int} {d : Nat} (h : d < 64) : stX X i g 96 (64 * i + d) = g d := by rw [stX_ap, if_pos (by omega), show 64 * i + d - 64 * i = d by omega]
theorem stX_o {g : Nat → Int} {c d : Nat} (h : d < 64 * i ∨ 64 * i + 64 ≤ d) : stX X i g c d = X c d := by rw [stX_ap, if_neg (by omega)]
theorem lm_clear {K : Int → Mem → Option (Mem × Int)} (hi : i < 32) (hp : p = (i : Int)) : ∀ (m n : Nat) (q : Int), m ≤ 64 → q = ((64 - m : Nat) : Int) → m < n → f_X8_clears_2 p K n q (stI X 96 (64 * i) (64 * i + (64 - m)) (fun _ => 0)) = K 64 (stI X 96 (64 * i) (64 * i + 64) (fun _ => 0))
  | _, 0 => by intros; omega
  | 0, n + 1 => by
    intro q _ hq _
    unfold f_X8_clears_2
    rw [fLt (by omega), hq]
    rfl
  | m + 1, n + 1 => by
    intro q hm hq hn
    have ih := lm_clear (K := K) hi hp m n (q + 1) (by omega) (by omega) (by omega)
    unfold f_X8_clears_2
    rw [tLt (by omega), ix_t (by omega), show (64 * p + q).toNat = 64 * i + (64 - (m + 1)) by omega, stI_up (by omega) rfl, show 64 * i + (64 - (m + 1)) + 1 = 64 * i + (64 - m) by omega]
    exact ih
theorem enc_00 (j : Nat) : enc 0 0 [] j = 0 := by
  unfold enc
  simp [flat]
theorem mx_clear (hi : i < 32) (hp : p = (i : Int)) : f_X8_clears p X = some (stX X i (enc 0 0 []), 0) := by
  have hfu := FU_eq
  unfold f_X8_clears
  have h := lm_clear (X := X) (K := (fun (v2_e2 : Int) (C_e2 : Mem) => (some (C_e2, 0)))) hi hp 64 FU 0 (by omega) rfl (by omega)
  rw [show 64 * i + (64 - 64) = 64 * i by omega, stI_nil] at h
  rw [h]
  refine some_c ?_ rfl
  funext c d
  rw [stI_ap, stX_ap, enc_00]
/-- letters of an entry go back -/
theorem lm_back79 {K : Int → Mem → Option (Mem × Int)} {u5 q6 q7 : Int} {S : Nat} (hk : k < 48) (h6 : q6 = (S : Int)) (h7 : q7 = (k : Int)) (he : EOk e) (hS : S + e.1.length + 2 ≤ 2048) : ∀ (m n : Nat) (q : Int) (Y : Mem), rowAt Y k e → m ≤ e.1.length → q = ((e.1.length - m : Nat) : Int) → m < n → f_X8_goBack_79 u5 q6 q7 K n q (stI Y 96 (S + 1) (S + 1 + (e.1.length - m)) (fun j => e.1.getD (j - (S + 1)) 0)) = K (e.1.length : Int) (stI Y 96 (S + 1) (S + 1 + e.1.length) (fun j => e.1.getD (j - (S + 1)) 0))
  | _, 0 => by intros; omega
  | 0, n + 1 => by
    intro q Y hY _ hq _
    have h8 := he.2.1
    unfold f_X8_goBack_79
    rw [ix_t (by omega), nat2 h7, stI_k (by omega), hY.1, fLt (by omega), hq]
    rfl
  | m + 1, n + 1 => by
    intro q Y hY hm hq hn
    have h8 := he.2.1
    have ih := lm_back79 (K := K) (u5 := u5) hk h6 h7 he hS m n (q + 1) Y hY (by omega) (by omega) (by omega)
    unfold f_X8_goBack_79
    rw [ix_t (by omega), nat2 h7, stI_k (by omega), hY.1, tLt (by omega), ix_t (by omega), ix_t (by omega), show (8 * q7 + q).toNat = 8 * k + (e.1.length - (m + 1)) by omega, show (q6 + 1 + q).toNat = S + 1 + (e.1.length - (m + 1)) by omega, stI_k (by omega), hY.2.2 _ (by omega), stI_up (by omega) (by rw [show S + 1 + (e.1.length - (m + 1)) - (S + 1) = e.1.length - (m + 1) by omega]), show S + 1 + (e.1.length - (m + 1)) + 1 = S + 1 + (e.1.length - m) by omega]
    exact ih
theorem lm_back55 {K : Int → Int → Mem → Option (Mem × Int)} {u5 : Int} : ∀ (y : List Ent) (o S n : Nat) (q6 q7 : Int) (Y : Mem), EsOk y → Rows Y o y → o + y.length ≤ 48 → S + szs y ≤ 2048 → u5 = ((o + y.length : Nat) : Int) → q6 = (S : Int) → q7 = (o : Int) → y.length < n → f_X8_goBack_55 u5 K n q6 q7 Y = K ((S + szs y : Nat) : Int) u5 (stI Y 96 S (S + szs y) (fun j => (flat y).getD (j - S) 0))
  | _, _, _, 0 => by intros; omega
  | [], o, S, n + 1 => by
    intro q6 q7 Y _ _ _ _ h5 h6 h7 _
    simp at h5
    unfold f_X8_goBack_55
    rw [fLt (by omega), h6, h7, szs_nil, Nat.add_zero, stI_nil, h5]
  | e :: r, o, S, n + 1 => by
    intro q6 q7 Y ho hr h48 hS h5 h6 h7 hn
    have hfu := FU_eq
    have ho1 := EsOk_cons.mp ho
    have h8 := ho1.1.2.1
    simp at h48 h5 hn
    rw [szs_cons] at hS
    have hY1 : ∀ c d, c ≠ 96 → (stI (up Y 96 S (e.1.length : Int)) 96 (S + 1) (S + 1 + e.1.length) (fun j => e.1.getD (j - (S + 1)) 0)) c d = Y c d := fun c d hc => by rw [stI_k hc, up_k hc]
    have ra : rowAt (up Y 96 S (e.1.length : Int)) o e := ⟨by rw [up_k (by omega)]; exact hr.1.1, by rw [up_k (by omega)]; exact hr.1.2.1, fun j hj => by rw [up_k (by omega)]; exact hr.1.2.2 j hj⟩
    have h79 := lm_back79 (u5 := u5) (q6 := q6) (q7 := q7) (K := (fun (v8_e79 : Int) (C_e79 : Mem) => (ix (q7) 48 (ix (q7) 48 (ix ((q6 + 1) + (C_e79 (97) (q7).toNat)) 2048 (ix (q7) 48 (f_X8_goBack_55 u5 K n (q6 + (((up C_e79 (96) ((q6 + 1) + (C_e79 (97) (q7).toNat)).toNat (C_e79 (99) (q7).toNat)) (97) (q7).toNat) + 2)) (q7 + 1) (up C_e79 (96) ((q6 + 1) + (C_e79 (97) (q7).toNat)).toNat (C_e79 (99) (q7).toNat))))))))) (k := o) (S := S) (by omega) h6 h7 ho1.1 (by omega) e.1.length FU 0 (up Y 96 S (e.1.length : Int)) ra (by omega) (by omega) (by omega)
    rw [show S + 1 + (e.1.length - e.1.length) = S + 1 by omega, stI_nil] at h79
    unfold f_X8_goBack_55
    rw [tLt (by omega), ix_t (by omega), ix_t (by omega), nat2 h7, nat2 h6, hr.1.1]
    rw [nat2 h7] at h79
    rw [h79]
    rw [hY1 _ _ (by omega), hY1 _ _ (by omega), hr.1.1, hr.1.2.1, ix_t (by omega), ix_t (by omega), ix_t (by omega), ix_t (by omega), up_k (by omega), hY1 _ _ (by omega), hr.1.1, show (q6 + 1 + (e.1.length : Int)).toNat = S + 1 + e.1.length by omega]
    have ih := lm_back55 (K := K) (u5 := u5) r (o + 1) (S + (e.1.length + 2)) n (q6 + ((e.1.length : Int) + 2)) (q7 + 1) (up (stI (up Y 96 S (e.1.length : Int)) 96 (S + 1) (S + 1 + e.1.length) (fun j => e.1.getD (j - (S + 1)) 0)) 96 (S + 1 + e.1.length) e.2) ho1.2 (Rows_fr r (o + 1) ho1.2 hr.2 (fun k _ _ => ⟨by rw [up_k (by omega), hY1 _ _ (by omega)], by rw [up_k (by omega), hY1 _ _ (by omega)], fun j _ => by rw [up_k (by omega), hY1 _ _ (by omega)]⟩)) (by omega) (by omega) (by omega) (by omega) (by omega) (by omega)
    rw [ih, szs_cons]
    have hm : stI (up (stI (up Y 96 S (e.1.length : Int)) 96 (S + 1) (S + 1 + e.1.length) (fun j => e.1.getD (j - (S + 1)) 0)) 96 (S + 1 + e.1.length) e.2) 96 (S + (e.1.length + 2)) (S + (e.1.length + 2) + szs r) (fun j => (flat r).getD (j - (S + (e.1.length + 2))) 0) = stI Y 96 S (S + (e.1.length + 2 + szs r)) (fun j => (flat (e :: r)).getD (j - S) 0) := by
      funext c d
      rw [flat_cons]
      by_cases hc : c = 96
      · subst hc
        by_cases d1 : S + (e.1.length + 2) ≤ d ∧ d < S + (e.1.length + 2) + szs r
        · rw [stI_in d1, stI_in (by omega), gd_r (by rw [e1_len]; omega), e1_len]
          exact gd_c (by omega)
        · rw [stI_out (by omega)]
          by_cases d2 : d = S + 1 + e.1.length
          · rw [d2, up_same, stI_in (by omega), gd_l (by rw [e1_len]; omega), show S + 1 + e.1.length - S = 1 + e.1.length by omega, e1_t]
          · rw [up_j d2]
            by_cases d3 : S + 1 ≤ d ∧ d < S + 1 + e.1.length
            · rw [stI_in d3, stI_in (by omega), gd_l (by rw [e1_len]; omega), show d - S = 1 + (d - (S + 1)) by omega, e1_l _ (by omega)]
            · rw [stI_out (by omega)]
              by_cases d4 : d = S
              · rw [d4, up_same, stI_in (by omega), Nat.sub_self]
                rfl
              · rw [up_j d4, stI_out (by omega)]
      · rw [stI_k hc, up_k hc, stI_k hc, up_k hc, stI_k hc]
    rw [hm, show S + (e.1.length + 2) + szs r = S + (e.1.length + 2 + szs r) by omega]
theorem mx_back (hi : i < 32) (hp : p = (i : Int)) (hr : Rows X 0 (x ++ y ++ z)) (ho : EsOk y) (h48 : (x ++ y).length ≤ 48) (hy : szs y ≤ 61) {q4 q5 : Int} (h4 : q4 = (x.length : Int)) (h5 : q5 = ((x ++ y).length : Int)) : f_X8_goBack p s l q4 q5 X = some (stX X i (enc s l y), 0) := by
  have hfu := FU_eq
  have hlen : (x ++ y).length = x.length + y.length := by simp
  have hr2 := ((Rows_app x y 0).mp ((Rows_app (x ++ y) z 0).mp hr).1).2
  rw [Nat.zero_add] at hr2
  have h3 := len_szs y
  unfold f_X8_goBack
  rw [mx_clear hi hp, bd_some, ix_t (by omega), ix_t (by omega), ix_t (by omega)]
  rw [lm_back55 y x.length (64 * i + 3) FU _ q4 _ ho (Rows_fr y x.length ho hr2 (fun k _ _ => ⟨by rw [up_k (by omega), up_k (by omega), up_k (by omega), stX_k (by omega)], by rw [up_k (by omega), up_k (by omega), up_k (by omega), stX_k (by omega)], fun j _ => by rw [up_k (by omega), up_k (by omega), up_k (by omega), stX_k (by omega)]⟩)) (by omega) (by omega) (by omega) (by omega) h4 (by omega)]
  refine some_c ?_ rfl
  funext c d
  rw [show (64 * p).toNat = 64 * i by omega, show (64 * p + 1).toNat = 64 * i + 1 by omega, show (64 * p + 2).toNat = 64 * i + 2 by omega]
  by_cases hc : c = 96
  · subst hc
    by_cases hd : 64 * i ≤ d ∧ d < 64 * i + 64
    · rw [show d = 64 * i + (d - 64 * i) by omega, stX_in (g := enc s l y) (by omega)]
      generalize hj : d - 64 * i = j
      by_cases d1 : 3 ≤ j ∧ j < 3 + szs y
      · rw [stI_in (by omega), enc_g (by omega)]
        exact gd_c (by omega)
      · rw [stI_out (by omega)]
        by_cases d2 : j = 2
        · subst d2; rw [up_same]; rfl
        · rw [up_j (by omega)]
          by_cases d3 : j = 1
          · subst d3; rw [up_same, enc_1, h4, h5]; omega
          · rw [up_j (by omega)]
            by_cases d4 : j = 0
            · subst d4; rw [Nat.add_zero, up_same]; rfl
            · rw [up_j (by omega), stX_in (by omega), enc_00, enc_out (by omega)]
    · rw [stI_out (by omega), up_j (by omega), up_j (by omega), up_j (by omega), stX_o (by omega), stX_o (by omega)]
  · rw [stI_k hc, up_k hc, up_k hc, up_k hc, stX_k hc, stX_k hc]
end R2

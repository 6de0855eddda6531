/-! MODEL: the row of entries. -/
def rowAt (X : Mem) (k : Nat) (e : Ent) : Prop := X 97 k = (e.1.length : Int) ∧ X 99 k = e.2 ∧ ∀ j, j < e.1.length → X 98 (8 * k + j) = e.1.getD j 0
def Rows (X : Mem) : Nat → List Ent → Prop
  | _, [] => True
  | o, e :: r => rowAt X o e ∧ Rows X (o + 1) r
def RowX (X : Mem) (es : List Ent) : Prop := X 95 6 = (es.length : Int) ∧ Rows X 0 es ∧ EsOk es
/-- the row alone -/
def Fro (X X' : Mem) : Prop := ∀ a b, a ≠ 97 → a ≠ 98 → a ≠ 99 → ¬ (a = 95 ∧ b = 6) → X' a b = X a b
def stX (X : Mem) (i : Nat) (g : Nat → Int) : Mem := fun a b => if a = 96 ∧ 64 * i ≤ b ∧ b < 64 * i + 64 then g (b - 64 * i) else X a b
section RO
variable {X X' : Mem} {i o k : Nat} {s l p : Int} {es a b x y z : List Ent} {e u v : Ent} {w : List Int}
theorem Fro_refl : Fro X X := fun _ _ _ _ _ _ => rfl
theorem Fro_tr {X2 : Mem} (h1 : Fro X X') (h2 : Fro X' X2) : Fro X X2 := fun a b q1 q2 q3 q4 => by rw [h2 a b q1 q2 q3 q4, h1 a b q1 q2 q3 q4]
theorem Fro_PgX (h : PgX X i s l es) (hf : Fro X X') : PgX X' i s l es := ⟨fun j hj => by rw [hf _ _ (by omega) (by omega) (by omega) (by omega)]; exact h.1 j hj, h.2⟩
theorem Rows_cons {r : List Ent} : Rows X o (e :: r) ↔ rowAt X o e ∧ Rows X (o + 1) r := Iff.rfl
theorem Rows_app : ∀ (a b : List Ent) (o : Nat), Rows X o (a ++ b) ↔ Rows X o a ∧ Rows X (o + a.length) b
  | [], b, o => by simp [Rows]
  | e :: r, b, o => by
    rw [List.cons_append, Rows_cons, Rows_cons, Rows_app r b (o + 1), and_assoc, show o + 1 + r.length = o + (e :: r).length by simp; omega]
theorem Rows_mid (h : Rows X o (a ++ e :: b)) : rowAt X (o + a.length) e := ((Rows_app a (e :: b) o).mp h).2.1
/-- rows depend on their own places alone -/
theorem Rows_fr : ∀ (es : List Ent) (o : Nat), EsOk es → Rows X o es → (∀ k, o ≤ k → k < o + es.length → X' 97 k = X 97 k ∧ X' 99 k = X 99 k ∧ ∀ j, j < 8 → X' 98 (8 * k + j) = X 98 (8 * k + j)) → Rows X' o es
  | [], o => by intros; trivial
  | e :: r, o => by
    intro ho h hf
    have h0 := EsOk_cons.mp ho
    obtain ⟨f1, f2, f3⟩ := hf o (by omega) (by simp)
    refine ⟨⟨by rw [f1]; exact h.1.1, by rw [f2]; exact h.1.2.1, fun j hj => by rw [f3 j (by have := h0.1.2.1; omega)]; exact h.1.2.2 j hj⟩, ?_⟩
    exact Rows_fr r (o + 1) h0.2 h.2 (fun k h1 h2 => hf k (by omega) (by simp; omega))
/-- bytes of some of the row -/
theorem lm_bytes {K : Int → Int → Mem → Option (Mem × Int)} {q : Int} : ∀ (b : List Ent) (o n : Nat) (v3 v4 : Int), Rows X o b → o + b.length ≤ 48 → q = ((o + b.length : Nat) : Int) → v4 = (o : Int) → b.length < n → f_X8_bytesOf_5 q K n v3 v4 X = K (v3 + ((szs b : Nat) : Int)) q X
  | _, _, 0 => by intros; omega
  | [], o, n + 1 => by
    intro v3 v4 _ h2 hz hv _
    unfold f_X8_bytesOf_5
    rw [fLt (by simp at hz; omega), szs_nil, hv, hz]
    simp
  | e :: r, o, n + 1 => by
    intro v3 v4 h h2 hz hv hn
    simp at h2 hz hn
    have ih := lm_bytes (K := K) (q := q) r (o + 1) n (v3 + ((e.1.length : Int) + 2)) (v4 + 1) h.2 (by omega) (by omega) (by omega) (by omega)
    unfold f_X8_bytesOf_5
    rw [tLt (by omega), ix_t (by omega), nat2 hv, h.1.1, ih, szs_cons]
    congr 1
    omega
theorem mx_bytes (h : Rows X 0 (a ++ b)) (hl : a.length ≤ 48) {q : Int} (hq : q = (a.length : Int)) : f_X8_bytesOf 0 q X = some (X, ((szs a : Nat) : Int)) := by
  have hf := FU_eq
  unfold f_X8_bytesOf
  rw [lm_bytes a 0 FU 0 0 ((Rows_app a b 0).mp h).1 (by omega) (by omega) rfl (by omega)]
  simp
theorem mx_bytes_all (h : RowX X es) (hl : es.length ≤ 48) : f_X8_bytesOf 0 (X 95 6) X = some (X, ((szs es : Nat) : Int)) := mx_bytes (b := []) (by rw [List.append_nil]; exact h.2.1) hl h.1
/-- an entry of a page comes out: its letters -/
theorem lm_out36 {K : Int → Mem → Option (Mem × Int)} {u3 : Int} (h : PgX X i s l (a ++ e :: b)) (hp : p = (i : Int)) {M : Nat} (hM : M < 48) : ∀ (m n : Nat) (q : Int) (Y : Mem), m ≤ e.1.length → q = ((e.1.length - m : Nat) : Int) → m < n → Y 95 6 = (M : Int) → (∀ j, Y 96 j = X 96 j) → f_X8_comeOut_36 p ((3 + szs a : Nat) : Int) u3 (e.1.length : Int) K n q (stI Y 98 (8 * M) (8 * M + (e.1.length - m)) (fun j => e.1.getD (j - 8 * M) 0)) = K (e.1.length : Int) (stI Y 98 (8 * M) (8 * M + e.1.length) (fun j => e.1.getD (j - 8 * M) 0))
  | _, 0 => by intros; omega
  | 0, n + 1 => by
    intro q Y _ hq _ h1 h2
    have he := (EsOk_mid h.2.1).2.1
    unfold f_X8_comeOut_36
    rw [fLt (by omega), hq]
    rfl
  | m + 1, n + 1 => by
    intro q Y hm hq hn h1 h2
    have he := (EsOk_mid h.2.1).2.1
    have hY : PgX (stI Y 98 (8 * M) (8 * M + (e.1.length - (m + 1))) (fun j => e.1.getD (j - 8 * M) 0)) i s l (a ++ e :: b) := ⟨fun j hj => by rw [stI_k (by omega), h2]; exact h.1 j hj, h.2⟩
    have ih := lm_out36 (K := K) (u3 := u3) h hp hM m n (q + 1) Y (by omega) (by omega) (by omega) h1 h2
    unfold f_X8_comeOut_36
    rw [tLt (by omega), mx_let hY hp (j := e.1.length - (m + 1)) (by omega) (by omega), bd_some, stI_k (by omega), h1, ix_t (by omega), show (8 * (M : Int) + q).toNat = 8 * M + (e.1.length - (m + 1)) by omega, stI_up (by omega) (by rw [show 8 * M + (e.1.length - (m + 1)) - 8 * M = e.1.length - (m + 1) by omega]), show 8 * M + (e.1.length - (m + 1)) + 1 = 8 * M + (e.1.length - m) by omega]
    exact ih
theorem lm_out {K : Int → Int → Mem → Option (Mem × Int)} (h : PgX X i s l es) (hp : p = (i : Int)) : ∀ (b a x : List Ent) (n : Nat) (v2 v3 : Int) (Y : Mem), es = a ++ b → v2 = ((3 + szs a : Nat) : Int) → v3 = (a.length : Int) → b.length < n → (∀ j, Y 96 j = X 96 j) → RowX Y x → x.length + b.length ≤ 48 → ∃ Y' q, f_X8_comeOut_4 p K n v2 v3 Y = K q (es.length : Int) Y' ∧ RowX Y' (x ++ b) ∧ Fro Y Y'
  | _, _, _, 0 => by intros; omega
  | [], a, x, n + 1 => by
    intro v2 v3 Y h1 h2 h3 _ hY hx _
    have h6 := PgX_len h
    have hY' : PgX Y i s l es := ⟨fun j hj => by rw [hY]; exact h.1 j hj, h.2⟩
    have h7 : es.length = a.length := by rw [h1]; simp
    refine ⟨Y, v2, ?_, by rw [List.append_nil]; exact hx, Fro_refl⟩
    unfold f_X8_comeOut_4
    rw [mx_1 hY' hp, bd_some, fLt (by omega), h3, h7]
  | e :: b, a, x, n + 1 => by
    intro v2 v3 Y h1 h2 h3 hn hY hx h48
    have h6 := PgX_len h
    have hfu := FU_eq
    have h9 : es.length = a.length + (b.length + 1) := by rw [h1]; simp
    simp at h48 hn
    have hY' : PgX Y i s l (a ++ e :: b) := ⟨fun j hj => by rw [hY, ← h1]; exact h.1 j hj, by rw [← h1]; exact h.2⟩
    have hY'' : PgX Y i s l es := by rw [h1]; exact hY'
    have he := EsOk_mid hY'.2.1
    have he2 := he.2.1
    have hzz := hY'.2.2.1
    rw [szs_app, szs_cons] at hzz
    have hm := hx.1
    have hrx := hx.2.1
    have hR' : ∀ Y2 : Mem, (∀ k, k < x.length → Y2 97 k = Y 97 k ∧ Y2 99 k = Y 99 k ∧ ∀ j, j < 8 → Y2 98 (8 * k + j) = Y 98 (8 * k + j)) → Rows Y2 0 x := fun Y2 hh => Rows_fr x 0 hx.2.2 hrx (fun k _ hk => hh k (by omega))
    have h36 := lm_out36 (u3 := v3) (K := (fun (v5_e36 : Int) (C_e36 : Mem) => (bd (f_X8_at p ((v2 + 1) + (e.1.length : Int)) C_e36) (fun C91 r91 => (ix (C_e36 95 6) 48 (f_X8_comeOut_4 p K n (v2 + ((e.1.length : Int) + 2)) (v3 + 1) (up (up C91 (99) (C_e36 95 6).toNat (r91)) 95 6 (((up C91 (99) (C_e36 95 6).toNat (r91)) 95 6) + 1)))))))) hY' hp (M := x.length) (by omega) e.1.length FU 0 (up Y 97 x.length (e.1.length : Int)) (by omega) (by omega) (by omega) (by rw [up_k (by omega), hm]) (fun j => by rw [up_k (by omega)])
    rw [show 8 * x.length + (e.1.length - e.1.length) = 8 * x.length by omega, stI_nil] at h36
    have hY2 : PgX (stI (up Y 97 x.length (e.1.length : Int)) 98 (8 * x.length) (8 * x.length + e.1.length) (fun j => e.1.getD (j - 8 * x.length) 0)) i s l (a ++ e :: b) := ⟨fun j hj => by rw [stI_k (by omega), up_k (by omega)]; exact hY'.1 j hj, hY'.2⟩
    have hrow : RowX (up (up (stI (up Y 97 x.length (e.1.length : Int)) 98 (8 * x.length) (8 * x.length + e.1.length) (fun j => e.1.getD (j - 8 * x.length) 0)) 99 x.length e.2) 95 6 ((x.length : Int) + 1)) (x ++ [e]) := by
      refine ⟨by rw [up_same]; simp, ?_, EsOk_app.mpr ⟨hx.2.2, EsOk_cons.mpr ⟨he, by intro t ht; cases ht⟩⟩⟩
      rw [Rows_app]
      refine ⟨hR' _ ?_, ⟨?_, ?_, ?_⟩, trivial⟩
      · intro k hk
        refine ⟨by rw [up_k (by omega), up_k (by omega), stI_k (by omega), up_j (by omega)], by rw [up_k (by omega), up_j (by omega), stI_k (by omega), up_k (by omega)], fun j hj => by rw [up_k (by omega), up_k (by omega), stI_out (by omega), up_k (by omega)]⟩
      · rw [Nat.zero_add, up_k (by omega), up_k (by omega), stI_k (by omega), up_same]
      · rw [Nat.zero_add, up_k (by omega), up_same]
      · intro j hj
        rw [Nat.zero_add, up_k (by omega), up_k (by omega), stI_in (by omega), show 8 * x.length + j - 8 * x.length = j by omega]
    obtain ⟨Y', q, i1, i2, i3⟩ := lm_out (K := K) h hp b (a ++ [e]) (x ++ [e]) n (v2 + ((e.1.length : Int) + 2)) (v3 + 1) (up (up (stI (up Y 97 x.length (e.1.length : Int)) 98 (8 * x.length) (8 * x.length + e.1.length) (fun j => e.1.getD (j - 8 * x.length) 0)) 99 x.length e.2) 95 6 ((x.length : Int) + 1)) (by rw [h1]; simp) (by rw [szs_app, szs_cons, szs_nil]; omega) (by simp; omega) (by omega) (fun j => by rw [up_k (by omega), up_k (by omega), stI_k (by omega), up_k (by omega), hY]) hrow (by simp; omega)
    refine ⟨Y', q, ?_, ?_, ?_⟩
    · unfold f_X8_comeOut_4
      rw [mx_1 hY'' hp, bd_some, tLt (by omega), mx_len hY' hp h2, bd_some, hm, ix_t (by omega), nat2 rfl, h2]
      rw [h2] at h36
      rw [h36]
      rw [mx_tail hY2 hp (by omega), bd_some, stI_k (by omega), up_k (by omega), hm, ix_t (by omega), nat2 rfl, up_k (by omega), stI_k (by omega), up_k (by omega), hm]
      rw [h2] at i1
      exact i1
    · rw [List.append_assoc] at i2
      exact i2
    · refine Fro_tr ?_ i3
      intro c d h1 h2 h3 h4
      rw [up_ap, if_neg h4, up_k (by omega), stI_k (by omega), up_k (by omega)]
theorem mx_out (h : PgX X i s l es) (hp : p = (i : Int)) (hx : RowX X x) (h48 : x.length + es.length ≤ 48) : ∃ X', f_X8_comeOut p X = some (X', 0) ∧ RowX X' (x ++ es) ∧ Fro X X' := by
  have hfu := FU_eq
  have h6 := PgX_len h
  obtain ⟨Y', q, i1, i2, i3⟩ := lm_out (K := (fun (v2_e4 : Int) (v3_e4 : Int) (C_e4 : Mem) => (some (C_e4, 0)))) h hp es [] x FU 3 0 X rfl rfl rfl (by omega) (fun _ => rfl) hx h48
  exact ⟨Y', by unfold f_X8_comeOut; rw [i1], i2, i3⟩
/-- an emptied row -/
theorem RowX_nil : RowX (up X 95 6 0) [] := ⟨by rw [up_same]; rfl, trivial, by intro t ht; cases ht⟩
theorem Fro_up6 {q : Int} (h : Fro X X') : Fro X (up X' 95 6 q) := fun a b h1 h2 h3 h4 => by rw [up_ap, if_neg h4]; exact h a b h1 h2 h3 h4
theorem mx_out0 (h : PgX X i s l es) (hp : p = (i : Int)) : ∃ X', f_X8_comeOut p (up X 95 6 0) = some (X', 0) ∧ RowX X' es ∧ Fro X X' := by
  have h6 := PgX_len h
  have h' : PgX (up X 95 6 0) i s l es := Fro_PgX h (Fro_up6 Fro_refl)
  obtain ⟨X', q1, q2, q3⟩ := mx_out h' hp RowX_nil (by simp; omega)
  exact ⟨X', q1, by simpa using q2, Fro_tr (Fro_up6 Fro_refl) q3⟩
/-- an entry is copied to another place -/
theorem lm_copies {K : Int → Mem → Option (Mem × Int)} {k1 k2 : Nat} (h1 : k1 < 48) (h2 : k2 < 48) (hk : k1 ≠ k2) {q1 q2 : Int} (e1 : q1 = (k1 : Int)) (e2 : q2 = (k2 : Int)) : ∀ (m n : Nat) (q : Int), m ≤ 8 → q = ((8 - m : Nat) : Int) → m < n → f_X8_copies_26 q1 q2 K n q (stI X 98 (8 * k2) (8 * k2 + (8 - m)) (fun j => X 98 (8 * k1 + (j - 8 * k2)))) = K 8 (stI X 98 (8 * k2) (8 * k2 + 8) (fun j => X 98 (8 * k1 + (j - 8 * k2))))
  | _, 0 => by intros; omega
  | 0, n + 1 => by
    intro q _ hq _
    unfold f_X8_copies_26
    rw [fLt (by omega), hq]
    rfl
  | m + 1, n + 1 => by
    intro q hm hq hn
    have ih := lm_copies (K := K) h1 h2 hk e1 e2 m n (q + 1) (by omega) (by omega) (by omega)
    unfold f_X8_copies_26
    rw [tLt (by omega), ix_t (by omega), ix_t (by omega), show (8 * q2 + q).toNat = 8 * k2 + (8 - (m + 1)) by omega, show (8 * q1 + q).toNat = 8 * k1 + (8 - (m + 1)) by omega, stI_out (by omega), stI_up (by omega) (by rw [show 8 * k2 + (8 - (m + 1)) - 8 * k2 = 8 - (m + 1) by omega]), show 8 * k2 + (8 - (m + 1)) + 1 = 8 * k2 + (8 - m) by omega]
    exact ih
theorem mx_copies {k1 k2 : Nat} (h1 : k1 < 48) (h2 : k2 < 48) (hk : k1 ≠ k2) {q1 q2 : Int} (e1 : q1 = (k1 : Int)) (e2 : q2 = (k2 : Int)) (he : rowAt X k1 e) (ho : EOk e) : ∃ X', f_X8_copies q1 q2 X = some (X', 0) ∧ rowAt X' k2 e ∧ (∀ k, k ≠ k2 → X' 97 k = X 97 k ∧ X' 99 k = X 99 k ∧ ∀ j, j < 8 → X' 98 (8 * k + j) = X 98 (8 * k + j)) ∧ (∀ c d, c ≠ 97 → c ≠ 98 → c ≠ 99 → X' c d = X c d) := by
  have hfu := FU_eq
  have ho2 := ho.2.1
  have h := lm_copies (X := up (up X 97 k2 (X 97 k1)) 99 k2 (X 99 k1)) (K := (fun (v3_e26 : Int) (C_e26 : Mem) => (some (C_e26, 0)))) h1 h2 hk e1 e2 8 FU 0 (by omega) rfl (by omega)
  rw [show 8 * k2 + (8 - 8) = 8 * k2 by omega, stI_nil] at h
  refine ⟨stI (up (up X 97 k2 (X 97 k1)) 99 k2 (X 99 k1)) 98 (8 * k2) (8 * k2 + 8) (fun j => (up (up X 97 k2 (X 97 k1)) 99 k2 (X 99 k1)) 98 (8 * k1 + (j - 8 * k2))), ?_, ⟨?_, ?_, ?_⟩, ?_, ?_⟩
  rotate_left
  · rw [stI_k (by omega), up_k (by omega), up_same]; exact he.1
  · rw [stI_k (by omega), up_same]; exact he.2.1
  · intro j hj
    rw [stI_in (by omega), up_k (by omega), up_k (by omega), show 8 * k1 + (8 * k2 + j - 8 * k2) = 8 * k1 + j by omega]
    exact he.2.2 j hj
  · intro k hk2
    refine ⟨by rw [stI_k (by omega), up_k (by omega), up_j hk2], by rw [stI_k (by omega), up_j hk2, up_k (by omega)], fun j hj => by rw [stI_out (by omega), up_k (by omega), up_k (by omega)]⟩
  · intro c d h97 h98 h99
    rw [stI_k h98, up_k h99, up_k h97]
  · unfold f_X8_copies
    rw [ix_t (by omega), ix_t (by omega), ix_t (by omega), ix_t (by omega), nat2 e1, nat2 e2, up_k (by omega)]
    exact h
end RO

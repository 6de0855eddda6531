/-! CLASS: what reads a page. -/
section TS
variable {β : Type} {x y : Option β}
theorem tLt {a b : Int} (h : -2147483648 ≤ a ∧ b < 2147483648 ∧ a < b) : cLt a b x y = x := cLt_t ⟨⟨h.1, by omega⟩, ⟨by omega, h.2.1⟩, h.2.2⟩
theorem fLt {a b : Int} (h : -2147483648 ≤ b ∧ a < 2147483648 ∧ b ≤ a) : cLt a b x y = y := cLt_f ⟨⟨by omega, h.2.1⟩, ⟨h.1, by omega⟩, h.2.2⟩
theorem tEq {a b : Int} (h : -2147483648 ≤ a ∧ a < 2147483648 ∧ a = b) : cEq a b x y = x := cEq_t ⟨⟨h.1, h.2.1⟩, ⟨by omega, by omega⟩, h.2.2⟩
theorem fEq {a b : Int} (h : -2147483648 ≤ a ∧ a < 2147483648 ∧ -2147483648 ≤ b ∧ b < 2147483648 ∧ a ≠ b) : cEq a b x y = y := cEq_f ⟨⟨h.1, h.2.1⟩, ⟨h.2.2.1, h.2.2.2.1⟩, h.2.2.2.2⟩
theorem iLt {a b : Int} (h : -2147483648 ≤ a ∧ a < 2147483648 ∧ -2147483648 ≤ b ∧ b < 2147483648) : cLt a b x y = if a < b then x else y := cLt_i ⟨⟨h.1, h.2.1⟩, ⟨h.2.2.1, h.2.2.2⟩⟩
theorem iEq {a b : Int} (h : -2147483648 ≤ a ∧ a < 2147483648 ∧ -2147483648 ≤ b ∧ b < 2147483648) : cEq a b x y = if a = b then x else y := cEq_i ⟨⟨h.1, h.2.1⟩, ⟨h.2.2.1, h.2.2.2⟩⟩
end TS
theorem nat2 {z : Int} {n : Nat} (h : z = (n : Int)) : z.toNat = n := by omega
def PgC (C : Mem) (i : Nat) (s l : Int) (es : List Ent) : Prop := (∀ j, j < pl i → C (61 + i) j = enc s l es j) ∧ EsOk es ∧ 3 + szs es ≤ pl i ∧ (0 ≤ s ∧ s ≤ 255) ∧ (0 ≤ l ∧ l ≤ 255)
def LOk (w : List Int) : Prop := w.length ≤ 8 ∧ ∀ x ∈ w, 97 ≤ x ∧ x ≤ 122
def KyC (C : Mem) (k : Nat) (w : List Int) : Prop := C (10 + 2 * k) 1 = (w.length : Int) ∧ (∀ j, j < w.length → C (11 + 2 * k) j = w.getD j 0) ∧ LOk w
theorem LOk_gd {w : List Int} (h : LOk w) (j : Nat) : 0 ≤ w.getD j 0 ∧ w.getD j 0 ≤ 122 := by
  by_cases hj : j < w.length
  · have := h.2 _ (gd_mem hj); omega
  · rw [gd_out (by omega)]; omega
theorem LOk_pos {w : List Int} (h : LOk w) : ∀ x ∈ w, 0 < x := fun x hx => by have := h.2 x hx; omega
theorem EOk_L {e : Ent} (h : EOk e) : LOk e.1 := ⟨h.2.1, h.2.2.1⟩
section CR
variable {C : Mem} {i : Nat} {s l : Int} {es a b : List Ent} {e : Ent} {w : List Int} {k : Nat}
theorem PgC_len (h : PgC C i s l es) : szs es ≤ 253 ∧ 2 * es.length ≤ 253 := by
  have h1 := h.2.2.1
  have h2 := pl_ge i
  have h3 := len_szs es
  omega
theorem sp_at (h : PgC C i s l es) {z : Int} (h0 : 0 ≤ z) (h1 : z < 2147483648) : f_X4_at i z C = some (C, enc s l es z.toNat) := by
  have h2 := pl_ge i
  unfold f_X4_at
  rw [fLt (by omega)]
  by_cases hz : z < (pl i : Nat)
  · rw [tLt (by omega), ix_t (by omega), h.1 _ (by omega)]
  · rw [fLt (by omega), enc_out (by have := h.2.2.1; omega)]
theorem sp_entries (h : PgC C i s l es) : f_X4_entries i C = some (C, (es.length : Int)) := by
  have h2 := pl_ge i
  unfold f_X4_entries
  rw [ix_t (by omega), h.1 1 (by omega), enc_1]
theorem sp_sort (h : PgC C i s l es) : f_X4_sort i C = some (C, s) := by
  have h2 := pl_ge i
  unfold f_X4_sort
  rw [ix_t (by omega), h.1 0 (by omega), enc_0]
theorem sp_link (h : PgC C i s l es) : f_X4_link i C = some (C, l) := by
  have h2 := pl_ge i
  unfold f_X4_link
  rw [ix_t (by omega), h.1 2 (by omega), enc_2]
theorem lp_offset {K : Int → Int → Mem → Option (Mem × Int)} {u : Int} (h : PgC C i s l es) : ∀ (b a c : List Ent) (n : Nat) (v2 v3 : Int), es = a ++ b ++ c → u = ((a ++ b).length : Int) → b.length < n → v2 = (3 + szs a : Nat) → v3 = (a.length : Int) → f_X4_offset_4 i u K n v2 v3 C = K ((3 + szs (a ++ b) : Nat) : Int) u C
  | _, _, _, 0 => by intros; omega
  | [], a, c, n + 1 => by
    intro v2 v3 h1 h2 h3 h4 h5
    have h6 := PgC_len h
    rw [List.append_nil] at h2 ⊢
    have h7 : a.length ≤ es.length := by rw [h1]; simp
    unfold f_X4_offset_4
    rw [fLt (by omega), h4, h5, h2]
  | e :: b, a, c, n + 1 => by
    intro v2 v3 h1 h2 h3 h4 h5
    have h6 := PgC_len h
    have h7 := pl_ge i
    have h8 : szs es = szs a + (e.1.length + 2 + szs b) + szs c := by rw [h1, szs_app, szs_app, szs_cons]
    have h9 : es.length = a.length + (b.length + 1) + c.length := by rw [h1]; simp; omega
    have hu : u = ((a.length + (b.length + 1) : Nat) : Int) := by rw [h2]; simp
    have hf := h.2.2.1
    have he : C (61 + i) v2.toNat = (e.1.length : Int) := by
      rw [nat2 h4, h.1 _ (by omega), h1, List.append_assoc, List.cons_append, enc_len rfl]
    unfold f_X4_offset_4
    rw [tLt (by omega), tLt (by omega), ix_t (by omega), he]
    have q := lp_offset (K := K) (u := u) h b (a ++ [e]) c n (v2 + ((e.1.length : Int) + 2)) (v3 + 1) (by rw [h1]; simp) (by rw [h2]; simp) (by simp at h3; omega) (by rw [szs_app, szs_cons, szs_nil]; omega) (by simp; omega)
    rw [q, List.append_assoc]
    rfl
theorem sp_offset (h : PgC C i s l (a ++ b)) {z : Int} (hz : z = (a.length : Int)) : f_X4_offset i z C = some (C, ((3 + szs a : Nat) : Int)) := by
  unfold f_X4_offset
  have h6 := PgC_len h
  have hf := FU_eq
  have q := lp_offset (K := fun (v2_e4 : Int) (v3_e4 : Int) (C_e4 : Mem) => (some (C_e4, v2_e4))) (u := z) h a [] b FU 3 0 (by simp) (by rw [hz]; simp) (by simp at h6; omega) (by rw [szs_nil]; rfl) rfl
  rw [q]
  rfl
theorem sp_offset_all (h : PgC C i s l es) {z : Int} (hz : z = (es.length : Int)) : f_X4_offset i z C = some (C, ((3 + szs es : Nat) : Int)) := sp_offset (b := []) (by rw [List.append_nil]; exact h) hz
theorem sp_used (h : PgC C i s l es) (hs : s ≠ 0) : f_X4_used i C = some (C, ((3 + szs es : Nat) : Int)) := by
  unfold f_X4_used
  have := h.2.2.2.1
  rw [sp_sort h, bd_some, fEq (by omega), sp_entries h, bd_some, sp_offset_all h rfl, bd_some]
theorem sp_used0 (h : PgC C i 0 l es) : f_X4_used i C = some (C, 0) := by
  unfold f_X4_used
  rw [sp_sort h, bd_some, tEq (by omega)]
theorem sp_letters (h : PgC C i s l (a ++ e :: b)) {z : Int} (hz : z = (a.length : Int)) : f_X4_letters i z C = some (C, (e.1.length : Int)) := by
  have h6 := PgC_len h
  rw [szs_app] at h6
  unfold f_X4_letters
  rw [sp_offset h hz, bd_some, sp_at h (by omega) (by omega), bd_some, nat2 rfl, enc_len rfl]
theorem sp_tail (h : PgC C i s l (a ++ e :: b)) {z : Int} (hz : z = (a.length : Int)) : f_X4_tail i z C = some (C, e.2) := by
  have h6 := PgC_len h
  rw [szs_app, szs_cons] at h6
  have h' : PgC C i s l ((a ++ [e]) ++ b) := by rw [List.append_assoc]; exact h
  unfold f_X4_tail
  rw [sp_offset h' (by simp; omega), bd_some, szs_app, szs_cons, szs_nil, sp_at h (by omega) (by omega), bd_some, enc_tail (by omega)]
theorem sp_child0 (h : PgC C i s l es) : f_X4_child i 0 C = some (C, l) := by
  unfold f_X4_child
  rw [fLt (by omega), sp_link h, bd_some]
theorem sp_child1 (h : PgC C i s l (a ++ e :: b)) {z : Int} (hz : z = (a.length : Int) + 1) : f_X4_child i z C = some (C, e.2) := by
  have h6 := PgC_len h
  have h7 : (a ++ e :: b).length = a.length + (b.length + 1) := by simp
  have q := sp_tail h (z := z - 1) (by omega)
  unfold f_X4_tail at q
  unfold f_X4_child
  rw [tLt (by omega)]
  rw [show z - 1 + 1 = z by omega] at q
  exact q
theorem sp_kat (h : KyC C k w) {z : Int} (h0 : 0 ≤ z) (h1 : z < 2147483648) : f_X3_at k z C = some (C, w.getD z.toNat 0) := by
  unfold f_X3_at
  have h2 := h.2.2.1
  rw [fLt (by omega), h.1]
  by_cases hz : z < w.length
  · rw [tLt (by omega), tLt (by omega), ix_t (by omega), h.2.1 _ (by omega)]
  · rw [fLt (by omega), gd_out (by omega)]
theorem lp_compare {K : Int → Mem → Option (Mem × Int)} (h : PgC C i s l (a ++ e :: b)) (hk : KyC C k w) : ∀ (m n : Nat) (v : Int), v = ((8 - m : Nat) : Int) → m ≤ 8 → m < n → f_X4_compare_16 i k ((3 + szs a : Nat) : Int) (e.1.length : Int) (fun _ C => some (C, 0)) n v C = some (C, cmp (e.1.drop (8 - m)) (w.drop (8 - m)))
  | _, 0 => by intros; omega
  | 0, n + 1 => by
    intro v hv _ _
    have h6 := (EsOk_mid h.2.1).2.1
    unfold f_X4_compare_16
    rw [fLt (by omega), List.drop_eq_nil_of_le (by omega), List.drop_eq_nil_of_le (show w.length ≤ 8 - 0 by have := hk.2.2.1; omega)]
    rfl
  | m + 1, n + 1 => by
    intro v hv hm hn
    have he := EsOk_mid h.2.1
    have h6 := PgC_len h
    rw [szs_app, szs_cons] at h6
    have hkl := LOk_gd hk.2.2 (8 - (m + 1))
    have hel := LOk_gd (EOk_L he) (8 - (m + 1))
    have q := lp_compare (K := K) h hk m n (v + 1) (by omega) (by omega) (by omega)
    have hstep := cmp_drop (LOk_pos (EOk_L he)) (LOk_pos hk.2.2) (8 - (m + 1))
    rw [show 8 - (m + 1) + 1 = 8 - m by omega] at hstep
    rw [hstep]
    unfold f_X4_compare_16
    rw [tLt (by omega), jn_eq]
    have tl : ∀ z : Int, z = e.1.getD (8 - (m + 1)) 0 → (fun (s0_44 : Int) (C_44 : Mem) => (bd (f_X3_at k (v) C_44) (fun C51 r51 => (cEq (s0_44) (r51) (f_X4_compare_16 i k ((3 + szs a : Nat) : Int) (e.1.length : Int) (fun _ C => some (C, 0)) n (v + 1) C51) (bd (f_X3_at k (v) C51) (fun C62 r62 => (cLt (s0_44) (r62) (some (C62, -1)) (some (C62, 1))))))))) z C = some (C, if e.1.getD (8 - (m + 1)) 0 = w.getD (8 - (m + 1)) 0 then cmp (e.1.drop (8 - m)) (w.drop (8 - m)) else if e.1.getD (8 - (m + 1)) 0 < w.getD (8 - (m + 1)) 0 then -1 else 1) := by
      intro z hz
      rw [← hz] at hel ⊢
      show bd (f_X3_at k v C) _ = _
      rw [sp_kat hk (by omega) (by omega), bd_some, nat2 hv]
      by_cases hc : z = w.getD (8 - (m + 1)) 0
      · rw [tEq (by omega), q, if_pos hc]
      · rw [fEq (by omega), sp_kat hk (by omega) (by omega), bd_some, nat2 hv, if_neg hc]
        by_cases hd : z < w.getD (8 - (m + 1)) 0
        · rw [tLt (by omega), if_pos hd]
        · rw [fLt (by omega), if_neg hd]
    by_cases hj : 8 - (m + 1) < e.1.length
    · rw [tLt (by omega), sp_at h (by omega) (by omega), bd_some]
      refine tl _ ?_
      rw [enc_let hj (by omega)]
    · rw [fLt (by have := he.2.1; omega)]
      refine tl _ ?_
      rw [gd_out (by omega)]
theorem sp_compare (h : PgC C i s l (a ++ e :: b)) (hk : KyC C k w) {z : Int} (hz : z = (a.length : Int)) : f_X4_compare i z k C = some (C, cmp e.1 w) := by
  have h6 := PgC_len h
  rw [szs_app] at h6
  unfold f_X4_compare
  have hf := FU_eq
  rw [sp_offset h hz, bd_some, sp_at h (by omega) (by omega), bd_some, nat2 rfl, enc_len rfl]
  exact lp_compare (K := fun _ C => some (C, 0)) h hk 8 FU 0 rfl (by omega) (by omega)
/-- how many stand ahead: t = 0: below w; t = 1: below or alike -/
def cb (t : Int) (w : List Int) : List Ent → Nat
  | [] => 0
  | e :: r => if cmp e.1 w < t then cb t w r + 1 else 0
theorem lp_below {K : Int → Mem → Option (Mem × Int)} {t : Int} (ht : t = 0 ∨ t = 1) (h : PgC C i s l es) (hk : KyC C k w) : ∀ (b a : List Ent) (n : Nat) (v : Int), es = a ++ b → v = (a.length : Int) → b.length < n → f_X4_entriesBelow_2 i k t K n v C = K ((a.length + cb t w b : Nat) : Int) C
  | _, _, 0 => by intros; omega
  | [], a, n + 1 => by
    intro v h1 hv _
    have h6 := PgC_len h
    unfold f_X4_entriesBelow_2
    rw [sp_entries h, bd_some, fLt (by rw [h1] at h6 ⊢; simp at h6 ⊢; omega), hv]
    rfl
  | e :: b, a, n + 1 => by
    intro v h1 hv hn
    have h6 := PgC_len h
    have h9 : es.length = a.length + (b.length + 1) := by rw [h1]; simp
    have hc := cmp_rng e.1 w
    have q := lp_below (K := K) ht h hk b (a ++ [e]) n (v + 1) (by rw [h1]; simp) (by simp; omega) (by simp at hn; omega)
    unfold f_X4_entriesBelow_2
    rw [sp_entries h, bd_some, tLt (by omega), sp_compare (by rw [← h1]; exact h) hk hv, bd_some, jn_eq]
    unfold cb
    have fin : cLt (cmp e.1 w) t (f_X4_entriesBelow_2 i k t K n (v + 1) C) (K v C) = K ((a.length + (if cmp e.1 w < t then cb t w b + 1 else 0) : Nat) : Int) C := by
      by_cases hd : cmp e.1 w < t
      · rw [tLt (by omega), q, if_pos hd]
        congr 1
        simp
        omega
      · rw [fLt (by omega), if_neg hd, hv]
        rfl
    rcases ht with ht | ht
    · subst ht
      rw [tEq (by omega)]
      exact fin
    · subst ht
      rw [fEq (by omega)]
      exact fin
theorem sp_below {t : Int} (ht : t = 0 ∨ t = 1) (h : PgC C i s l es) (hk : KyC C k w) : f_X4_entriesBelow i k t C = some (C, (cb t w es : Int)) := by
  have h6 := PgC_len h
  have hf := FU_eq
  unfold f_X4_entriesBelow
  rw [lp_below ht h hk es [] FU 0 rfl rfl (by omega)]
  simp
theorem sp_isEntry (h : PgC C i s l (a ++ e :: b)) (hk : KyC C k w) {z : Int} (hz : z = (a.length : Int)) : f_X4_isEntry i z k C = some (C, if cmp e.1 w = 0 then 1 else 0) := by
  have h6 := PgC_len h
  have h7 : (a ++ e :: b).length = a.length + (b.length + 1) := by simp
  have hc := cmp_rng e.1 w
  unfold f_X4_isEntry
  rw [sp_entries h, bd_some, tLt (by omega), sp_compare h hk hz, bd_some]
  by_cases hd : cmp e.1 w = 0
  · rw [tEq (by omega), if_pos hd]
  · rw [fEq (by omega), if_neg hd]
theorem sp_isEntry_end (h : PgC C i s l es) {z : Int} (hz : z = (es.length : Int)) : f_X4_isEntry i z k C = some (C, 0) := by
  have h6 := PgC_len h
  unfold f_X4_isEntry
  rw [sp_entries h, bd_some, fLt (by omega)]
end CR

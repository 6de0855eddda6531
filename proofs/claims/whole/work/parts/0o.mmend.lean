/-! MODEL: mending. -/
def mJoin (A : Int) (c li ri so : Int) (C183 : Mem) : Option (Mem × Int) := (jn ((fun (s3_219 : Int) (C_219 : Mem) => (bd (f_X8_goBack (li) (so) (s3_219) (0) (C_219 95 6) C_219) (fun C224 _ => (bd (f_X8_clears (ri) C224) (fun C230 _ => (bd (f_X8_comeOut A (up C230 95 6 (0))) (fun C240 _ => (bd (f_X8_goesOut (c) C240) (fun C246 _ => (bd (f_X8_at A (2) C246) (fun C255 r255 => (bd (f_X8_goBack A (2) (r255) (0) (C255 95 6) C255) (fun C263 _ => (some ((up C263 95 4 ((C263 95 4) + 1)), 1))))))))))))))) : Int → Mem → Option (Mem × Int)) (fun j219 => (cEq (so) (1) (bd (f_X8_at (ri) (2) C183) (fun C206 r206 => (j219 (r206) C206))) (bd (f_X8_at (li) (2) C183) (fun C216 r216 => (j219 (r216) C216))))))
def mShare (A : Int) (c li ri so fr : Int) (C183 : Mem) : Option (Mem × Int) := (bd (f_X8_half C183) (fun C282 r282 => (bd (f_X8_setUp (so) (r282) C282) (fun C285 _ => (bd (f_X8_usedOf A C285) (fun C290 r290 => (bd (f_X8_at A (fr) C290) (fun C297 r297 => (cLt (64) ((r290 - r297) + (C297 95 10)) (some (C297, 0)) (bd (f_X8_at (li) (2) C297) (fun C322 r322 => (bd (f_X8_at (ri) (2) C322) (fun C329 r329 => (bd (f_X8_share (li) (ri) (so) (r322) (r329) C329) (fun C332 _ => (bd (f_X8_comeOut A (up C332 95 6 (0))) (fun C342 _ => (ix (c) 48 (bd (f_X8_goesOut (c) C342) (fun C357 _ => (bd (f_X8_comesIn (c) 0 (C357 95 10) (C342 (99) (c).toNat) C357) (fun C373 _ => (bd (f_X8_at A (2) C373) (fun C382 r382 => (bd (f_X8_goBack A (2) (r382) (0) (C382 95 6) C382) (fun C390 _ => (some ((up C390 95 5 ((C390 95 5) + 1)), 0))))))))))))))))))))))))))))
/-- row, and what goes up -/
def Fru (X X' : Mem) : Prop := ∀ a b, a ≠ 97 → a ≠ 98 → a ≠ 99 → a ≠ 100 → ¬ (a = 95 ∧ (b = 6 ∨ b = 10)) → X' a b = X a b
section MM
variable {X X' : Mem} {P : Nat → Pg} {i j k q o L t A : Nat} {s l p la ll lr : Int} {es a b x y z le re ws : List Ent} {e u v : Ent} {w : List Int} {pg : Pg} {W T : Nat → Nat} {root : Nat}
theorem Fro_Fru (h : Fro X X') : Fru X X' := fun a b q1 q2 q3 _ q4 => h a b q1 q2 q3 (by omega)
theorem Fu_Fru (h : Fu X X') : Fru X X' := fun a b _ _ _ q1 q4 => h a b q1 (by omega)
theorem Fru_tr {X2 : Mem} (h1 : Fru X X') (h2 : Fru X' X2) : Fru X X2 := fun a b q1 q2 q3 q4 q5 => by rw [h2 a b q1 q2 q3 q4 q5, h1 a b q1 q2 q3 q4 q5]
theorem Fru_PgX (h : PgX X i s l es) (hf : Fru X X') : PgX X' i s l es := ⟨fun j hj => by rw [hf _ _ (by omega) (by omega) (by omega) (by omega) (by omega)]; exact h.1 j hj, h.2⟩
theorem Fru_TX (h : TX X P) (hf : Fru X X') : TX X' P := TX_fr h (fun y => hf _ _ (by omega) (by omega) (by omega) (by omega) (by omega))
theorem Fru_Fx (h : Fru X X') : Fx X X' := fun a b q1 q2 q3 q4 q5 q6 => h a b q2 q3 q4 q5 (by omega)
theorem lm_mend108 {K : Int → Mem → Option (Mem × Int)} {u4 u5 u6 u7 : Int} (h : PgX X A s l (a ++ e :: b)) (hp : p = (A : Int)) : ∀ (m n : Nat) (r : Int) (Y : Mem), (∀ j, Y 96 j = X 96 j) → m ≤ e.1.length → r = ((e.1.length - m : Nat) : Int) → m < n → f_X8_mends_108 p u4 u5 u6 u7 ((3 + szs a : Nat) : Int) K n r (stI Y 100 0 (e.1.length - m) (fun j => e.1.getD j 0)) = K (e.1.length : Int) (stI Y 100 0 e.1.length (fun j => e.1.getD j 0))
  | _, 0 => by intros; omega
  | 0, n + 1 => by
    intro r Y hY _ hr _
    have h8 := (EsOk_mid h.2.1).2.1
    have hg : PgX (stI Y 100 0 (e.1.length - 0) (fun j => e.1.getD j 0)) A s l (a ++ e :: b) := ⟨fun j hj => by rw [stI_k (by omega), hY]; exact h.1 j hj, h.2⟩
    unfold f_X8_mends_108
    rw [mx_len hg hp rfl, bd_some, fLt (by omega), hr]
    rfl
  | m + 1, n + 1 => by
    intro r Y hY hm hr hn
    have h8 := (EsOk_mid h.2.1).2.1
    have hg : PgX (stI Y 100 0 (e.1.length - (m + 1)) (fun j => e.1.getD j 0)) A s l (a ++ e :: b) := ⟨fun j hj => by rw [stI_k (by omega), hY]; exact h.1 j hj, h.2⟩
    have ih := lm_mend108 (K := K) (u4 := u4) (u5 := u5) (u6 := u6) (u7 := u7) h hp m n (r + 1) Y hY (by omega) (by omega) (by omega)
    unfold f_X8_mends_108
    rw [mx_len hg hp rfl, bd_some, tLt (by omega), mx_let hg hp (j := e.1.length - (m + 1)) (by omega) (by omega), bd_some, ix_t (by omega), nat2 hr, stI_up (by omega) rfl, show e.1.length - (m + 1) + 1 = e.1.length - m by omega]
    exact ih
theorem mx_mend0 (ho : TOk P) (hT : TX X P) (hW : WayX X L W T) (hL32 : L ≤ 32) (ht : t + 1 < L) (hA : W t = A) (hA32 : A < 32) (hp : P A = (2, la, [])) {r : Int} (hr : r = (t : Int) + 1) : f_X8_mends r X = some (X, 0) := by
  have hpA := TX_pg ho hT hA32
  rw [hp] at hpA
  have hpA : PgX X A 2 la [] := hpA
  have e0 := hW.1 t (by omega)
  rw [hA] at e0
  unfold f_X8_mends
  rw [ix_t (by omega), show (r - 1).toNat = t by omega, e0, mx_1 hpA rfl, bd_some, tEq (by simp)]
theorem mx_mend1 (ho : TOk P) (hT : TX X P) (hW : WayX X L W T) (hL32 : L ≤ 32) (ht : t + 1 < L) (hA : W t = A) (hA32 : A < 32) (hp : P A = (2, la, a ++ e :: b)) (hb : Btw (T t) (a ++ e :: b).length a.length) (hTl : T t ≤ (a ++ e :: b).length) (hi : chd (P A) a.length = (i : Int)) (hi32 : i < 32) (hj : e.2 = (j : Int)) (hj32 : j < 32) (hpi : P i = (s, ll, le)) (hpj : P j = (s, lr, re)) (hs : s = 1 ∨ s = 2) (hw : Ws s e lr le re ws) {r : Int} (hr : r = (t : Int) + 1) : ∃ X1, RowX X1 ws ∧ Fru X X1 ∧ ws.length ≤ 48 ∧ szs ws ≤ 132 ∧ f_X8_mends r X = cLt 61 ((szs ws : Nat) : Int) (mShare (A : Int) (a.length : Int) (i : Int) (j : Int) s ((3 + szs a : Nat) : Int) X1) (mJoin (A : Int) (a.length : Int) (i : Int) (j : Int) s X1) := by
  have hfu := FU_eq
  have hpA := TX_pg ho hT hA32
  rw [hp] at hpA
  have hpA : PgX X A 2 la (a ++ e :: b) := hpA
  have hgi := TX_pg ho hT hi32
  rw [hpi] at hgi
  have hgi : PgX X i s ll le := hgi
  have hgj := TX_pg ho hT hj32
  rw [hpj] at hgj
  have hgj : PgX X j s lr re := hgj
  have he := EsOk_mid hpA.2.1
  have li := hgi.2.2.1
  have lj := hgj.2.2.1
  have li3 := len_szs3 _ hgi.2.1
  have lj3 := len_szs3 _ hgj.2.1
  have hlen := PgX_len hpA
  have hln : (a ++ e :: b).length = a.length + (b.length + 1) := by simp
  have e0 := hW.1 t (by omega)
  rw [hA] at e0
  have e1 := hW.2 t ht
  have hch := mx_child hpA (p := (A : Int)) rfl (n := a.length) (by omega) (z := (a.length : Int)) rfl
  have hch1 := mx_child hpA (p := (A : Int)) rfl (n := a.length + 1) (by omega) (z := (a.length : Int) + 1) (by omega)
  rw [chd_s (p := (2, la, a ++ e :: b)) rfl, hj] at hch1
  rw [hp] at hi
  rw [hi] at hch
  obtain ⟨X1, o1, o2, o3⟩ := mx_out0 hgi (p := (i : Int)) rfl
  -- the end, from any memory that holds the first part of the row
  have fin : ∀ (Y : Mem) (ws0 : List Ent), RowX Y ws0 → Fru X Y → ws = ws0 ++ re → ws0.length + re.length ≤ 48 → szs ws0 ≤ 71 → ∃ X1, RowX X1 ws ∧ Fru X X1 ∧ ws.length ≤ 48 ∧ szs ws ≤ 132 ∧ (bd (f_X8_comeOut ((j : Nat) : Int) Y) (fun C174 _ => (bd (f_X8_bytesOf (0) (C174 95 6) C174) (fun C183 r183 => (cLt (61) (r183) (mShare (A : Int) (a.length : Int) (i : Int) (j : Int) s ((3 + szs a : Nat) : Int) C183) (mJoin (A : Int) (a.length : Int) (i : Int) (j : Int) s C183)))))) = cLt 61 ((szs ws : Nat) : Int) (mShare (A : Int) (a.length : Int) (i : Int) (j : Int) s ((3 + szs a : Nat) : Int) X1) (mJoin (A : Int) (a.length : Int) (i : Int) (j : Int) s X1) := by
    intro Y ws0 g1 g2 g3 g4 g5
    obtain ⟨X2, p1, p2, p3⟩ := mx_out (Fru_PgX hgj g2) (p := (j : Int)) rfl g1 g4
    rw [← g3] at p2
    have h48 : ws.length ≤ 48 := by rw [g3]; simp; exact g4
    refine ⟨X2, p2, Fru_tr g2 (Fro_Fru p3), h48, by rw [g3, szs_app]; omega, ?_⟩
    rw [p1, bd_some, mx_bytes_all p2 h48, bd_some]
  have body : ∃ X1', RowX X1' ws ∧ Fru X X1' ∧ ws.length ≤ 48 ∧ szs ws ≤ 132 ∧ (bd (f_X8_comeOut ((i : Nat) : Int) (up X 95 6 (0))) (fun C96 _ => (jn ((fun (C_171 : Mem) => (bd (f_X8_comeOut ((j : Nat) : Int) C_171) (fun C174 _ => (bd (f_X8_bytesOf (0) (C174 95 6) C174) (fun C183 r183 => (cLt (61) (r183) (mShare (A : Int) (a.length : Int) (i : Int) (j : Int) s ((3 + szs a : Nat) : Int) C183) (mJoin (A : Int) (a.length : Int) (i : Int) (j : Int) s C183))))))) : Mem → Option (Mem × Int)) (fun j171 => (cEq (s) (2) (f_X8_mends_108 (A : Int) (a.length : Int) (i : Int) (j : Int) (s) ((3 + szs a : Nat) : Int) (fun (v9_e108 : Int) (C_e108 : Mem) => (bd (f_X8_at (A : Int) ((3 + szs a : Nat) : Int) C_e108) (fun C158 r158 => (bd (f_X8_at (j : Int) (2) C158) (fun C165 r165 => (bd (f_X8_comesIn (C_e108 95 6) 0 (r158) (r165) C165) (fun C168 _ => (j171 C168)))))))) FU (0) C96) (j171 C96)))))) = cLt 61 ((szs ws : Nat) : Int) (mShare (A : Int) (a.length : Int) (i : Int) (j : Int) s ((3 + szs a : Nat) : Int) X1') (mJoin (A : Int) (a.length : Int) (i : Int) (j : Int) s X1') := by
    rw [o1, bd_some, jn_eq]
    rcases hw with ⟨hs1, hws⟩ | ⟨hs1, hws⟩
    · subst hs1
      rw [fEq (by omega)]
      exact fin X1 le o2 (Fro_Fru o3) hws (by omega) (by omega)
    · subst hs1
      have gA1 := Fru_PgX hpA (Fro_Fru o3)
      have q := lm_mend108 (u4 := (a.length : Int)) (u5 := (i : Int)) (u6 := (j : Int)) (u7 := 2) (K := (fun (v9_e108 : Int) (C_e108 : Mem) => (bd (f_X8_at (A : Int) ((3 + szs a : Nat) : Int) C_e108) (fun C158 r158 => (bd (f_X8_at (j : Int) (2) C158) (fun C165 r165 => (bd (f_X8_comesIn (C_e108 95 6) 0 (r158) (r165) C165) (fun C168 _ => ((fun (C_171 : Mem) => (bd (f_X8_comeOut ((j : Nat) : Int) C_171) (fun C174 _ => (bd (f_X8_bytesOf (0) (C174 95 6) C174) (fun C183 r183 => (cLt (61) (r183) (mShare (A : Int) (a.length : Int) (i : Int) (j : Int) 2 ((3 + szs a : Nat) : Int) C183) (mJoin (A : Int) (a.length : Int) (i : Int) (j : Int) 2 C183))))))) C168))))))))) gA1 (p := (A : Int)) rfl e.1.length FU 0 X1 (fun _ => rfl) (by omega) (by omega) (by have := he.2.1; omega)
      rw [Nat.sub_self, stI_nil] at q
      rw [tEq (by omega), q]
      have fu : Fu X1 (stI X1 100 0 e.1.length (fun j => e.1.getD j 0)) := fun a b h1 h2 => stI_k h1
      have r2 := Fu_RowX fu o2
      have gA2 := Fru_PgX gA1 (Fu_Fru fu)
      have gj2 := Fru_PgX hgj (Fru_tr (Fro_Fru o3) (Fu_Fru fu))
      have ar : ArX (stI X1 100 0 e.1.length (fun j => e.1.getD j 0)) (100 + 0) e.1 := fun j hj => stI_in (by omega)
      obtain ⟨X2, m1, m2, m3⟩ := mx_in (a := le) (b := []) (w := e.1) (t := lr) (by rw [List.append_nil]; exact r2) ar (EOk_L he) he.1 (by omega) (by rw [List.append_nil]; omega) (q := (le.length : Int)) (n := (e.1.length : Int)) rfl rfl hgj.2.2.2.2.1
      rw [mx_len gA2 rfl rfl, bd_some, mx_2 gj2 rfl, bd_some, r2.1, m1, bd_some]
      have hsz : szs (le ++ [(e.1, lr)]) ≤ 71 := by rw [szs_app, szs_cons, szs_nil]; have := he.2.1; show _ + (e.1.length + 2 + 0) ≤ _; omega
      exact fin X2 (le ++ [(e.1, lr)]) m2 (Fru_tr (Fru_tr (Fro_Fru o3) (Fu_Fru fu)) (Fro_Fru m3)) (by rw [hws]; simp) (by simp; omega) hsz
  obtain ⟨X1', b1, b2, b3, b4, b5⟩ := body
  refine ⟨X1', b1, b2, b3, b4, ?_⟩
  unfold f_X8_mends
  rw [ix_t (by omega), show (r - 1).toNat = t by omega, e0, mx_1 hpA rfl, bd_some, fEq (by omega), ix_t (by omega), jn_eq, e1]
  rcases hb with ⟨c1, c2⟩ | ⟨c1, c2⟩
  · rw [tLt (by omega), ix_t (by omega)]
    dsimp only
    rw [show ((T t : Nat) : Int) = (a.length : Int) by omega, hch, bd_some, hch1, bd_some, mx_0 hgi rfl, bd_some, mx_start hpA rfl rfl, bd_some]
    exact b5
  · rw [fLt (by omega)]
    dsimp only
    rw [show (((a ++ e :: b).length : Nat) : Int) - 1 = (a.length : Int) by omega, hch, bd_some, hch1, bd_some, mx_0 hgi rfl, bd_some, mx_start hpA rfl rfl, bd_some]
    exact b5
theorem mx_mendJ (ho : TOk P) (hT : TX X P) (hW : WayX X L W T) (hL32 : L ≤ 32) (ht : t + 1 < L) (hA : W t = A) (hA32 : A < 32) (hp : P A = (2, la, a ++ e :: b)) (hb : Btw (T t) (a ++ e :: b).length a.length) (hTl : T t ≤ (a ++ e :: b).length) (hi : chd (P A) a.length = (i : Int)) (hi32 : i < 32) (hj : e.2 = (j : Int)) (hj32 : j < 32) (hpi : P i = (s, ll, le)) (hpj : P j = (s, lr, re)) (hs : s = 1 ∨ s = 2) (hw : Ws s e lr le re ws) (h61 : szs ws ≤ 61) (hiA : i ≠ A) (hjA : j ≠ A) (hij : i ≠ j) {r : Int} (hr : r = (t : Int) + 1) : ∃ X', f_X8_mends r X = some (X', 1) ∧ TX X' (uP (uP (uP P i (s, if s = 1 then lr else ll, ws)) j (0, 0, [])) A (2, la, a ++ b)) ∧ Fx X X' ∧ X' 95 3 = X 95 3 ∧ X' 95 4 = X 95 4 + 1 ∧ X' 95 5 = X 95 5 := by
  obtain ⟨X1, g1, g2, g3, g4, g5⟩ := mx_mend1 ho hT hW hL32 ht hA hA32 hp hb hTl hi hi32 hj hj32 hpi hpj hs hw hr
  have hpA := TX_pg ho hT hA32
  rw [hp] at hpA
  have hpA : PgX X A 2 la (a ++ e :: b) := hpA
  have hgi := TX_pg ho hT hi32
  rw [hpi] at hgi
  have hgi : PgX X i s ll le := hgi
  have hgj := TX_pg ho hT hj32
  rw [hpj] at hgj
  have hgj : PgX X j s lr re := hgj
  have hlen := PgX_len hpA
  have hln : (a ++ e :: b).length = a.length + (b.length + 1) := by simp
  have rw1 : Rows X1 0 ([] ++ ws ++ []) := by rw [List.append_nil]; exact g1.2.1
  have cl : ∀ f : Int, f = (if s = 1 then lr else ll) → ∃ X', (bd (f_X8_goBack (i : Int) (s) (f) (0) (X1 95 6) X1) (fun C224 _ => (bd (f_X8_clears (j : Int) C224) (fun C230 _ => (bd (f_X8_comeOut (A : Int) (up C230 95 6 (0))) (fun C240 _ => (bd (f_X8_goesOut (a.length : Int) C240) (fun C246 _ => (bd (f_X8_at (A : Int) (2) C246) (fun C255 r255 => (bd (f_X8_goBack (A : Int) (2) (r255) (0) (C255 95 6) C255) (fun C263 _ => (some ((up C263 95 4 ((C263 95 4) + 1)), (1 : Int))))))))))))))) = some (X', 1) ∧ TX X' (uP (uP (uP P i (s, if s = 1 then lr else ll, ws)) j (0, 0, [])) A (2, la, a ++ b)) ∧ Fx X X' ∧ X' 95 3 = X 95 3 ∧ X' 95 4 = X 95 4 + 1 ∧ X' 95 5 = X 95 5 := by
    intro f hf
    have gA : PgX (stX (stX X1 i (enc s f ws)) j (enc 0 0 [])) A 2 la (a ++ e :: b) := ⟨fun c hc => by rw [stX_o (by omega), stX_o (by omega), g2 _ _ (by omega) (by omega) (by omega) (by omega) (by omega)]; exact hpA.1 c hc, hpA.2⟩
    obtain ⟨X2, o1, o2, o3⟩ := mx_out0 gA (p := (A : Int)) rfl
    obtain ⟨X3, n1, n2, n3⟩ := mx_go o2 (by omega) (q := (a.length : Int)) rfl
    have gA2 := Fro_PgX gA (Fro_tr o3 n3)
    have hab : EsOk (a ++ b) := n2.2.2
    have hsz : szs (a ++ b) ≤ 61 := by have := hpA.2.2.1; rw [szs_app, szs_cons] at this; rw [szs_app]; omega
    have r3 : Rows X3 0 ([] ++ (a ++ b) ++ []) := by rw [List.append_nil]; exact n2.2.1
    refine ⟨up (stX X3 A (enc 2 la (a ++ b))) 95 4 (X 95 4 + 1), ?_, ?_, ?_, ?_, ?_, ?_⟩
    · rw [mx_back hi32 rfl rw1 g1.2.2 (by simpa using g3) h61 (by rfl) (by rw [g1.1]; simp), bd_some, mx_clear hj32 rfl, bd_some, o1, bd_some, n1, bd_some, mx_2 gA2 rfl, bd_some, mx_back hA32 rfl r3 hab (by simp; omega) hsz (by rfl) (by rw [n2.1]; simp), bd_some, stX_k (by omega), n3 _ _ (by omega) (by omega) (by omega) (by omega), o3 _ _ (by omega) (by omega) (by omega) (by omega), stX_k (by omega), stX_k (by omega), g2 _ _ (by omega) (by omega) (by omega) (by omega) (by omega)]
    · refine TX_fr (TX_st (Fro_TX (TX_st (TX_st (Fru_TX hT g2) ⟨rfl, ?_, rfl⟩) ⟨rfl, rfl, rfl⟩) (Fro_tr o3 n3)) ⟨rfl, rfl, rfl⟩) (fun y => up_k (by omega))
      exact hf
    · exact Fx_up (by omega) (Fx_st (Fx_tr (Fx_st (Fx_st (Fru_Fx g2))) (Fro_Fx (Fro_tr o3 n3))))
    · rw [up_j (by omega), stX_k (by omega), n3 _ _ (by omega) (by omega) (by omega) (by omega), o3 _ _ (by omega) (by omega) (by omega) (by omega), stX_k (by omega), stX_k (by omega), g2 _ _ (by omega) (by omega) (by omega) (by omega) (by omega)]
    · rw [up_same]
    · rw [up_j (by omega), stX_k (by omega), n3 _ _ (by omega) (by omega) (by omega) (by omega), o3 _ _ (by omega) (by omega) (by omega) (by omega), stX_k (by omega), stX_k (by omega), g2 _ _ (by omega) (by omega) (by omega) (by omega) (by omega)]
  rw [g5, fLt (by omega)]
  unfold mJoin
  rw [jn_eq]
  rcases hs with hs | hs
  · subst hs
    rw [tEq (by omega), mx_2 (Fru_PgX hgj g2) rfl, bd_some]
    exact cl lr (by rw [if_pos rfl])
  · subst hs
    rw [fEq (by omega), mx_2 (Fru_PgX hgi g2) rfl, bd_some]
    exact cl ll (by rw [if_neg (by omega)])
/-- the end of sharing anew: the page above -/
theorem mx_above (ho : TOk P) (hT : TX X P) (hA32 : A < 32) (hp : P A = (2, la, a ++ e :: b)) (hu : UpX X w) (hw1 : 1 ≤ w.length) (hfit : szs (a ++ (w, e.2) :: b) ≤ 61) : ∃ X', (bd (f_X8_comeOut (A : Int) (up X 95 6 (0))) (fun C342 _ => (ix (a.length : Int) 48 (bd (f_X8_goesOut (a.length : Int) C342) (fun C357 _ => (bd (f_X8_comesIn (a.length : Int) 0 (C357 95 10) (C342 (99) (a.length : Int).toNat) C357) (fun C373 _ => (bd (f_X8_at (A : Int) (2) C373) (fun C382 r382 => (bd (f_X8_goBack (A : Int) (2) (r382) (0) (C382 95 6) C382) (fun C390 _ => (some ((up C390 95 5 ((C390 95 5) + 1)), (0 : Int)))))))))))))) = some (X', 0) ∧ TX X' (uP P A (2, la, a ++ (w, e.2) :: b)) ∧ Fx X X' ∧ X' 95 3 = X 95 3 ∧ X' 95 4 = X 95 4 ∧ X' 95 5 = X 95 5 + 1 := by
  have hpA := TX_pg ho hT hA32
  rw [hp] at hpA
  have hpA : PgX X A 2 la (a ++ e :: b) := hpA
  have he := EsOk_mid hpA.2.1
  have hlen := PgX_len hpA
  have hln : (a ++ e :: b).length = a.length + (b.length + 1) := by simp
  have hln2 : (a ++ b).length = a.length + b.length := by simp
  have hln3 : (a ++ (w, e.2) :: b).length = a.length + (b.length + 1) := by simp
  obtain ⟨X1, o1, o2, o3⟩ := mx_out0 hpA (p := (A : Int)) rfl
  obtain ⟨X2, n1, n2, n3⟩ := mx_go o2 (by omega) (q := (a.length : Int)) rfl
  have re := Rows_mid o2.2.1
  rw [Nat.zero_add] at re
  have hu2 := UpX_ro hu (Fro_tr o3 n3)
  obtain ⟨X3, m1, m2, m3⟩ := mx_in n2 (c := 0) hu2.2.1 hu.2.2 hw1 (by omega) (by omega) (q := (a.length : Int)) (n := (w.length : Int)) (t := e.2) rfl rfl he.2.2.2
  have gA := Fro_PgX hpA (Fro_tr (Fro_tr o3 n3) m3)
  have r3 : Rows X3 0 ([] ++ (a ++ (w, e.2) :: b) ++ []) := by rw [List.append_nil]; exact m2.2.1
  have hF := Fro_tr (Fro_tr o3 n3) m3
  refine ⟨up (stX X3 A (enc 2 la (a ++ (w, e.2) :: b))) 95 5 (X 95 5 + 1), ?_, ?_, ?_, ?_, ?_, ?_⟩
  · rw [o1, bd_some, ix_t (by omega), n1, bd_some, hu2.1, nat2 rfl, re.2.1, m1, bd_some, mx_2 gA rfl, bd_some, mx_back hA32 rfl r3 m2.2.2 (by simp; omega) hfit (by rfl) (by rw [m2.1]; simp), bd_some, stX_k (by omega), hF _ _ (by omega) (by omega) (by omega) (by omega)]
  · exact TX_fr (TX_st (Fro_TX hT hF) ⟨rfl, rfl, rfl⟩) (fun y => up_k (by omega))
  · exact Fx_up (by omega) (Fx_st (Fro_Fx hF))
  · rw [up_j (by omega), stX_k (by omega), hF _ _ (by omega) (by omega) (by omega) (by omega)]
  · rw [up_j (by omega), stX_k (by omega), hF _ _ (by omega) (by omega) (by omega) (by omega)]
  · rw [up_same]
end MM

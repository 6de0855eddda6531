/-! CHECK 8: children walked, then the whole walk. -/
section K8
variable {C X C' X' : Mem} {B : By} {p q root L : Nat} {es : List Ent} {r : List Frm} {S S' : Nat → Int} {K : Mem → Option (Mem × Int)}
theorem ck_kids {h depth f : Nat} {pz dz cl ch mh : Int} {hi : Option (List Int)} {S0 : Nat → Int} (IH : Wk B root L K h) (hB : ByOk B) (hf : h + 1 ≤ f) (hp : p < 32) (hpz : pz = (p : Int)) (hdz : dz = (depth : Int)) (hdL : depth + 1 + h + 1 = L) (hL32 : L ≤ 32) (hr : Rb B p es) (hg : GoodCh S0 (([], B p 2) :: es)) (hrt : S0 root ≠ 0) (hrl : r.length ≤ 21 * depth) (hhi : Bnd B hi ch mh) : ∀ (b a d : List Ent) (c : Ent) (k : Nat) (v : Int) (C X : Mem) (S : Nat → Int) (m n : Nat) (cl' ml' : Int) (lo' : Option (List Int)), ([], B p 2) :: es = d ++ c :: b → es = a ++ b → a.length = d.length → v = (d.length : Int) → b.length + 1 < k → St B root L C X S m → (∀ t, S0 t ≠ 0 → S t ≠ 0) → (h = 0 → ∀ e ∈ c :: b, S e.2.toNat = 0) → Bnd B lo' cl' ml' → (d.length = 0 → cl' = cl) → (0 < d.length → cl' = pz * 64 + v - 1) → X 95 19 = (b.length : Int) + 1 + r.length → Stk X (frs pz (dz + 1) mh ml' c.2 (3 + szs a) b ++ r) → 2 + (h : Int) * 32 + b.length ≤ n + h * sm S 32 → (∃ C' X' z, (1 ≤ z ∧ z ≤ 1000) ∧ f_X1_walkChildren_13 (f_X1_walk f) pz dz cl ch p (fun (v6_e13 : Int) (C_e13 : Mem) => (some (C_e13, 0))) k v C = some (C', z) ∧ f_X8_wrongDown_44 K n X = some (X', z) ∧ FrW C C' ∧ FrV X X') ∨ (∃ C' X' S' m' n', f_X1_walkChildren_13 (f_X1_walk f) pz dz cl ch p (fun (v6_e13 : Int) (C_e13 : Mem) => (some (C_e13, 0))) k v C = some (C', 0) ∧ f_X8_wrongDown_44 K n X = f_X8_wrongDown_44 K n' X' ∧ St B root L C' X' S' m' ∧ FrW C C' ∧ FrV X X' ∧ X' 95 19 = (r.length : Int) ∧ Stk X' r ∧ (∀ t, S t ≠ 0 → S' t ≠ 0) ∧ (∀ e ∈ c :: b, S' e.2.toNat ≠ 0) ∧ (n : Int) + h * sm S 32 ≤ n' + (b.length + 1) + h * sm S' 32)
  | b, a, d, c, 0 => by intros; omega
  | b, a, d, c, k + 1 => by
    intro v C X S m n cl' ml' lo' hd he had hv hk hSt hS0 hun hlo hc0 hc1 h19 hstk hn
    have hl := Rb_len hr
    have hel : es.length = a.length + b.length := by rw [he]; simp
    have hC := hSt.1
    have hcm : c ∈ ([], B p 2) :: es := by rw [hd]; simp
    have hcg := hg.1 c hcm
    have hrab : Rb B p (a ++ b) := by rw [← he]; exact hr
    have hroot : c.2.toNat ≠ root := fun q => hrt (by rw [← q]; exact hcg.2.2)
    obtain ⟨ch', mh', hi', hhi', hcls, hfr⟩ : ∃ (ch' mh' : Int) (hi' : Option (List Int)), Bnd B hi' ch' mh' ∧ (∀ (j65 : Int → Option (Mem × Int)), cLt v (es.length : Int) (j65 ((pz * 64) + v)) (j65 ch) = j65 ch') ∧ frs pz (dz + 1) mh ml' c.2 (3 + szs a) b = (c.2, dz + 1, ml', mh') :: pend pz (dz + 1) mh (3 + szs a) b := by
      cases b with
      | nil => exact ⟨ch, mh, hi, hhi, fun j => by rw [fLt (by simp at hel; omega)], rfl⟩
      | cons e b =>
        refine ⟨pz * 64 + v, 64 * pz + ((3 + szs a : Nat) : Int), some e.1, Or.inr ⟨p, a, e, b, rfl, hp, hrab, by omega, by omega⟩, fun j => by rw [tLt (by simp at hel; omega)], rfl⟩
    rw [hfr] at hstk
    have hpl : (pend pz (dz + 1) mh (3 + szs a) b ++ r).length = b.length + r.length := by rw [List.length_append, pend_len]
    have hwalk := IH f C X S m c.2.toNat (depth + 1) c.2 (dz + 1) cl' ch' ml' mh' lo' hi' (pend pz (dz + 1) mh (3 + szs a) b ++ r) n hf hSt (by omega) (by omega) (by omega) (by omega) hlo hhi' ⟨fun q => by omega, fun q => absurd q hroot⟩ (Or.inr (hS0 root hrt)) (fun q => hun q c (by simp)) (by rw [hpl, h19]; simp; omega) hstk (by rw [hpl]; omega) (by omega)
    have hclass : f_X1_walkChildren_13 (f_X1_walk f) pz dz cl ch p (fun (v6_e13 : Int) (C_e13 : Mem) => (some (C_e13, 0))) (k + 1) v C = bd (f_X1_walk f c.2 (dz + 1) cl' ch' C) (fun C82 r82 => (cEq (r82) 0 (f_X1_walkChildren_13 (f_X1_walk f) pz dz cl ch p (fun (v6_e13 : Int) (C_e13 : Mem) => (some (C_e13, 0))) k (v + 1) C82) (some (C82, r82)))) := by
      rw [f_X1_walkChildren_13, sp_entries (ck_pg hC hB hp hr), bd_some, fLt (a := (es.length : Int)) (by omega), jn_eq]
      have inner : ∀ s : Int, s = cl' → (bd (f_X4_entries p C) (fun C47 r47 => (jn ((fun (s0_65 : Int) => (bd (f_X4_child p (v) C47) (fun C72 r72 => (bd (f_X1_walk f (r72) (dz + 1) (s) (s0_65) C72) (fun C82 r82 => (cEq (r82) 0 (f_X1_walkChildren_13 (f_X1_walk f) pz dz cl ch p (fun (v6_e13 : Int) (C_e13 : Mem) => (some (C_e13, 0))) k (v + 1) C82) (some (C82, r82)))))))) : Int → Option (Mem × Int)) (fun j65 => (cLt (v) (r47) (j65 ((pz * 64) + v)) (j65 (ch))))))) = bd (f_X1_walk f c.2 (dz + 1) cl' ch' C) (fun C82 r82 => (cEq (r82) 0 (f_X1_walkChildren_13 (f_X1_walk f) pz dz cl ch p (fun (v6_e13 : Int) (C_e13 : Mem) => (some (C_e13, 0))) k (v + 1) C82) (some (C82, r82)))) := by
        intro s hs
        rw [sp_entries (ck_pg hC hB hp hr), bd_some, jn_eq]
        refine Eq.trans (hcls (fun (s0_65 : Int) => (bd (f_X4_child p (v) C) (fun C72 r72 => (bd (f_X1_walk f (r72) (dz + 1) (s) (s0_65) C72) (fun C82 r82 => (cEq (r82) 0 (f_X1_walkChildren_13 (f_X1_walk f) pz dz cl ch p (fun (v6_e13 : Int) (C_e13 : Mem) => (some (C_e13, 0))) k (v + 1) C82) (some (C82, r82))))))))) ?_
        show bd (f_X4_child p v C) _ = _
        rw [ck_child hC hB hp hr hd hv, bd_some, hs]
      by_cases k0 : d.length = 0
      · rw [fLt (a := 0) (b := v) (by omega)]
        exact inner cl (hc0 k0).symm
      · rw [tLt (a := 0) (b := v) (by omega)]
        exact inner _ (hc1 (by omega)).symm
    rw [hclass]
    rcases hwalk with ⟨C', X', z, hz, w1, w2, w3, w4⟩ | ⟨C', X', S', m', n', w1, w2, w3, w4, w5, w6, w7, w8, w9, w10, w11⟩
    · rw [w1, w2, bd_some, fEq (by omega)]
      exact Or.inl ⟨C', X', z, hz, rfl, rfl, w3, w4⟩
    · rw [w1, w2, bd_some, tEq (by omega)]
      cases b with
      | nil =>
        refine Or.inr ⟨C', X', S', m', n', ?_, rfl, w3, w4, w5, w6, w7, w8, fun e he' => by rw [List.mem_singleton.mp he']; exact w9, by simp; omega⟩
        cases k with
        | zero => simp at hk
        | succ k =>
          rw [f_X1_walkChildren_13, sp_entries (ck_pg w3.1 hB hp hr), bd_some, tLt (by simp at hel; omega)]
      | cons e b =>
        have hnd := hg.2
        rw [hd, List.map_append, List.nodup_append, List.map_cons, List.nodup_cons] at hnd
        have ih := ck_kids (cl := cl) IH hB hf hp hpz hdz hdL hL32 hr hg hrt hrl hhi b (a ++ [e]) (d ++ [c]) e k (v + 1) C' X' S' m' n' (pz * 64 + v) (64 * pz + ((3 + szs a : Nat) : Int)) (some e.1) (by rw [hd]; simp) (by rw [he]; simp) (by simp; omega) (by simp; omega) (by simp at hk; omega) w3 (fun t q => w8 t (hS0 t q)) (fun q e' he' => by
            have hem : e' ∈ ([], B p 2) :: es := by rw [hd]; simp; exact Or.inr (Or.inr (by simpa using he'))
            have hge := hg.1 e' hem
            rw [w10 q e'.2.toNat (fun q2 => hnd.2.1.1 (List.mem_map.mpr ⟨e', he', by omega⟩))]
            exact hun q e' (List.mem_cons_of_mem _ he')) (Or.inr ⟨p, a, e, b, rfl, hp, hrab, by omega, by omega⟩) (by simp) (fun _ => by omega) (by rw [w6, hpl]; simp) (by
            rw [szs_app, szs_cons, szs_nil, show 3 + (szs a + (e.1.length + 2 + 0)) = 3 + szs a + (e.1.length + 2) by omega]
            exact w7) (by simp at hn; omega)
        rcases ih with ⟨C2, X2, z, hz, x1, x2, x3, x4⟩ | ⟨C2, X2, S2, m2, n2, x1, x2, x3, x4, x5, x6, x7, x8, x9, x10⟩
        · exact Or.inl ⟨C2, X2, z, hz, x1, x2, FrW_tr w4 x3, FrV_tr w5 x4⟩
        · refine Or.inr ⟨C2, X2, S2, m2, n2, x1, x2, x3, FrW_tr w4 x4, FrV_tr w5 x5, x6, x7, fun t q => x8 t (w8 t q), fun e' he' => ?_, by simp; omega⟩
          rcases List.mem_cons.mp he' with q | q
          · rw [q]; exact x8 _ w9
          · exact x9 e' q
theorem ck_walk (hB : ByOk B) (hr32 : root < 32) (hL32 : L ≤ 32) : ∀ h, Wk B root L K h := by
  intro h
  induction h with
  | zero =>
    intro f C X S m p depth pz dz cl ch ml mh lo hi r n hf hSt hp hpz hdz hdL hlo hhi hrt hrs hun h19 hstk hrl hn
    cases f with
    | zero => omega
    | succ f =>
      cases n with
      | zero => simp at hn
      | succ n =>
        obtain ⟨hS1, hF1, hV1⟩ := St_come (z := (r.length : Int)) hSt hp
        have hsm := sm_sS (S := S) hp
        have hup := hun rfl
        have hS1' := hS1
        obtain ⟨g1, g2, g3, g4, g5, g6, g7, g8, g9, g10⟩ := hS1
        obtain ⟨C2, v, y1, y2, y3, y4, y5⟩ := ck_why (S := sS S p) g1 (Rw_Rd g2) hB hp hpz hdz hlo hhi (fun k hk => ⟨(g3 k hk).1, (g3 k hk).2.2⟩) (fun k hk => (g3 k hk).2) g4 g5 g6 hr32 hL32 (by omega) hrt
        have hle : sm S 32 ≤ 31 := by
          have := sm_le (f := sS S p) 32 (fun i hi => by have := (g3 i hi).2.2; omega)
          omega
        have hm10 := hSt.2.2.2.2.2.2.2.2.2
        unfold Out
        rw [wd_step hp hpz h19 hstk (by omega)]
        show (∃ C' X' v, _ ∧ f_X1_walkB (f_X1_walk f) pz dz cl ch C = _ ∧ _) ∨ (∃ C' X' S' m' n', f_X1_walkB (f_X1_walk f) pz dz cl ch C = _ ∧ _)
        have hcome : f_X1_comeTo pz C = some (up C 23 p 1, 0) := by
          unfold f_X1_comeTo
          rw [fLt (by omega), tLt (by omega), ix_t (by omega), nat2 hpz]
        unfold f_X1_walkB
        rw [sp_pageOf hpz hp, bd_some, hcome, bd_some, y3, bd_some, y4, bd_some]
        have hS2 := St_F3 hS1' y1
        by_cases kv : v = 0
        · rw [tEq (a := v) (by omega), fLt (a := 0) (b := v) (by omega)]
          unfold f_X1_isLast
          rw [hS2.2.2.2.1, fLt (a := dz) (by omega), bd_some, fEq (a := 1) (by omega), g5, fLt (a := dz) (by omega), g8, ix_t (by omega)]
          unfold f_X1_noteLeaf
          have e7 := hS2.2.2.2.2.2.2.1
          rw [e7, tLt (by omega), ix_t (by omega), bd_some, show ((m : Int)).toNat = m by omega]
          have e9 := hS2.2.2.2.2.2.2.2.2.1
          refine Or.inr ⟨_, _, sS S p, m + 1, n, rfl, rfl, ⟨fun q hq j hj => by rw [up_k (by omega), up_k (by omega)]; exact hS2.1 q hq j hj, Rw_fr g2 (fun b => by rw [up_k (by omega), up_k (by omega)]) (by rw [up_j (by omega), up_k (by omega)]) (by rw [up_j (by omega), up_k (by omega)]), fun k hk => by rw [up_k (by omega), up_k (by omega), up_k (by omega), up_k (by omega)]; exact hS2.2.2.1 k hk, by rw [up_k (by omega), up_k (by omega)]; exact hS2.2.2.2.1, by rw [up_j (by omega), up_k (by omega)]; exact g5, by rw [up_j (by omega), up_k (by omega)]; exact g6, by rw [up_same, up_k (by omega), e7]; omega, by rw [up_same, up_k (by omega), g8]; omega, fun k hk => ?_, by omega⟩, ?_, ?_, ?_, ?_, ?_, ?_, ?_, ?_⟩
          · by_cases k1 : k = m
            · rw [k1, up_k (by omega), up_same, up_k (by omega), up_same]; omega
            · rw [up_k (by omega), up_j k1, up_k (by omega), up_j k1]; exact e9 k (by omega)
          · exact FrW_tr hF1 (FrW_tr (F3_W y1) (fun x y a b c d e => by unfold up; rw [if_neg e, if_neg (fun q => d q.1)]))
          · exact FrV_tr hV1 (fun x y a b c => by unfold up; rw [if_neg b, if_neg (fun q => by omega)])
          · rw [up_j (by omega), up_k (by omega), up_k (by omega), up_same]
          · refine Stk_fr r hstk.2.2.2.2 (fun x k h1 h2 h3 => ?_)
            rw [up_k (by omega), up_k (by omega), up_k (by omega), up_k (by omega)]
          · intro k q
            unfold sS
            by_cases k1 : k = p
            · rw [if_pos k1]; omega
            · rw [if_neg k1]; exact q
          · unfold sS; rw [if_pos rfl]; omega
          · intro _ k q
            unfold sS; rw [if_neg q]
          · simp
        · rw [fEq (a := v) (by omega), tLt (a := 0) (b := v) (by omega)]
          exact Or.inl ⟨C2, _, 100 * v + pz, by omega, rfl, rfl, FrW_tr hF1 (F3_W y1), hV1⟩
  | succ h IH =>
    intro f C X S m p depth pz dz cl ch ml mh lo hi r n hf hSt hp hpz hdz hdL hlo hhi hrt hrs hun h19 hstk hrl hn
    cases f with
    | zero => omega
    | succ f =>
      have e1 : ((h + 1 : Nat) : Int) * 32 = h * 32 + 32 := by omega
      have e2 : ∀ z : Int, ((h + 1 : Nat) : Int) * z = h * z + z := fun z => by rw [show ((h + 1 : Nat) : Int) = (h : Int) + 1 by omega, Int.add_mul, Int.one_mul]
      have hle32 : sm S 32 ≤ 32 := sm_le (f := S) 32 (fun i hi => by have := St_S hSt i hi; omega)
      have hmul : (h : Int) * sm S 32 ≤ h * 32 := Int.mul_le_mul_of_nonneg_left hle32 (by omega)
      rw [e1, e2] at hn
      cases n with
      | zero => simp at hn; omega
      | succ n =>
        obtain ⟨hS1, hF1, hV1⟩ := St_come (z := (r.length : Int)) hSt hp
        have hsm := sm_sS (S := S) hp
        have hSp := St_S hSt p hp
        have hS1' := hS1
        obtain ⟨g1, g2, g3, g4, g5, g6, g7, g8, g9, g10⟩ := hS1
        obtain ⟨C2, v, y1, y2, y3, y4, y5⟩ := ck_why (S := sS S p) g1 (Rw_Rd g2) hB hp hpz hdz hlo hhi (fun k hk => ⟨(g3 k hk).1, (g3 k hk).2.2⟩) (fun k hk => (g3 k hk).2) g4 g5 g6 hr32 hL32 (by omega) hrt
        unfold Out
        rw [wd_step hp hpz h19 hstk (by omega)]
        show (∃ C' X' v, _ ∧ f_X1_walkB (f_X1_walk f) pz dz cl ch C = _ ∧ _) ∨ (∃ C' X' S' m' n', f_X1_walkB (f_X1_walk f) pz dz cl ch C = _ ∧ _)
        have hcome : f_X1_comeTo pz C = some (up C 23 p 1, 0) := by
          unfold f_X1_comeTo
          rw [fLt (by omega), tLt (by omega), ix_t (by omega), nat2 hpz]
        unfold f_X1_walkB
        rw [sp_pageOf hpz hp, bd_some, hcome, bd_some, y3, bd_some, y4, bd_some]
        have hS2 := St_F3 hS1' y1
        by_cases kv : v = 0
        · obtain ⟨es, hr, hg⟩ := y5 kv
          have hg := hg (by omega)
          have hl := Rb_len hr
          have hk32 := sm_kids32 hg (St_S hS2)
          simp at hk32
          rw [tEq (a := v) (by omega), fLt (a := 0) (b := v) (by omega)]
          unfold f_X1_isLast
          rw [hS2.2.2.2.1, tLt (a := dz) (by omega), bd_some, tEq (a := 0) (by omega), g5, tLt (a := dz) (by omega)]
          have hstk2 : Stk (up (up X 95 19 (r.length : Int)) 104 p 1) r := Stk_fr r hstk.2.2.2.2 (fun x k h1 h2 h3 => by rw [up_k (by omega), up_k (by omega)])
          obtain ⟨X3, z1, z2, z3, z4⟩ := ca_push (dz := dz) (ml := ml) (mh := mh) hB hp hr hpz (by omega) g2 hstk2 (by rw [up_k (by omega), up_same])
          rw [z1, bd_some]
          unfold f_X1_walkChildren
          rw [sp_pageOf hpz hp, bd_some]
          have hS3 := St_FrS hS2 z4
          have hmul0 : (h : Int) * sm S 32 ≤ h * sm (sS S p) 32 := Int.mul_le_mul_of_nonneg_left (by omega) (by omega)
          have hfu := FU_eq
          have kids := ck_kids (K := K) (depth := depth) (f := f) (pz := pz) (dz := dz) (cl := cl) (ch := ch) (mh := mh) (hi := hi) (S0 := sS S p) (r := r) IH hB (by omega) hp hpz hdz (by omega) hL32 hr hg (by
              unfold sS
              rcases hrs with q | q
              · rw [if_pos q.symm]; omega
              · by_cases k1 : root = p
                · rw [if_pos k1]; omega
                · rw [if_neg k1]; exact q) hrl hhi es [] [] ([], B p 2) FU 0 C2 X3 (sS S p) m n cl ml lo rfl rfl rfl rfl (by omega) hS3 (fun t q => q) (fun _ e he => (hg.1 e he).2.2) hlo (fun _ => rfl) (fun q => by simp at q) z3 z2 (by omega)
          rcases kids with ⟨C', X', z, hz, w1, w2, w3, w4⟩ | ⟨C', X', S', m', n', w1, w2, w3, w4, w5, w6, w7, w8, w9, w10⟩
          · rw [w1, w2, bd_some]
            exact Or.inl ⟨C', X', z, hz, rfl, rfl, FrW_tr hF1 (FrW_tr (F3_W y1) w3), FrV_tr hV1 (FrV_tr (FrS_V z4) w4)⟩
          · rw [w1, w2, bd_some]
            have hkk := sm_kids hg (St_S hS2) (St_S w3) w8 w9
            simp at hkk
            have hmm : ∀ k, S k ≠ 0 → sS S p k ≠ 0 := by
              intro k q
              unfold sS
              by_cases k1 : k = p
              · rw [if_pos k1]; omega
              · rw [if_neg k1]; exact q
            refine Or.inr ⟨C', X', S', m', n', rfl, rfl, w3, FrW_tr hF1 (FrW_tr (F3_W y1) w4), FrV_tr hV1 (FrV_tr (FrS_V z4) w5), w6, w7, fun k q => w8 k (hmm k q), w8 p (by unfold sS; rw [if_pos rfl]; omega), fun q => by omega, ?_⟩
            rw [e2, e2]
            omega
        · rw [fEq (a := v) (by omega), tLt (a := 0) (b := v) (by omega)]
          exact Or.inl ⟨C2, _, 100 * v + pz, by omega, rfl, rfl, FrW_tr hF1 (F3_W y1), hV1⟩
end K8

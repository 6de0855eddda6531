/-! CHECK 7: the walk down, both sides. -/
def St (B : By) (root L : Nat) (C X : Mem) (S : Nat → Int) (m : Nat) : Prop := RdC C B ∧ Rw X B ∧ (∀ k, k < 32 → C 23 k = S k ∧ X 104 k = S k ∧ (S k = 0 ∨ S k = 1)) ∧ C 1 5 = (L : Int) ∧ X 95 2 = (L : Int) ∧ X 95 1 = (root : Int) ∧ C 3 4 = (m : Int) ∧ X 95 24 = (m : Int) ∧ (∀ k, k < m → C 24 k = X 109 k ∧ 0 ≤ C 24 k ∧ C 24 k < 32) ∧ (m : Int) ≤ sm S 32
def sS (S : Nat → Int) (p : Nat) : Nat → Int := fun k => if k = p then 1 else S k
def Out (B : By) (root L : Nat) (K : Mem → Option (Mem × Int)) (h : Nat) (C X : Mem) (S : Nat → Int) (p : Nat) (r : List Frm) (n : Nat) (oC oX : Option (Mem × Int)) : Prop :=
  (∃ C' X' v, (1 ≤ v ∧ v ≤ 1000) ∧ oC = some (C', v) ∧ oX = some (X', v) ∧ FrW C C' ∧ FrV X X') ∨
  (∃ C' X' S' m' n', oC = some (C', 0) ∧ oX = f_X8_wrongDown_44 K n' X' ∧ St B root L C' X' S' m' ∧ FrW C C' ∧ FrV X X' ∧ X' 95 19 = (r.length : Int) ∧ Stk X' r ∧ (∀ k, S k ≠ 0 → S' k ≠ 0) ∧ S' p ≠ 0 ∧ (h = 0 → ∀ k, k ≠ p → S' k = S k) ∧ (n : Int) + h * sm S 32 ≤ n' + 1 + h * sm S' 32)
def Wk (B : By) (root L : Nat) (K : Mem → Option (Mem × Int)) (h : Nat) : Prop := ∀ (f : Nat) (C X : Mem) (S : Nat → Int) (m p depth : Nat) (pz dz cl ch ml mh : Int) (lo hi : Option (List Int)) (r : List Frm) (n : Nat), h + 1 ≤ f → St B root L C X S m → p < 32 → pz = (p : Int) → dz = (depth : Int) → depth + h + 1 = L → Bnd B lo cl ml → Bnd B hi ch mh → (depth = 0 ↔ p = root) → (p = root ∨ S root ≠ 0) → (h = 0 → S p = 0) → X 95 19 = (r.length : Int) + 1 → Stk X ((pz, dz, ml, mh) :: r) → r.length ≤ 21 * depth → 2 + (h : Int) * 32 ≤ n + h * sm S 32 → Out B root L K h C X S p r n (f_X1_walk f pz dz cl ch C) (f_X8_wrongDown_44 K n X)
section K7
variable {C X C' X' : Mem} {B : By} {p q root L : Nat} {es : List Ent} {r : List Frm} {S S' : Nat → Int} {K : Mem → Option (Mem × Int)}
theorem sm_mono {f g : Nat → Int} : ∀ n, (∀ i, i < n → f i ≤ g i) → sm f n ≤ sm g n
  | 0, _ => by unfold sm; omega
  | n + 1, h => by
    have h1 := sm_mono n (fun i hi => h i (by omega))
    have h2 := h n (by omega)
    unfold sm
    omega
theorem sm_sS (hp : p < 32) : sm (sS S p) 32 = sm S 32 + (1 - S p) := by
  have e : sm (sS S p) 32 = sm (fun i => S i + (if i = p then (fun _ => 1 - S p) i else 0)) 32 := by
    refine sm_c 32 (fun i hi => ?_)
    unfold sS
    by_cases k : i = p
    · rw [if_pos k, if_pos k, k]; dsimp only; omega
    · rw [if_neg k, if_neg k]; omega
  rw [e, sm_add, sm_one, if_pos hp]
theorem sm_kids {R : List Ent} (hg : GoodCh S R) (h0 : ∀ k, k < 32 → S k = 0 ∨ S k = 1) (h1 : ∀ k, k < 32 → S' k = 0 ∨ S' k = 1) (hm : ∀ k, S k ≠ 0 → S' k ≠ 0) (hs : ∀ c ∈ R, S' c.2.toNat ≠ 0) : sm S 32 + R.length ≤ sm S' 32 := by
  have e := sm_ls (g := fun _ => 1) R hg.2 (fun e he => ⟨e.2.toNat, by have := hg.1 e he; omega, by have := hg.1 e he; omega⟩)
  rw [ls_one] at e
  rw [← e, ← sm_add]
  refine sm_mono 32 (fun i hi => ?_)
  have a0 := h0 i hi
  have a1 := h1 i hi
  have a2 := hm i
  by_cases k : (i : Int) ∈ R.map Prod.snd
  · rw [if_pos k]
    obtain ⟨c, hc, e2⟩ := List.mem_map.mp k
    have b1 := hg.1 c hc
    have b2 := hs c hc
    have e3 : c.2.toNat = i := by omega
    rw [e3] at b1 b2
    omega
  · rw [if_neg k]
    omega
theorem sm_kids32 {R : List Ent} (hg : GoodCh S R) (h0 : ∀ k, k < 32 → S k = 0 ∨ S k = 1) : sm S 32 + R.length ≤ 32 := by
  have h := sm_kids (S' := fun _ => 1) hg h0 (fun k _ => Or.inr rfl) (fun k _ => by omega) (fun c _ => by omega)
  have h2 := sm_le (f := fun _ => (1 : Int)) 32 (fun i _ => by omega)
  omega
theorem FrW_refl : FrW C C := fun _ _ _ _ _ _ _ => rfl
theorem FrW_tr {C1 : Mem} (h1 : FrW C C1) (h2 : FrW C1 C') : FrW C C' := fun x y a b c d e => by rw [h2 x y a b c d e, h1 x y a b c d e]
theorem FrV_refl : FrV X X := fun _ _ _ _ _ => rfl
theorem FrV_tr {X1 : Mem} (h1 : FrV X X1) (h2 : FrV X1 X') : FrV X X' := fun x y a b c => by rw [h2 x y a b c, h1 x y a b c]
theorem FrS_V (h : FrS X X') : FrV X X' := fun x y a b c => h x y a (by omega) (by omega) (by omega) (by omega)
theorem F3_W (h : F3 C C') : FrW C C' := fun x y a b _ _ _ => h x y a b
theorem St_S (h : St B root L C X S q) : ∀ k, k < 32 → S k = 0 ∨ S k = 1 := fun k hk => (h.2.2.1 k hk).2.2
theorem St_F3 {m : Nat} (h : St B root L C X S m) (hf : F3 C C') : St B root L C' X S m := by
  obtain ⟨h1, h2, h3, h4, h5, h6, h7, h8, h9, h10⟩ := h
  refine ⟨F3_Rd h1 hf, h2, fun k hk => by rw [hf 23 k (by omega) (by omega)]; exact h3 k hk, by rw [hf _ _ (by omega) (by omega)]; exact h4, h5, h6, by rw [hf _ _ (by omega) (by omega)]; exact h7, h8, fun k hk => by rw [hf 24 k (by omega) (by omega)]; exact h9 k hk, h10⟩
theorem St_FrS {m : Nat} (h : St B root L C X S m) (hf : FrS X X') : St B root L C X' S m := by
  obtain ⟨h1, h2, h3, h4, h5, h6, h7, h8, h9, h10⟩ := h
  refine ⟨h1, FrS_Rw h2 hf, fun k hk => by rw [hf 104 k (by omega) (by omega) (by omega) (by omega) (by omega)]; exact h3 k hk, h4, by rw [hf _ _ (by omega) (by omega) (by omega) (by omega) (by omega)]; exact h5, by rw [hf _ _ (by omega) (by omega) (by omega) (by omega) (by omega)]; exact h6, h7, by rw [hf _ _ (by omega) (by omega) (by omega) (by omega) (by omega)]; exact h8, fun k hk => by rw [hf 109 k (by omega) (by omega) (by omega) (by omega) (by omega)]; exact h9 k hk, h10⟩
/-- a page is come to -/
theorem St_come {m : Nat} {z : Int} (h : St B root L C X S m) (hp : p < 32) : St B root L (up C 23 p 1) (up (up X 95 19 z) 104 p 1) (sS S p) m ∧ FrW C (up C 23 p 1) ∧ FrV X (up (up X 95 19 z) 104 p 1) := by
  have hs := St_S h
  obtain ⟨h1, h2, h3, h4, h5, h6, h7, h8, h9, h10⟩ := h
  have hsm := sm_sS (S := S) hp
  have hsp := hs p hp
  refine ⟨⟨fun q hq j hj => by rw [up_k (by omega)]; exact h1 q hq j hj, Rw_fr h2 (fun b => by rw [up_k (by omega), up_k (by omega)]) (by rw [up_k (by omega), up_j (by omega)]) (by rw [up_k (by omega), up_j (by omega)]), fun k hk => ?_, by rw [up_k (by omega)]; exact h4, by rw [up_k (by omega), up_j (by omega)]; exact h5, by rw [up_k (by omega), up_j (by omega)]; exact h6, by rw [up_k (by omega)]; exact h7, by rw [up_k (by omega), up_j (by omega)]; exact h8, fun k hk => by rw [up_k (by omega), up_k (by omega), up_k (by omega)]; exact h9 k hk, by omega⟩, fun x y _ _ a _ _ => up_k a, fun x y a b c => ?_⟩
  · unfold sS
    by_cases k1 : k = p
    · rw [k1, up_same, up_same, if_pos rfl]
      omega
    · rw [up_j k1, up_j k1, if_neg k1, up_k (by omega)]
      exact h3 k hk
  · rw [up_k (by omega)]
    unfold up
    rw [if_neg a]
/-- one turn of the model's loop -/
theorem wd_step {pz dz ml mh : Int} {n : Nat} (hp : p < 32) (hpz : pz = (p : Int)) (h19 : X 95 19 = (r.length : Int) + 1) (hs : Stk X ((pz, dz, ml, mh) :: r)) (h8 : r.length < 800) : f_X8_wrongDown_44 K (n + 1) X = bd (f_X8_why pz dz ml mh (up (up X 95 19 (r.length : Int)) 104 p 1)) (fun C115 r115 => (cLt 0 (r115) (some (C115, (100 * r115) + pz)) (cLt dz ((C115 95 2) - 1) (bd (f_X8_childrenWait pz dz ml mh C115) (fun C149 _ => (f_X8_wrongDown_44 K n C149))) (ix (C115 95 24) 800 (f_X8_wrongDown_44 K n (up (up C115 (109) (C115 95 24).toNat pz) 95 24 (((up C115 (109) (C115 95 24).toNat pz) 95 24) + 1))))))) := by
  obtain ⟨s1, s2, s3, s4, s5⟩ := hs
  have u : ∀ (k j : Nat) (z : Int), k ≠ 95 → up X 95 19 z k j = X k j := fun k j z hk => up_k hk
  have tn : ((r.length : Nat) : Int).toNat = r.length := by omega
  have ts : (r.length : Int) + 1 - 1 = (r.length : Int) := by omega
  have tp : pz.toNat = p := by omega
  rw [f_X8_wrongDown_44]
  simp only [up_same, u 105 _ _ (by omega), u 106 _ _ (by omega), u 107 _ _ (by omega), u 108 _ _ (by omega), h19, ts, tn]
  rw [tLt (a := 0) (b := (r.length : Int) + 1) (by omega), ix_t (by omega), ix_t (by omega), ix_t (by omega), ix_t (by omega), s1, s2, s3, s4]
  dsimp only
  rw [ix_t (by omega), tp]
end K7

/-! LEAVES in their order, and all pages. -/
def sm (f : Nat → Int) : Nat → Int
  | 0 => 0
  | n + 1 => sm f n + f n
def ls (g : Nat → Int) : List Ent → Int
  | [] => 0
  | e :: r => g e.2.toNat + ls g r
/-- the first of a row of leaves; none -/
def hdp : List Ent → Int
  | [] => -9
  | e :: _ => e.2
section CN
variable {C C' X X' : Mem} {P P' : Nat → Pg} {c1 c2 c3 a b c z : Int} {n k root L : Nat} {w : List Int} {V : Nat → List Ent} {lvl : Nat → Nat} {g f f' : Nat → Int} {es : List Ent}
theorem sm_c : ∀ n, (∀ i, i < n → f i = f' i) → sm f n = sm f' n
  | 0, _ => rfl
  | n + 1, h => by
    unfold sm
    rw [sm_c n (fun i hi => h i (by omega)), h n (by omega)]
theorem sm_add : ∀ n, sm (fun i => f i + g i) n = sm f n + sm g n
  | 0 => rfl
  | n + 1 => by
    unfold sm
    rw [sm_add n]
    omega
theorem sm_zero : ∀ n, sm (fun _ => 0) n = 0
  | 0 => rfl
  | n + 1 => by unfold sm; rw [sm_zero n]; rfl
theorem sm_one {x : Nat} : ∀ n, sm (fun i => if i = x then g i else 0) n = if x < n then g x else 0
  | 0 => by unfold sm; rw [if_neg (by omega)]
  | n + 1 => by
    unfold sm
    rw [sm_one n]
    by_cases h : x = n
    · subst h
      rw [if_neg (by omega), if_pos rfl, if_pos (by omega)]
      omega
    · rw [if_neg (show ¬ n = x by omega)]
      by_cases h2 : x < n
      · rw [if_pos h2, if_pos (by omega)]; omega
      · rw [if_neg h2, if_neg (by omega)]; rfl
/-- a row of different pages, summed either way -/
theorem sm_ls : ∀ R : List Ent, (R.map Prod.snd).Nodup → (∀ e ∈ R, ∃ i : Nat, e.2 = (i : Int) ∧ i < 32) → sm (fun i => if (i : Int) ∈ R.map Prod.snd then g i else 0) 32 = ls g R
  | [], _, _ => by
    rw [sm_c (f' := fun _ => 0) 32 (fun i _ => by simp), sm_zero]
    rfl
  | e :: r, hn, hr => by
    rw [List.map_cons, List.nodup_cons] at hn
    obtain ⟨x, x1, x2⟩ := hr e (List.mem_cons_self ..)
    have ih := sm_ls r hn.2 (fun f hf => hr f (List.mem_cons_of_mem _ hf))
    have e1 : sm (fun i => if (i : Int) ∈ (e :: r).map Prod.snd then g i else 0) 32 = sm (fun i => (if i = x then g i else 0) + (if (i : Int) ∈ r.map Prod.snd then g i else 0)) 32 := by
      refine sm_c 32 (fun i _ => ?_)
      by_cases hix : i = x
      · subst hix
        have h1 : (i : Int) ∈ (e :: r).map Prod.snd := by rw [List.map_cons, x1]; exact List.mem_cons_self ..
        have h2 : ¬ (i : Int) ∈ r.map Prod.snd := by rw [← x1]; exact hn.1
        rw [if_pos h1, if_pos rfl, if_neg h2]
        omega
      · rw [if_neg hix]
        have h1 : (i : Int) ∈ (e :: r).map Prod.snd ↔ (i : Int) ∈ r.map Prod.snd := by
          rw [List.map_cons, List.mem_cons, x1]
          constructor
          · rintro (h | h)
            · omega
            · exact h
          · exact Or.inr
        by_cases h2 : (i : Int) ∈ r.map Prod.snd
        · rw [if_pos h2, if_pos (h1.mpr h2)]; omega
        · rw [if_neg h2, if_neg (fun q => h2 (h1.mp q))]; rfl
    rw [e1, sm_add, sm_one, if_pos x2, ih]
    show _ = g e.2.toNat + ls g r
    rw [x1]
    rfl
theorem leaf_mem (h : Core P L V lvl) (hL : 1 ≤ L) {i : Nat} (hi : i < 32) : (P i).1 = 1 ↔ (i : Int) ∈ (V (L - 1)).map Prod.snd := by
  constructor
  · intro h1
    by_cases hn : ∀ n, n < L → ∀ e ∈ V n, e.2 ≠ (i : Int)
    · have := h.2.2.2.1 i hi hn
      rw [this] at h1
      exact absurd h1 (by show ¬ (0 : Int) = 1; omega)
    · have : ∃ n, n < L ∧ ∃ e ∈ V n, e.2 = (i : Int) := by
        by_cases hh : ∃ n, n < L ∧ ∃ e ∈ V n, e.2 = (i : Int)
        · exact hh
        · exact absurd (fun n hn e he heq => hh ⟨n, hn, e, he, heq⟩) hn
      obtain ⟨n, hnL, e, he, hei⟩ := this
      obtain ⟨j, q1, q2, q3, q4⟩ := h.2.1 n hnL e he
      have : j = i := by omega
      subst this
      rw [h1] at q4
      by_cases hl : n + 1 = L
      · rw [show L - 1 = n by omega]
        exact List.mem_map.mpr ⟨e, he, hei⟩
      · rw [if_neg hl] at q4; omega
  · intro hm
    obtain ⟨e, he, hei⟩ := List.mem_map.mp hm
    obtain ⟨j, q1, q2, q3, q4⟩ := h.2.1 (L - 1) (by omega) e he
    have hei : e.2 = (i : Int) := hei
    have : j = i := by omega
    subst this
    rw [q4, if_pos (by omega)]
theorem leaf_sum (h : Core P L V lvl) (hL : 1 ≤ L) : sm (fun i => if (P i).1 = 1 then g i else 0) 32 = ls g (V (L - 1)) := by
  rw [← sm_ls (g := g) (V (L - 1)) (h.2.2.1 _ (by omega)) (fun e he => by obtain ⟨i, q1, q2, _⟩ := h.2.1 (L - 1) (by omega) e he; exact ⟨i, q1, q2⟩)]
  refine sm_c 32 (fun i hi => ?_)
  by_cases h1 : (P i).1 = 1
  · rw [if_pos h1, if_pos ((leaf_mem h hL hi).mp h1)]
  · rw [if_neg h1, if_neg (fun q => h1 ((leaf_mem h hL hi).mpr q))]
theorem ls_one : ∀ R : List Ent, ls (fun _ => 1) R = (R.length : Int)
  | [] => rfl
  | e :: r => by unfold ls; rw [ls_one r]; simp; omega
theorem sm_le : ∀ n, (∀ i, i < n → f i ≤ 1) → sm f n ≤ (n : Int)
  | 0, _ => by simp [sm]
  | n + 1, h => by
    have := sm_le n (fun i hi => h i (by omega))
    have := h n (by omega)
    unfold sm
    omega
theorem leaf_many (h : Core P L V lvl) (hL : 1 ≤ L) : (V (L - 1)).length ≤ 32 := by
  have h1 := leaf_sum (g := fun _ => 1) h hL
  rw [ls_one] at h1
  have h2 := sm_le (f := fun i => if (P i).1 = 1 then 1 else 0) 32 (fun i _ => by split <;> omega)
  rw [h1] at h2
  omega
/-- how many keys: the class -/
theorem lp_keys {K : Int → Int → Mem → Option (Mem × Int)} (ho : TOk P) (hT : TC C P) : ∀ (m n : Nat) (v1 v2 : Int), m ≤ 32 → v1 = sm (fun i => if (P i).1 = 1 then ((P i).2.2.length : Int) else 0) (32 - m) → v2 = ((32 - m : Nat) : Int) → m < n → f_X6_keys_4 K n v1 v2 C = K (sm (fun i => if (P i).1 = 1 then ((P i).2.2.length : Int) else 0) 32) 32 C
  | _, 0 => by intros; omega
  | 0, n + 1 => by
    intro v1 v2 _ h1 h2 _
    unfold f_X6_keys_4
    rw [fLt (by omega), h1, h2]
    rfl
  | m + 1, n + 1 => by
    intro v1 v2 hm h1 h2 hn
    have hp := TC_pg ho hT (show 32 - (m + 1) < 32 by omega)
    have hsr := (ho (32 - (m + 1)) (by omega)).2.2.1
    have hst : sm (fun i => if (P i).1 = 1 then ((P i).2.2.length : Int) else 0) (32 - m) = sm (fun i => if (P i).1 = 1 then ((P i).2.2.length : Int) else 0) (32 - (m + 1)) + (if (P (32 - (m + 1))).1 = 1 then ((P (32 - (m + 1))).2.2.length : Int) else 0) := by
      rw [show 32 - m = (32 - (m + 1)) + 1 by omega]; rfl
    unfold f_X6_keys_4
    rw [tLt (by omega), sp_pageOf h2 (by omega), bd_some, sp_sort hp, bd_some]
    by_cases h : (P (32 - (m + 1))).1 = 1
    · rw [if_pos h] at hst
      rw [tEq (by omega), sp_pageOf h2 (by omega), bd_some, sp_entries hp, bd_some]
      exact lp_keys ho hT m n _ _ (by omega) (by rw [hst, h1]) (by omega) (by omega)
    · rw [if_neg h] at hst
      rw [fEq (by omega)]
      exact lp_keys ho hT m n _ _ (by omega) (by rw [hst, h1]) (by omega) (by omega)
def nk (P : Nat → Pg) (i : Nat) : Int := ((P i).2.2.length : Int)
theorem sp_keys (hg : Good P root L V lvl) (hT : TC C P) : f_X6_keys C = some (C, ls (nk P) (V (L - 1))) := by
  have hfu := FU_eq
  unfold f_X6_keys
  rw [lp_keys hg.1.1 hT 32 FU 0 0 (by omega) rfl rfl (by omega), ← leaf_sum (g := nk P) hg.1 hg.2.2.2.1]
  rfl
/-- first pages of all levels -/
theorem firsts (hg : Good P root L V lvl) : ∃ F : Nat → Nat, F 0 = root ∧ (∀ n, n < L → F n < 32 ∧ (∃ s r, V n = (s, (F n : Int)) :: r) ∧ (P (F n)).1 = (if n + 1 = L then 1 else 2)) ∧ (∀ n, n + 1 < L → (P (F n)).2.1 = (F (n + 1) : Int)) := by
  obtain ⟨hcore, h0, heq, hL1, hL32, hr, _⟩ := hg
  have hex : ∀ n, n < L → ∃ s r, ∃ i : Nat, V n = (s, (i : Int)) :: r := by
    intro n
    induction n with
    | zero => intro _; exact ⟨[], [], root, h0⟩
    | succ n ih =>
      intro hn
      obtain ⟨s, r, i, q⟩ := ih (by omega)
      have h1 := heq n hn
      rw [q, exp_cons] at h1
      obtain ⟨j, q1, _⟩ := hcore.2.1 (n + 1) hn (s, (P i).2.1) (by rw [h1]; simp)
      refine ⟨s, (P i).2.2 ++ exp P r, j, ?_⟩
      rw [h1]
      have q1 : (P i).2.1 = (j : Int) := q1
      show (s, (P i).2.1) :: _ = _
      rw [q1]
      rfl
  refine ⟨fun n => (hdp (V n)).toNat, ?_, ?_, ?_⟩
  · show (hdp (V 0)).toNat = root
    rw [h0]
    show ((root : Nat) : Int).toNat = root
    omega
  · intro n hn
    obtain ⟨s, r, i, q⟩ := hex n hn
    have e1 : (hdp (V n)).toNat = i := by rw [q]; show ((i : Nat) : Int).toNat = i; omega
    have hs := Core_sort hcore hn (show (s, (i : Int)) ∈ V n by rw [q]; simp)
    show (hdp (V n)).toNat < 32 ∧ (∃ s r, V n = (s, ((hdp (V n)).toNat : Int)) :: r) ∧ (P (hdp (V n)).toNat).1 = _
    rw [e1]
    exact ⟨hs.1, ⟨s, r, q⟩, hs.2.2⟩
  · intro n hn
    obtain ⟨s, r, i, q⟩ := hex n (by omega)
    obtain ⟨s2, r2, i2, q2⟩ := hex (n + 1) hn
    have e1 : (hdp (V n)).toNat = i := by rw [q]; show ((i : Nat) : Int).toNat = i; omega
    have e2 : (hdp (V (n + 1))).toNat = i2 := by rw [q2]; show ((i2 : Nat) : Int).toNat = i2; omega
    have h1 := heq n hn
    rw [q, q2, exp_cons] at h1
    show (P (hdp (V n)).toNat).2.1 = ((hdp (V (n + 1))).toNat : Int)
    rw [e1, e2]
    have := (List.cons.inj h1).1
    exact (congrArg Prod.snd this).symm
theorem lp_first {K : Int → Int → Mem → Option (Mem × Int)} (ho : TOk P) (hT : TC C P) (hL : C 1 5 = (L : Int)) (hL32 : L ≤ 32) {F : Nat → Nat} (hF : ∀ n, n < L → F n < 32) (hF2 : ∀ n, n + 1 < L → (P (F n)).2.1 = (F (n + 1) : Int)) : ∀ (m n : Nat) (v1 v2 : Int), m < L → v1 = (F (L - 1 - m) : Int) → v2 = ((L - m : Nat) : Int) → m < n → f_X6_firstLeaf_7 K n v1 v2 C = K (F (L - 1) : Int) (L : Int) C
  | _, 0 => by intros; omega
  | 0, n + 1 => by
    intro v1 v2 _ h1 h2 _
    unfold f_X6_firstLeaf_7
    rw [hL, fLt (by omega), h1, h2]
    rfl
  | m + 1, n + 1 => by
    intro v1 v2 hm h1 h2 hn
    have hp := TC_pg ho hT (hF (L - 1 - (m + 1)) (by omega))
    unfold f_X6_firstLeaf_7
    rw [hL, tLt (by omega), sp_pageOf h1 (hF _ (by omega)), bd_some, sp_link hp, bd_some, hF2 _ (by omega)]
    exact lp_first ho hT hL hL32 hF hF2 m n _ _ (by omega) (by rw [show L - 1 - (m + 1) + 1 = L - 1 - m by omega]) (by omega) (by omega)
theorem lm_first {K : Int → Mem → Option (Mem × Int)} (ho : TOk P) (hT : TX X P) {F : Nat → Nat} (hF : ∀ n, n < L → F n < 32) (hs : ∀ n, n < L → (P (F n)).1 = (if n + 1 = L then 1 else 2)) (hF2 : ∀ n, n + 1 < L → (P (F n)).2.1 = (F (n + 1) : Int)) : ∀ (m n : Nat) (v1 : Int), m < L → v1 = (F (L - 1 - m) : Int) → m < n → f_X8_firstLeaf_5 K n v1 X = K (F (L - 1) : Int) X
  | _, 0 => by intros; omega
  | 0, n + 1 => by
    intro v1 hm h1 _
    have hp := TX_pg ho hT (hF (L - 1) (by omega))
    have := hs (L - 1) (by omega)
    rw [if_pos (by omega)] at this
    unfold f_X8_firstLeaf_5
    rw [h1, Nat.sub_zero, mx_0 hp rfl, bd_some, fEq (by omega)]
  | m + 1, n + 1 => by
    intro v1 hm h1 hn
    have hp := TX_pg ho hT (hF (L - 1 - (m + 1)) (by omega))
    have := hs (L - 1 - (m + 1)) (by omega)
    rw [if_neg (by omega)] at this
    unfold f_X8_firstLeaf_5
    rw [mx_0 hp h1, bd_some, tEq (by omega), mx_2 hp h1, bd_some, hF2 _ (by omega)]
    exact lm_first ho hT hF hs hF2 m n _ (by omega) (by rw [show L - 1 - (m + 1) + 1 = L - 1 - m by omega]) (by omega)
/-- the first leaf, both -/
theorem both_first (hg : Good P root L V lvl) (hRC : RC C P root L c1 c2 c3) (hRX : RX X P root L c1 c2 c3) : ∃ q : Nat, q < 32 ∧ hdp (V (L - 1)) = (q : Int) ∧ f_X6_firstLeaf C = some (C, (q : Int)) ∧ f_X8_firstLeaf X = some (X, (q : Int)) := by
  have hfu := FU_eq
  obtain ⟨F, f0, f1, f2⟩ := firsts hg
  obtain ⟨hcore, h0, heq, hL1, hL32, hr, _⟩ := hg
  refine ⟨F (L - 1), (f1 (L - 1) (by omega)).1, ?_, ?_, ?_⟩
  · obtain ⟨s, r, q⟩ := (f1 (L - 1) (by omega)).2.1
    rw [q]; rfl
  · unfold f_X6_firstLeaf
    rw [lp_first hcore.1 hRC.1 hRC.2.2.1 hL32 (fun n hn => (f1 n hn).1) f2 (L - 1) FU _ _ (by omega) (by rw [hRC.2.1, show L - 1 - (L - 1) = 0 by omega, f0]) (by omega) (by omega)]
  · unfold f_X8_firstLeaf
    rw [lm_first hcore.1 hRX.1 (fun n hn => (f1 n hn).1) (fun n hn => (f1 n hn).2.2) f2 (L - 1) FU _ (by omega) (by rw [hRX.2.1, show L - 1 - (L - 1) = 0 by omega, f0]) (by omega)]
/-- the leaf behind one -/
theorem mx_nextL (ho : TOk P) (hT : TX X P) {e : Ent} {r : List Ent} (hl : LkTo P (e :: r) 0) {i : Nat} (hi : e.2 = (i : Int)) (hi32 : i < 32) (hr : ∀ f ∈ r, 0 ≤ f.2 ∧ f.2 < 32) {p : Int} (hp : p = (i : Int)) : f_X8_nextLeaf p X = some (X, hdp r) := by
  have hpg := TX_pg ho hT hi32
  have hl1 : (P i).2.1 = nxx r 0 := by
    have := hl.1
    rw [hi] at this
    exact this
  unfold f_X8_nextLeaf
  rw [mx_2 hpg hp, bd_some, hl1]
  cases r with
  | nil =>
    show cEq 0 0 _ _ = _
    rw [tEq (by omega)]
    rfl
  | cons f r =>
    have := hr f (List.mem_cons_self ..)
    show cEq (f.2 + 1) 0 _ _ = _
    rw [fEq (by omega), mx_2 hpg hp, bd_some, hl1]
    show some (X, f.2 + 1 - 1) = some (X, f.2)
    rw [show f.2 + 1 - 1 = f.2 by omega]
theorem lm_keys {K : Int → Int → Mem → Option (Mem × Int)} (ho : TOk P) (hT : TX X P) : ∀ (R : List Ent) (n : Nat) (v1 v2 : Int), LkTo P R 0 → (∀ e ∈ R, ∃ i : Nat, e.2 = (i : Int) ∧ i < 32) → v2 = hdp R → R.length < n → f_X8_keys_7 K n v1 v2 X = K (v1 + ls (nk P) R) (-9) X
  | _, 0 => by intros; omega
  | [], n + 1 => by
    intro v1 v2 _ _ h2 _
    have h2 : v2 = -9 := h2
    unfold f_X8_keys_7
    rw [tEq (by omega), h2]
    show K v1 (-9) X = K (v1 + 0) (-9) X
    rw [Int.add_zero]
  | e :: r, n + 1 => by
    intro v1 v2 hl hr h2 hn
    obtain ⟨i, i1, i2⟩ := hr e (List.mem_cons_self ..)
    have h2 : v2 = e.2 := h2
    have hpg := TX_pg ho hT i2
    have hr2 : ∀ f ∈ r, 0 ≤ f.2 ∧ f.2 < 32 := by
      intro f hf
      obtain ⟨j, j1, j2⟩ := hr f (List.mem_cons_of_mem _ hf)
      omega
    unfold f_X8_keys_7
    rw [fEq (by omega), mx_1 hpg (by omega), bd_some, mx_nextL ho hT hl i1 i2 hr2 (by omega), bd_some]
    rw [lm_keys ho hT r n _ _ hl.2 (fun f hf => hr f (List.mem_cons_of_mem _ hf)) rfl (by simp at hn; omega)]
    congr 1
    show v1 + ((P i).2.2.length : Int) + ls (nk P) r = v1 + (nk P e.2.toNat + ls (nk P) r)
    rw [i1]
    show _ = v1 + (((P ((i : Nat) : Int).toNat).2.2.length : Int) + _)
    rw [show ((i : Nat) : Int).toNat = i by omega]
    omega
theorem leaf_nat (hg : Good P root L V lvl) : ∀ e ∈ V (L - 1), ∃ i : Nat, e.2 = (i : Int) ∧ i < 32 := by
  intro e he
  obtain ⟨i, q1, q2, _⟩ := hg.1.2.1 (L - 1) (by have := hg.2.2.2.1; omega) e he
  exact ⟨i, q1, q2⟩
theorem mx_keys (hg : Good P root L V lvl) (hRC : RC C P root L c1 c2 c3) (hRX : RX X P root L c1 c2 c3) : f_X8_keys X = some (X, ls (nk P) (V (L - 1))) := by
  have hfu := FU_eq
  obtain ⟨q, q1, q2, q3, q4⟩ := both_first hg hRC hRX
  have hm := leaf_many hg.1 hg.2.2.2.1
  unfold f_X8_keys
  rw [q4, bd_some, lm_keys hg.1.1 hRX.1 (V (L - 1)) FU 0 _ hg.1.2.2.2.2.1 (leaf_nat hg) q2.symm (by omega)]
  congr 2
  omega
/-- numbers of keys are small -/
theorem nk_rng (ho : TOk P) {i : Nat} (hi : i < 32) : 0 ≤ nk P i ∧ nk P i ≤ 30 := by
  have h1 := (ho i hi).2.1
  have h2 := len_szs (P i).2.2
  unfold nk
  omega
theorem ls_rng (ho : TOk P) : ∀ R : List Ent, (∀ e ∈ R, ∃ i : Nat, e.2 = (i : Int) ∧ i < 32) → 0 ≤ ls (nk P) R ∧ ls (nk P) R ≤ 30 * (R.length : Int)
  | [], _ => by simp [ls]
  | e :: r, h => by
    obtain ⟨i, i1, i2⟩ := h e (List.mem_cons_self ..)
    have h1 := nk_rng ho i2
    have h2 := ls_rng ho r (fun f hf => h f (List.mem_cons_of_mem _ hf))
    unfold ls
    rw [i1, show ((i : Nat) : Int).toNat = i by omega]
    simp
    omega
end CN

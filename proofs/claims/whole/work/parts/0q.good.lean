/-! THE TREE as rows of pages, level by level. -/
def exp (P : Nat → Pg) (V : List Ent) : List Ent := V.flatMap (fun e => (e.1, (P e.2.toNat).2.1) :: (P e.2.toNat).2.2)
def lfs (P : Nat → Pg) (V : List Ent) : List Ent := V.flatMap (fun e => (e.1, 0) :: (P e.2.toNat).2.2.map (fun k => (k.1, 1)))
def lt2 (a b : Ent) : Prop := cmp a.1 b.1 < 0 ∨ (cmp a.1 b.1 = 0 ∧ a.2 < b.2)
def nxx : List Ent → Int → Int
  | [], x => x
  | e :: _, _ => e.2 + 1
def LkTo (P : Nat → Pg) : List Ent → Int → Prop
  | [], _ => True
  | e :: r, x => (P e.2.toNat).2.1 = nxx r x ∧ LkTo P r x
def OnL (P : Nat → Pg) (L : Nat) (lvl : Nat → Nat) (n : Nat) (e : Ent) : Prop := ∃ i : Nat, e.2 = (i : Int) ∧ i < 32 ∧ lvl i = n ∧ (P i).1 = (if n + 1 = L then 1 else 2)
def Core (P : Nat → Pg) (L : Nat) (V : Nat → List Ent) (lvl : Nat → Nat) : Prop := TOk P ∧ (∀ n, n < L → ∀ e ∈ V n, OnL P L lvl n e) ∧ (∀ n, n < L → ((V n).map Prod.snd).Nodup) ∧ (∀ i : Nat, i < 32 → (∀ n, n < L → ∀ e ∈ V n, e.2 ≠ (i : Int)) → P i = (0, 0, [])) ∧ LkTo P (V (L - 1)) 0 ∧ (lfs P (V (L - 1))).Pairwise lt2
def uV (V : Nat → List Ent) (t : Nat) (r : List Ent) : Nat → List Ent := fun n => if n = t then r else V n
def Good (P : Nat → Pg) (root L : Nat) (V : Nat → List Ent) (lvl : Nat → Nat) : Prop := Core P L V lvl ∧ V 0 = [([], (root : Int))] ∧ (∀ n, n + 1 < L → V (n + 1) = exp P (V n)) ∧ 1 ≤ L ∧ L ≤ 32 ∧ root < 32 ∧ (1 < L → (P root).2.2 ≠ [])
section GD
variable {P P' : Nat → Pg} {L n t i j q root : Nat} {V V' : Nat → List Ent} {lvl lvl' : Nat → Nat} {A B R S : List Ent} {e f u v : Ent} {s w : List Int} {r : Int}
theorem uV_s : uV V t R t = R := by unfold uV; rw [if_pos rfl]
theorem uV_o (h : n ≠ t) : uV V t R n = V n := by unfold uV; rw [if_neg h]
theorem exp_app : exp P (A ++ B) = exp P A ++ exp P B := by unfold exp; exact List.flatMap_append
theorem exp_cons : exp P (e :: B) = (e.1, (P e.2.toNat).2.1) :: ((P e.2.toNat).2.2 ++ exp P B) := rfl
theorem exp_nil : exp P [] = [] := rfl
theorem lfs_app : lfs P (A ++ B) = lfs P A ++ lfs P B := by unfold lfs; exact List.flatMap_append
theorem lfs_cons : lfs P (e :: B) = (e.1, 0) :: ((P e.2.toNat).2.2.map (fun k => (k.1, 1)) ++ lfs P B) := rfl
theorem exp_c (h : ∀ e ∈ R, P' e.2.toNat = P e.2.toNat) : exp P' R = exp P R := by
  induction R with
  | nil => rfl
  | cons e r ih => rw [exp_cons, exp_cons, h e (List.mem_cons_self ..), ih (fun x hx => h x (List.mem_cons_of_mem _ hx))]
theorem lfs_c (h : ∀ e ∈ R, P' e.2.toNat = P e.2.toNat) : lfs P' R = lfs P R := by
  induction R with
  | nil => rfl
  | cons e r ih => rw [lfs_cons, lfs_cons, h e (List.mem_cons_self ..), ih (fun x hx => h x (List.mem_cons_of_mem _ hx))]
theorem LkTo_c (h : ∀ e ∈ R, P' e.2.toNat = P e.2.toNat) : LkTo P' R r ↔ LkTo P R r := by
  induction R with
  | nil => exact Iff.rfl
  | cons e r ih =>
    unfold LkTo
    rw [h e (List.mem_cons_self ..), ih (fun x hx => h x (List.mem_cons_of_mem _ hx))]
theorem nxx_app : nxx (A ++ B) r = nxx A (nxx B r) := by cases A <;> rfl
theorem LkTo_cons : LkTo P (e :: A) r ↔ (P e.2.toNat).2.1 = nxx A r ∧ LkTo P A r := Iff.rfl
theorem LkTo_app : LkTo P (A ++ B) r ↔ LkTo P A (nxx B r) ∧ LkTo P B r := by
  induction A with
  | nil => simp [LkTo]
  | cons e a ih => rw [List.cons_append, LkTo_cons, LkTo_cons, ih, nxx_app, and_assoc]
theorem lt2_tr {a b c : Ent} (h1 : lt2 a b) (h2 : lt2 b c) : lt2 a c := by
  unfold lt2 at *
  rcases h1 with h1 | ⟨h1, h1'⟩
  · rcases h2 with h2 | ⟨h2, h2'⟩
    · exact Or.inl (cmp_trans _ _ _ h1 h2)
    · rw [← (cmp_eq _ _).mp h2]; exact Or.inl h1
  · rw [(cmp_eq _ _).mp h1]
    rcases h2 with h2 | ⟨h2, h2'⟩
    · exact Or.inl h2
    · exact Or.inr ⟨h2, by omega⟩
/-- one more comes into a row that rises -/
theorem pw_ins {m : Ent} (h : (A ++ B).Pairwise lt2) (h1 : ∀ x, A.getLast? = some x → lt2 x m) (h2 : ∀ x, B.head? = some x → lt2 m x) : (A ++ m :: B).Pairwise lt2 := by
  rw [List.pairwise_append] at h ⊢
  obtain ⟨ha, hb, hab⟩ := h
  have ham : ∀ x ∈ A, lt2 x m := by
    intro x hx
    have hne : A ≠ [] := List.ne_nil_of_mem hx
    have hl := List.dropLast_concat_getLast hne
    have hm := h1 (A.getLast hne) (List.getLast?_eq_getLast hne)
    rw [← hl] at hx ha
    rcases List.mem_append.mp hx with hx | hx
    · exact lt2_tr ((List.pairwise_append.mp ha).2.2 x hx _ (List.mem_singleton.mpr rfl)) hm
    · rw [List.mem_singleton.mp hx]; exact hm
  have hmb : ∀ y ∈ B, lt2 m y := by
    intro y hy
    cases B with
    | nil => cases hy
    | cons b r =>
      have hb0 := h2 b rfl
      rcases List.mem_cons.mp hy with hy | hy
      · rw [hy]; exact hb0
      · exact lt2_tr hb0 ((List.pairwise_cons.mp hb).1 y hy)
  refine ⟨ha, List.pairwise_cons.mpr ⟨hmb, hb⟩, ?_⟩
  intro x hx y hy
  rcases List.mem_cons.mp hy with hy | hy
  · rw [hy]; exact ham x hx
  · exact hab x hx y hy
theorem nd_ins (h : ((A ++ B).map Prod.snd).Nodup) (hf : ∀ x ∈ A ++ B, x.2 ≠ f.2) : ((A ++ f :: B).map Prod.snd).Nodup := by
  have hp : (A ++ f :: B).Perm (f :: (A ++ B)) := List.perm_middle
  rw [(hp.map Prod.snd).nodup_iff, List.map_cons, List.nodup_cons]
  refine ⟨?_, h⟩
  intro hm
  obtain ⟨x, hx, hx2⟩ := List.mem_map.mp hm
  exact hf x hx hx2
theorem nd_mid (h : ((A ++ e :: B).map Prod.snd).Nodup) : ∀ x ∈ A ++ B, x.2 ≠ e.2 := by
  have hp : (A ++ e :: B).Perm (e :: (A ++ B)) := List.perm_middle
  rw [(hp.map Prod.snd).nodup_iff, List.map_cons, List.nodup_cons] at h
  intro x hx hx2
  exact h.1 (List.mem_map.mpr ⟨x, hx, hx2⟩)
theorem nd_sub (h : ((A ++ e :: B).map Prod.snd).Nodup) : ((A ++ B).map Prod.snd).Nodup := by
  have hp : (A ++ e :: B).Perm (e :: (A ++ B)) := List.perm_middle
  rw [(hp.map Prod.snd).nodup_iff, List.map_cons, List.nodup_cons] at h
  exact h.2
theorem Core_mk (h : Core P L V lvl) (ht : t < L) (ho : TOk P') (h1 : ∀ n, n < L → n ≠ t → V' n = V n) (h2 : ∀ n, n < L → n ≠ t → ∀ e ∈ V n, ∀ i : Nat, e.2 = (i : Int) → i < 32 → lvl i = n → lvl' i = n ∧ (P' i).1 = (P i).1) (h3 : ∀ e ∈ V' t, OnL P' L lvl' t e) (h4 : ((V' t).map Prod.snd).Nodup) (h5 : ∀ i : Nat, i < 32 → (∀ n, n < L → ∀ e ∈ V' n, e.2 ≠ (i : Int)) → P' i = (0, 0, [])) (h6 : LkTo P' (V' (L - 1)) 0) (h7 : (lfs P' (V' (L - 1))).Pairwise lt2) : Core P' L V' lvl' := by
  refine ⟨ho, ?_, ?_, h5, h6, h7⟩
  · intro n hn e he
    by_cases hnt : n = t
    · subst hnt; exact h3 e he
    · rw [h1 n hn hnt] at he
      obtain ⟨i, q1, q2, q3, q4⟩ := h.2.1 n hn e he
      obtain ⟨p1, p2⟩ := h2 n hn hnt e he i q1 q2 q3
      exact ⟨i, q1, q2, p1, by rw [p2]; exact q4⟩
  · intro n hn
    by_cases hnt : n = t
    · subst hnt; exact h4
    · rw [h1 n hn hnt]; exact h.2.2.1 n hn
/-- pages of different levels are different -/
theorem Core_ne (h : Core P L V lvl) {m : Nat} (hn : n < L) (hm : m < L) (hnm : n ≠ m) (he : e ∈ V n) (hf : f ∈ V m) : e.2 ≠ f.2 := by
  obtain ⟨i, q1, q2, q3, q4⟩ := h.2.1 n hn e he
  obtain ⟨j, p1, p2, p3, p4⟩ := h.2.1 m hm f hf
  intro heq
  have : i = j := by omega
  subst this
  omega
theorem Core_sort (h : Core P L V lvl) (hn : n < L) (he : (s, (i : Int)) ∈ V n) : i < 32 ∧ lvl i = n ∧ (P i).1 = (if n + 1 = L then 1 else 2) := by
  obtain ⟨j, q1, q2, q3, q4⟩ := h.2.1 n hn _ he
  have : j = i := by have : (i : Int) = (j : Int) := q1; omega
  subst this
  exact ⟨q2, q3, q4⟩
/-- a free page is on no level -/
theorem Core_free (h : Core P L V lvl) (hq : (P q).1 = 0) (hn : n < L) (he : e ∈ V n) : e.2 ≠ (q : Int) := by
  obtain ⟨i, q1, q2, q3, q4⟩ := h.2.1 n hn e he
  intro heq
  have : i = q := by omega
  subst this
  rw [hq] at q4
  split at q4 <;> omega
/-! the way of a key, as rows -/
def Hgt (w : List Int) : List Ent → Prop
  | [] => True
  | e :: _ => cmp w e.1 < 0
def stp (P : Nat → Pg) (w : List Int) (c : Nat × List Ent × List Int × List Ent) : Nat × List Ent × List Int × List Ent := (((((c.2.2.1, (P c.1).2.1) :: (P c.1).2.2.take (tn w (P c.1))).getLastD ([], 0)).2.toNat), exp P c.2.1 ++ ((c.2.2.1, (P c.1).2.1) :: (P c.1).2.2.take (tn w (P c.1))).dropLast, (((c.2.2.1, (P c.1).2.1) :: (P c.1).2.2.take (tn w (P c.1))).getLastD ([], 0)).1, (P c.1).2.2.drop (tn w (P c.1)) ++ exp P c.2.2.2)
def pthN (P : Nat → Pg) (w : List Int) (root : Nat) : Nat → Nat × List Ent × List Int × List Ent
  | 0 => (root, [], [], [])
  | n + 1 => stp P w (pthN P w root n)
def Pth (P : Nat → Pg) (V : Nat → List Ent) (W T : Nat → Nat) (As Bs : Nat → List Ent) (ss : Nat → List Int) (t : Nat) : Prop := (∀ n, n ≤ t → V n = As n ++ (ss n, (W n : Int)) :: Bs n) ∧ (∀ n, n < t → ∃ a b pre, (P (W n)).2.2 = a ++ b ∧ a.length = T n ∧ (ss n, (P (W n)).2.1) :: a = pre ++ [(ss (n + 1), (W (n + 1) : Int))] ∧ As (n + 1) = exp P (As n) ++ pre ∧ Bs (n + 1) = b ++ exp P (Bs n))
theorem cb_spec (c : Int) (w : List Int) : ∀ es : List Ent, (∀ e ∈ es.take (cb c w es), cmp e.1 w < c) ∧ (∀ e, (es.drop (cb c w es)).head? = some e → ¬ cmp e.1 w < c)
  | [] => by simp [cb]
  | e :: r => by
    have ih := cb_spec c w r
    unfold cb
    by_cases h : cmp e.1 w < c
    · rw [if_pos h, List.take_succ_cons, List.drop_succ_cons]
      refine ⟨?_, ih.2⟩
      intro x hx
      rcases List.mem_cons.mp hx with hx | hx
      · rw [hx]; exact h
      · exact ih.1 x hx
    · rw [if_neg h]
      refine ⟨by simp, ?_⟩
      intro x hx
      simp at hx
      rw [← hx]; exact h
theorem snoc {a : List Ent} (h : a ≠ []) : ∃ b e, a = b ++ [e] := ⟨a.dropLast, a.getLast h, (List.dropLast_concat_getLast h).symm⟩
theorem lastD_eq {a : List Ent} {x : Ent} : (x :: a) = (x :: a).dropLast ++ [(x :: a).getLastD ([], 0)] := by
  have h : x :: a ≠ [] := by simp
  have := List.dropLast_concat_getLast h
  rw [List.getLastD_eq_getLast?, List.getLast?_eq_getLast h]
  exact this.symm
theorem chd_last {l : Int} {a b : List Ent} {s' : Int} : chd (s', l, a ++ b) a.length = (((s, l) :: a).getLastD ([], 0)).2 := by
  unfold chd
  by_cases h : a = []
  · subst h; rfl
  · obtain ⟨a', e, rfl⟩ := snoc h
    have h2 : ((s, l) :: (a' ++ [e])).getLast? = some e := by rw [← List.cons_append]; exact List.getLast?_concat
    rw [List.getLastD_eq_getLast?, h2]
    simp
theorem exp_head {x : Ent} (h : (exp P B).head? = some x) : ∃ y, B.head? = some y ∧ y.1 = x.1 := by
  cases B with
  | nil => simp [exp] at h
  | cons b r =>
    rw [exp_cons] at h
    simp at h
    exact ⟨b, rfl, by rw [← h]⟩
theorem Hgt_iff : Hgt w B ↔ ∀ x, B.head? = some x → cmp w x.1 < 0 := by
  cases B with
  | nil => simp [Hgt]
  | cons b r => simp [Hgt]
theorem stp_ok {N : List Ent} (hi : ∀ e ∈ N, 0 ≤ e.2) (hN : N = exp P (A ++ (s, (i : Int)) :: B)) (h1 : cmp s w ≤ 0) (h2 : Hgt w B) : N = (stp P w (i, A, s, B)).2.1 ++ ((stp P w (i, A, s, B)).2.2.1, ((stp P w (i, A, s, B)).1 : Int)) :: (stp P w (i, A, s, B)).2.2.2 ∧ cmp (stp P w (i, A, s, B)).2.2.1 w ≤ 0 ∧ Hgt w (stp P w (i, A, s, B)).2.2.2 ∧ (s, (P i).2.1) :: (P i).2.2.take (tn w (P i)) = ((s, (P i).2.1) :: (P i).2.2.take (tn w (P i))).dropLast ++ [((stp P w (i, A, s, B)).2.2.1, ((stp P w (i, A, s, B)).1 : Int))] ∧ chd (P i) (tn w (P i)) = ((stp P w (i, A, s, B)).1 : Int) := by
  have cs := cb_spec 1 w (P i).2.2
  have hl := lastD_eq (a := (P i).2.2.take (tn w (P i))) (x := (s, (P i).2.1))
  have hlen : ((P i).2.2.take (tn w (P i))).length = tn w (P i) := by
    rw [List.length_take]
    have := cb_le 1 w (P i).2.2
    unfold tn
    omega
  have hch := chd_last (s := s) (s' := (P i).1) (l := (P i).2.1) (a := (P i).2.2.take (tn w (P i))) (b := (P i).2.2.drop (tn w (P i)))
  rw [hlen, List.take_append_drop] at hch
  have hN2 : N = (exp P A ++ ((s, (P i).2.1) :: (P i).2.2.take (tn w (P i))).dropLast) ++ ((s, (P i).2.1) :: (P i).2.2.take (tn w (P i))).getLastD ([], 0) :: ((P i).2.2.drop (tn w (P i)) ++ exp P B) := by
    rw [hN, exp_app, exp_cons]
    show exp P A ++ (s, (P i).2.1) :: ((P i).2.2 ++ exp P B) = _
    conv => lhs; rw [← List.take_append_drop (tn w (P i)) (P i).2.2]
    rw [List.append_assoc, ← List.cons_append, hl]
    simp
  have hmem : ((s, (P i).2.1) :: (P i).2.2.take (tn w (P i))).getLastD ([], 0) ∈ N := by rw [hN2]; simp
  have hmem2 : ((s, (P i).2.1) :: (P i).2.2.take (tn w (P i))).getLastD ([], 0) ∈ (s, (P i).2.1) :: (P i).2.2.take (tn w (P i)) := by
    have hz : ((s, (P i).2.1) :: (P i).2.2.take (tn w (P i))).getLastD ([], 0) ∈ ((s, (P i).2.1) :: (P i).2.2.take (tn w (P i))).dropLast ++ [((s, (P i).2.1) :: (P i).2.2.take (tn w (P i))).getLastD ([], 0)] := List.mem_append_right _ (List.mem_singleton.mpr rfl)
    rw [← hl] at hz
    exact hz
  have hnn := hi _ hmem
  unfold stp
  dsimp only
  generalize ((s, (P i).2.1) :: (P i).2.2.take (tn w (P i))).getLastD ([], 0) = x at *
  have hx : (x.1, ((x.2.toNat : Nat) : Int)) = x := by
    rw [show ((x.2.toNat : Nat) : Int) = x.2 by omega]
  rw [hx]
  refine ⟨hN2, ?_, ?_, hl, ?_⟩
  · rcases List.mem_cons.mp hmem2 with hm | hm
    · rw [hm]; exact h1
    · have := cs.1 x hm; omega
  · rw [Hgt_iff]
    intro y hy
    rw [List.head?_append] at hy
    cases hd : ((P i).2.2.drop (tn w (P i))).head? with
    | none =>
      rw [hd] at hy
      simp at hy
      obtain ⟨z, z1, z2⟩ := exp_head hy
      rw [← z2]
      exact Hgt_iff.mp h2 z z1
    | some d =>
      rw [hd] at hy
      simp at hy
      rw [← hy]
      have := cs.2 d hd
      have := cmp_anti w d.1
      have := cmp_rng d.1 w
      omega
  · rw [show ((x.2.toNat : Nat) : Int) = x.2 by omega]
    exact hch
/-- the way of a key through a good tree -/
theorem Good_way (h : Good P root L V lvl) (w : List Int) : ∃ W T As Bs ss, Down P w root L W T ∧ Pth P V W T As Bs ss (L - 1) ∧ (∀ n, n < L → cmp (ss n) w ≤ 0 ∧ Hgt w (Bs n)) := by
  obtain ⟨hc, h0, h1, hL, hL32, hr, _⟩ := h
  have nn : ∀ n, n < L → ∀ e ∈ V n, 0 ≤ e.2 := by
    intro n hn e he
    obtain ⟨i, q1, _⟩ := hc.2.1 n hn e he
    omega
  have key : ∀ n, n < L → V n = (pthN P w root n).2.1 ++ ((pthN P w root n).2.2.1, ((pthN P w root n).1 : Int)) :: (pthN P w root n).2.2.2 ∧ cmp (pthN P w root n).2.2.1 w ≤ 0 ∧ Hgt w (pthN P w root n).2.2.2 := by
    intro n
    induction n with
    | zero =>
      intro _
      exact ⟨h0, cmp_nil_le w, trivial⟩
    | succ n ih =>
      intro hn
      obtain ⟨i1, i2, i3⟩ := ih (by omega)
      obtain ⟨j1, j2, j3, _⟩ := stp_ok (N := V (n + 1)) (nn (n + 1) hn) (by rw [h1 n hn, i1]) i2 i3
      exact ⟨j1, j2, j3⟩
  refine ⟨fun n => (pthN P w root n).1, fun n => tn w (P (pthN P w root n).1), fun n => (pthN P w root n).2.1, fun n => (pthN P w root n).2.2.2, fun n => (pthN P w root n).2.2.1, ⟨rfl, ?_, ?_⟩, ⟨?_, ?_⟩, ?_⟩
  · intro t ht
    exact (Core_sort (s := (pthN P w root t).2.2.1) hc ht (by rw [(key t ht).1]; simp)).1
  · intro t ht
    refine ⟨rfl, ?_⟩
    obtain ⟨i1, i2, i3⟩ := key t (by omega)
    exact (stp_ok (N := V (t + 1)) (nn (t + 1) ht) (by rw [h1 t ht, i1]) i2 i3).2.2.2.2
  · intro n hn
    exact (key n (by omega)).1
  · intro n hn
    obtain ⟨i1, i2, i3⟩ := key n (by omega)
    have st := stp_ok (N := V (n + 1)) (nn (n + 1) (by omega)) (by rw [h1 n (by omega), i1]) i2 i3
    refine ⟨(P (pthN P w root n).1).2.2.take (tn w (P (pthN P w root n).1)), (P (pthN P w root n).1).2.2.drop (tn w (P (pthN P w root n).1)), (((pthN P w root n).2.2.1, (P (pthN P w root n).1).2.1) :: (P (pthN P w root n).1).2.2.take (tn w (P (pthN P w root n).1))).dropLast, (List.take_append_drop _ _).symm, ?_, st.2.2.2.1, rfl, rfl⟩
    rw [List.length_take]
    have := cb_le 1 w (P (pthN P w root n).1).2.2
    show min (cb 1 w (P (pthN P w root n).1).2.2) _ = cb 1 w (P (pthN P w root n).1).2.2
    omega
  · intro n hn
    exact (key n hn).2
end GD

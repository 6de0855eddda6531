/-! THE TREE: what changes keep. -/
section CO
variable {P P' : Nat → Pg} {L n t i j q root : Nat} {V V' : Nat → List Ent} {lvl lvl' : Nat → Nat} {A B R S a b x y es : List Ent} {e f u v : Ent} {s s2 w : List Int} {r l l1 l2 z : Int} {p : Pg}
theorem nS_u (hi : i < n) : nS P 0 n ≤ nS (uP P i p) 0 n + (if (P i).1 = 0 then 1 else 0) := by
  have key : ∀ m, nS P 0 m ≤ nS (uP P i p) 0 m + (if i < m ∧ (P i).1 = 0 then 1 else 0) := by
    intro m
    induction m with
    | zero => simp [nS]
    | succ m ih =>
      unfold nS
      by_cases h : m = i
      · subst h
        rw [if_neg (by omega)] at ih
        rw [uP_s]
        by_cases h0 : (P m).1 = 0
        · rw [if_pos h0, if_pos (show m < m + 1 ∧ (P m).1 = 0 from ⟨by omega, h0⟩)]
          omega
        · rw [if_neg h0]
          omega
      · rw [uP_o h]
        by_cases h0 : i < m ∧ (P i).1 = 0
        · rw [if_pos h0] at ih
          rw [if_pos (show i < m + 1 ∧ (P i).1 = 0 from ⟨by omega, h0.2⟩)]
          omega
        · rw [if_neg h0] at ih
          omega
  have := key n
  by_cases h0 : (P i).1 = 0
  · rw [if_pos ⟨hi, h0⟩] at this
    rw [if_pos h0]; exact this
  · rw [if_neg (fun q => h0 q.2)] at this
    rw [if_neg h0]; exact this
theorem lf_ex (h : 0 < nS P 0 32) : ∃ q, IsLF P q := by
  have key : ∀ m, m ≤ 32 → (∃ q, q < m ∧ (P q).1 = 0 ∧ ∀ i, i < q → (P i).1 ≠ 0) ∨ (nS P 0 m = 0 ∧ ∀ i, i < m → (P i).1 ≠ 0) := by
    intro m
    induction m with
    | zero => intro _; exact Or.inr ⟨rfl, fun i hi => by omega⟩
    | succ m ih =>
      intro hm
      rcases ih (by omega) with ⟨q, q1, q2, q3⟩ | ⟨h1, h2⟩
      · exact Or.inl ⟨q, by omega, q2, q3⟩
      · by_cases h0 : (P m).1 = 0
        · exact Or.inl ⟨m, by omega, h0, h2⟩
        · refine Or.inr ⟨?_, ?_⟩
          · unfold nS
            rw [h1, if_neg h0]
          · intro i hi
            by_cases him : i = m
            · subst him; exact h0
            · exact h2 i (by omega)
  rcases key 32 (by omega) with ⟨q, q1, q2, q3⟩ | ⟨h1, h2⟩
  · exact ⟨q, q1, q2, q3⟩
  · omega
/-- other entries of an inner page -/
theorem core_in (h : Core P L V lvl) (ht : t + 1 < L) (hv : V t = A ++ (s, (i : Int)) :: B) (hp : POk (2, l, es)) : Core (uP P i (2, l, es)) L V lvl := by
  have hi := Core_sort h (n := t) (s := s) (i := i) (by omega) (by rw [hv]; simp)
  have hne : ∀ n, n < L → n ≠ t → ∀ e ∈ V n, e.2.toNat ≠ i := by
    intro n hn hnt e he
    obtain ⟨k, q1, q2, q3, q4⟩ := h.2.1 n hn e he
    intro heq
    have : k = i := by omega
    subst this
    omega
  refine Core_mk (t := t) h (by omega) (TOk_u h.1 hp) (fun _ _ _ => rfl) ?_ ?_ (h.2.2.1 t (by omega)) ?_ ?_ ?_
  · intro n hn hnt e he k hk hk32 hlk
    have : k ≠ i := by have := hne n hn hnt e he; omega
    rw [uP_o this]
    exact ⟨hlk, rfl⟩
  · intro e he
    obtain ⟨k, q1, q2, q3, q4⟩ := h.2.1 t (by omega) e he
    refine ⟨k, q1, q2, q3, ?_⟩
    by_cases hki : k = i
    · subst hki; rw [uP_s, if_neg (by omega)]
    · rw [uP_o hki]; exact q4
  · intro k hk hno
    have : k ≠ i := by
      intro heq
      subst heq
      exact hno t (by omega) (s, (k : Int)) (by rw [hv]; simp) rfl
    rw [uP_o this]
    exact h.2.2.2.1 k hk hno
  · rw [LkTo_c (P := P) (fun e he => uP_o (hne (L - 1) (by omega) (by omega) e he))]
    exact h.2.2.2.2.1
  · rw [lfs_c (P := P) (fun e he => uP_o (hne (L - 1) (by omega) (by omega) e he))]
    exact h.2.2.2.2.2
/-- an inner page is split -/
theorem core_spI (h : Core P L V lvl) (ht : t + 1 < L) (hv : V t = A ++ (s, (i : Int)) :: B) (hq : (P q).1 = 0) (hq32 : q < 32) (hp : POk (2, l1, x)) (hp2 : POk (2, l2, y)) : Core (uP (uP P i (2, l1, x)) q (2, l2, y)) L (uV V t (A ++ (s, (i : Int)) :: (s2, (q : Int)) :: B)) (fun k => if k = q then t else lvl k) := by
  have hi := Core_sort h (n := t) (s := s) (i := i) (by omega) (by rw [hv]; simp)
  have hiq : i ≠ q := by
    intro heq
    subst heq
    rw [hq, if_neg (by omega)] at hi
    omega
  have hne : ∀ n, n < L → n ≠ t → ∀ e ∈ V n, e.2.toNat ≠ i := by
    intro n hn hnt e he
    obtain ⟨k, q1, q2, q3, q4⟩ := h.2.1 n hn e he
    intro heq
    have : k = i := by omega
    subst this
    omega
  have hneq : ∀ n, n < L → ∀ e ∈ V n, e.2.toNat ≠ q := by
    intro n hn e he
    have := Core_free h hq hn he
    obtain ⟨k, q1, q2, q3, q4⟩ := h.2.1 n hn e he
    omega
  have hlast : uV V t (A ++ (s, (i : Int)) :: (s2, (q : Int)) :: B) (L - 1) = V (L - 1) := uV_o (by omega)
  refine Core_mk (t := t) h (by omega) (TOk_u (TOk_u h.1 hp) hp2) (fun n _ hnt => uV_o hnt) ?_ ?_ ?_ ?_ ?_ ?_
  · intro n hn hnt e he k hk hk32 hlk
    have k1 : k ≠ i := by have := hne n hn hnt e he; omega
    have k2 : k ≠ q := by have := hneq n hn e he; omega
    rw [uP_o k2, uP_o k1, if_neg k2]
    exact ⟨hlk, rfl⟩
  · intro e he
    rw [uV_s] at he
    have hcase : e = (s2, (q : Int)) ∨ e ∈ V t := by
      rw [hv]
      simp at he ⊢
      rcases he with he | he | he | he
      · exact Or.inr (Or.inl he)
      · exact Or.inr (Or.inr (Or.inl he))
      · exact Or.inl he
      · exact Or.inr (Or.inr (Or.inr he))
    rcases hcase with he | he
    · refine ⟨q, by rw [he], hq32, if_pos rfl, ?_⟩
      rw [uP_s, if_neg (by omega)]
    · obtain ⟨k, q1, q2, q3, q4⟩ := h.2.1 t (by omega) e he
      have k2 : k ≠ q := by have := hneq t (by omega) e he; omega
      refine ⟨k, q1, q2, (if_neg k2).trans q3, ?_⟩
      rw [uP_o k2]
      by_cases hki : k = i
      · subst hki; rw [uP_s, if_neg (by omega)]
      · rw [uP_o hki]; exact q4
  · rw [uV_s]
    have := nd_ins (A := A ++ [(s, (i : Int))]) (B := B) (f := (s2, (q : Int))) (by rw [List.append_assoc]; have := h.2.2.1 t (by omega); rw [hv] at this; exact this) (by
      intro x hx
      have hx2 : x ∈ V t := by rw [hv]; simp at hx ⊢; exact hx
      exact Core_free h hq (by omega) hx2)
    rw [List.append_assoc] at this
    exact this
  · intro k hk hno
    have hno2 : ∀ e ∈ A ++ (s, (i : Int)) :: (s2, (q : Int)) :: B, e.2 ≠ (k : Int) := by
      have := hno t (by omega)
      rw [uV_s] at this
      exact this
    have k1 : k ≠ i := by
      intro heq; subst heq
      exact hno2 (s, (k : Int)) (by simp) rfl
    have k2 : k ≠ q := by
      intro heq; subst heq
      exact hno2 (s2, (k : Int)) (by simp) rfl
    rw [uP_o k2, uP_o k1]
    refine h.2.2.2.1 k hk ?_
    intro n hn e he
    by_cases hnt : n = t
    · subst hnt
      rw [hv] at he
      refine hno2 e ?_
      simp at he ⊢
      rcases he with he | he | he
      · exact Or.inl he
      · exact Or.inr (Or.inl he)
      · exact Or.inr (Or.inr (Or.inr he))
    · have := hno n hn
      rw [uV_o hnt] at this
      exact this e he
  · rw [hlast, LkTo_c (P := P) (fun e he => by rw [uP_o (hneq (L - 1) (by omega) e he), uP_o (hne (L - 1) (by omega) (by omega) e he)])]
    exact h.2.2.2.2.1
  · rw [hlast, lfs_c (P := P) (fun e he => by rw [uP_o (hneq (L - 1) (by omega) e he), uP_o (hne (L - 1) (by omega) (by omega) e he)])]
    exact h.2.2.2.2.2
/-- a new root over all -/
theorem core_root (h : Core P L V lvl) (hL : 1 ≤ L) (hq : (P q).1 = 0) (hq32 : q < 32) (hp : POk (2, l, es)) : Core (uP P q (2, l, es)) (L + 1) (fun n => match n with | 0 => [([], (q : Int))] | n + 1 => V n) (fun k => if k = q then 0 else lvl k + 1) := by
  have hneq : ∀ n, n < L → ∀ e ∈ V n, e.2.toNat ≠ q := by
    intro n hn e he
    have := Core_free h hq hn he
    obtain ⟨k, q1, q2, q3, q4⟩ := h.2.1 n hn e he
    omega
  have hlast : (fun n => match n with | 0 => [([], (q : Int))] | n + 1 => V n : Nat → List Ent) (L + 1 - 1) = V (L - 1) := by
    rw [show L + 1 - 1 = (L - 1) + 1 by omega]
  refine ⟨TOk_u h.1 hp, ?_, ?_, ?_, ?_, ?_⟩
  · intro n hn e he
    cases n with
    | zero =>
      have he : e ∈ [(([] : List Int), (q : Int))] := he
      have := List.mem_singleton.mp he
      subst this
      exact ⟨q, rfl, hq32, if_pos rfl, by rw [uP_s, if_neg (by omega)]⟩
    | succ n =>
      obtain ⟨k, q1, q2, q3, q4⟩ := h.2.1 n (by omega) e he
      have k2 : k ≠ q := by have := hneq n (by omega) e he; omega
      refine ⟨k, q1, q2, (if_neg k2).trans (by rw [q3]), ?_⟩
      rw [uP_o k2, q4]
      by_cases hh : n + 1 = L
      · rw [if_pos hh, if_pos (by omega)]
      · rw [if_neg hh, if_neg (by omega)]
  · intro n hn
    cases n with
    | zero => simp
    | succ n => exact h.2.2.1 n (by omega)
  · intro k hk hno
    have k2 : k ≠ q := by
      intro heq; subst heq
      exact hno 0 (by omega) ([], (k : Int)) (by simp) rfl
    rw [uP_o k2]
    exact h.2.2.2.1 k hk (fun n hn e he => hno (n + 1) (by omega) e he)
  · rw [hlast, LkTo_c (P := P) (fun e he => uP_o (hneq (L - 1) (by omega) e he))]
    exact h.2.2.2.2.1
  · rw [hlast, lfs_c (P := P) (fun e he => uP_o (hneq (L - 1) (by omega) e he))]
    exact h.2.2.2.2.2
/-! leaves -/
def k1 (e : Ent) : Ent := (e.1, 1)
theorem lfs_mid : lfs P (A ++ (s, (i : Int)) :: B) = lfs P A ++ (s, 0) :: ((P i).2.2.map k1 ++ lfs P B) := by
  rw [lfs_app, lfs_cons]
  rfl
theorem lfs_head {x : Ent} (h : (lfs P B).head? = some x) : ∃ y, B.head? = some y ∧ x = (y.1, 0) := by
  cases B with
  | nil => simp [lfs] at h
  | cons b r =>
    rw [lfs_cons] at h
    simp at h
    exact ⟨b, rfl, h.symm⟩
/-- the rising row of all keys, with a new one -/
theorem pw_new (h : (lfs P (A ++ (s, (i : Int)) :: B)).Pairwise lt2) (hp : (P i).2.2 = a ++ b) (hs : cmp s w ≤ 0) (hB : Hgt w B) (ha : ∀ e ∈ a, cmp e.1 w < 0) (hb : ∀ e, b.head? = some e → cmp w e.1 < 0) : (lfs P A ++ (s, 0) :: ((a ++ (w, z) :: b).map k1 ++ lfs P B)).Pairwise lt2 := by
  rw [lfs_mid, hp, List.map_append] at h
  have e1 : lfs P A ++ (s, 0) :: ((a ++ (w, z) :: b).map k1 ++ lfs P B) = (lfs P A ++ (s, 0) :: a.map k1) ++ (w, 1) :: (b.map k1 ++ lfs P B) := by
    rw [List.map_append, List.map_cons]
    simp [k1]
  rw [e1]
  refine pw_ins ?_ ?_ ?_
  · simpa using h
  · intro x hx
    by_cases hae : a = []
    · subst hae
      simp at hx
      subst hx
      rcases Int.lt_or_eq_of_le hs with h1 | h1
      · exact Or.inl h1
      · exact Or.inr ⟨h1, by show (0 : Int) < 1; decide⟩
    · obtain ⟨a', f, rfl⟩ := snoc hae
      have : ((lfs P A ++ (s, 0) :: (a' ++ [f]).map k1)).getLast? = some (k1 f) := by
        rw [List.map_append]
        have : lfs P A ++ (s, 0) :: (a'.map k1 ++ [f].map k1) = (lfs P A ++ (s, 0) :: a'.map k1) ++ [k1 f] := by simp
        rw [this]
        exact List.getLast?_concat
      rw [this] at hx
      simp at hx
      subst hx
      exact Or.inl (ha f (by simp))
  · intro x hx
    cases b with
    | nil =>
      simp at hx
      obtain ⟨y, y1, y2⟩ := lfs_head hx
      rw [y2]
      exact Or.inl (Hgt_iff.mp hB y y1)
    | cons f b' =>
      simp at hx
      subst hx
      exact Or.inl (hb f rfl)
/-- .. parted by a separator -/
theorem pw_part {X Y : List Ent} (h : (X ++ ((x ++ [u]) ++ v :: y).map k1 ++ Y).Pairwise lt2) : cmp u.1 v.1 < 0 ∧ (X ++ ((x ++ [u]).map k1 ++ (sep u.1 v.1, 0) :: ((v :: y).map k1 ++ Y))).Pairwise lt2 := by
  have e0 : X ++ ((x ++ [u]) ++ v :: y).map k1 ++ Y = (X ++ (x ++ [u]).map k1) ++ ((v :: y).map k1 ++ Y) := by simp
  rw [e0] at h
  have huv : lt2 (k1 u) (k1 v) := (List.pairwise_append.mp h).2.2 (k1 u) (by simp) (k1 v) (by simp)
  have hc : cmp u.1 v.1 < 0 := by
    rcases huv with h1 | ⟨_, h1⟩
    · exact h1
    · exact absurd h1 (by show ¬ ((1 : Int) < 1); decide)
  refine ⟨hc, ?_⟩
  have e1 : X ++ ((x ++ [u]).map k1 ++ (sep u.1 v.1, 0) :: ((v :: y).map k1 ++ Y)) = (X ++ (x ++ [u]).map k1) ++ (sep u.1 v.1, 0) :: ((v :: y).map k1 ++ Y) := by simp
  rw [e1]
  refine pw_ins h ?_ ?_
  · intro t ht
    rw [List.map_append, ← List.append_assoc] at ht
    have : (X ++ x.map k1 ++ [u].map k1).getLast? = some (k1 u) := List.getLast?_concat
    rw [this] at ht
    simp at ht
    subst ht
    exact Or.inl (sep_gt u.1 v.1 hc)
  · intro t ht
    simp at ht
    subst ht
    have := sep_le u.1 v.1
    rcases Int.lt_or_eq_of_le this with h1 | h1
    · exact Or.inl h1
    · exact Or.inr ⟨h1, by show (0 : Int) < 1; decide⟩
/-- other entries of a leaf, its link as it was -/
theorem core_lf (h : Core P L V lvl) (ht : t + 1 = L) (hv : V t = A ++ (s, (i : Int)) :: B) (hl : l = (P i).2.1) (hp : POk (1, l, es)) (hpw : (lfs P A ++ (s, 0) :: (es.map k1 ++ lfs P B)).Pairwise lt2) : Core (uP P i (1, l, es)) L V lvl := by
  have hi := Core_sort h (n := t) (s := s) (i := i) (by omega) (by rw [hv]; simp)
  have hL1 : L - 1 = t := by omega
  have hne : ∀ n, n < L → n ≠ t → ∀ e ∈ V n, e.2.toNat ≠ i := by
    intro n hn hnt e he
    obtain ⟨k, q1, q2, q3, q4⟩ := h.2.1 n hn e he
    intro heq
    have : k = i := by omega
    subst this
    omega
  have hnd := h.2.2.1 t (by omega)
  rw [hv] at hnd
  have hmid := nd_mid hnd
  have hmid2 : ∀ e ∈ A ++ B, e.2.toNat ≠ i := by
    intro e he
    have h1 := hmid e he
    have h2 : e ∈ V t := by rw [hv]; simp at he ⊢; rcases he with he | he; exact Or.inl he; exact Or.inr (Or.inr he)
    obtain ⟨k, q1, _⟩ := h.2.1 t (by omega) e h2
    have h1 : e.2 ≠ (i : Int) := h1
    omega
  have cA : ∀ e ∈ A, uP P i (1, l, es) e.2.toNat = P e.2.toNat := fun e he => uP_o (hmid2 e (List.mem_append_left _ he))
  have cB : ∀ e ∈ B, uP P i (1, l, es) e.2.toNat = P e.2.toNat := fun e he => uP_o (hmid2 e (List.mem_append_right _ he))
  refine Core_mk (t := t) h (by omega) (TOk_u h.1 hp) (fun _ _ _ => rfl) ?_ ?_ (h.2.2.1 t (by omega)) ?_ ?_ ?_
  · intro n hn hnt e he k hk hk32 hlk
    have : k ≠ i := by have := hne n hn hnt e he; omega
    rw [uP_o this]
    exact ⟨hlk, rfl⟩
  · intro e he
    obtain ⟨k, q1, q2, q3, q4⟩ := h.2.1 t (by omega) e he
    refine ⟨k, q1, q2, q3, ?_⟩
    by_cases hki : k = i
    · subst hki; rw [uP_s, if_pos ht]
    · rw [uP_o hki]; exact q4
  · intro k hk hno
    have : k ≠ i := by
      intro heq
      subst heq
      exact hno t (by omega) (s, (k : Int)) (by rw [hv]; simp) rfl
    rw [uP_o this]
    exact h.2.2.2.1 k hk hno
  · rw [hL1]
    have h6 := h.2.2.2.2.1
    rw [hL1, hv, LkTo_app, LkTo_cons] at h6
    rw [hv, LkTo_app, LkTo_cons, LkTo_c cA, LkTo_c cB]
    refine ⟨h6.1, ?_, h6.2.2⟩
    show (uP P i (1, l, es) i).2.1 = _
    rw [uP_s, hl]
    exact h6.2.1
  · rw [hL1, hv, lfs_mid, uP_s, lfs_c cA, lfs_c cB]
    exact hpw
/-- a leaf is split -/
theorem core_spL (h : Core P L V lvl) (ht : t + 1 = L) (hv : V t = A ++ (s, (i : Int)) :: B) (hq : (P q).1 = 0) (hq32 : q < 32) (hp : POk (1, (q : Int) + 1, x)) (hp2 : POk (1, (P i).2.1, y)) (hpw : (lfs P A ++ (s, 0) :: (x.map k1 ++ (s2, 0) :: (y.map k1 ++ lfs P B))).Pairwise lt2) : Core (uP (uP P i (1, (q : Int) + 1, x)) q (1, (P i).2.1, y)) L (uV V t (A ++ (s, (i : Int)) :: (s2, (q : Int)) :: B)) (fun k => if k = q then t else lvl k) := by
  have hi := Core_sort h (n := t) (s := s) (i := i) (by omega) (by rw [hv]; simp)
  have hL1 : L - 1 = t := by omega
  have hiq : i ≠ q := by
    intro heq
    subst heq
    rw [hq, if_pos ht] at hi
    omega
  have hne : ∀ n, n < L → n ≠ t → ∀ e ∈ V n, e.2.toNat ≠ i := by
    intro n hn hnt e he
    obtain ⟨k, q1, q2, q3, q4⟩ := h.2.1 n hn e he
    intro heq
    have : k = i := by omega
    subst this
    omega
  have hneq : ∀ n, n < L → ∀ e ∈ V n, e.2.toNat ≠ q := by
    intro n hn e he
    have := Core_free h hq hn he
    obtain ⟨k, q1, q2, q3, q4⟩ := h.2.1 n hn e he
    omega
  have hnd := h.2.2.1 t (by omega)
  rw [hv] at hnd
  have hmid := nd_mid hnd
  have inV : ∀ e ∈ A ++ B, e ∈ V t := by
    intro e he
    rw [hv]
    simp at he ⊢
    rcases he with he | he
    · exact Or.inl he
    · exact Or.inr (Or.inr he)
  have hmid2 : ∀ e ∈ A ++ B, e.2.toNat ≠ i := by
    intro e he
    have h1 : e.2 ≠ (i : Int) := hmid e he
    obtain ⟨k, q1, _⟩ := h.2.1 t (by omega) e (inV e he)
    omega
  have cAB : ∀ e ∈ A ++ B, uP (uP P i (1, (q : Int) + 1, x)) q (1, (P i).2.1, y) e.2.toNat = P e.2.toNat := fun e he => by rw [uP_o (hneq t (by omega) e (inV e he)), uP_o (hmid2 e he)]
  have cA : ∀ e ∈ A, uP (uP P i (1, (q : Int) + 1, x)) q (1, (P i).2.1, y) e.2.toNat = P e.2.toNat := fun e he => cAB e (List.mem_append_left _ he)
  have cB : ∀ e ∈ B, uP (uP P i (1, (q : Int) + 1, x)) q (1, (P i).2.1, y) e.2.toNat = P e.2.toNat := fun e he => cAB e (List.mem_append_right _ he)
  refine Core_mk (t := t) h (by omega) (TOk_u (TOk_u h.1 hp) hp2) (fun n _ hnt => uV_o hnt) ?_ ?_ ?_ ?_ ?_ ?_
  · intro n hn hnt e he k hk hk32 hlk
    have k1 : k ≠ i := by have := hne n hn hnt e he; omega
    have k2 : k ≠ q := by have := hneq n hn e he; omega
    rw [uP_o k2, uP_o k1, if_neg k2]
    exact ⟨hlk, rfl⟩
  · intro e he
    rw [uV_s] at he
    have hcase : e = (s2, (q : Int)) ∨ e ∈ V t := by
      rw [hv]
      simp at he ⊢
      rcases he with he | he | he | he
      · exact Or.inr (Or.inl he)
      · exact Or.inr (Or.inr (Or.inl he))
      · exact Or.inl he
      · exact Or.inr (Or.inr (Or.inr he))
    rcases hcase with he | he
    · refine ⟨q, by rw [he], hq32, if_pos rfl, ?_⟩
      rw [uP_s, if_pos ht]
    · obtain ⟨k, q1, q2, q3, q4⟩ := h.2.1 t (by omega) e he
      have k2 : k ≠ q := by have := hneq t (by omega) e he; omega
      refine ⟨k, q1, q2, (if_neg k2).trans q3, ?_⟩
      rw [uP_o k2]
      by_cases hki : k = i
      · subst hki; rw [uP_s, if_pos ht]
      · rw [uP_o hki]; exact q4
  · rw [uV_s]
    have := nd_ins (A := A ++ [(s, (i : Int))]) (B := B) (f := (s2, (q : Int))) (by rw [List.append_assoc]; exact hnd) (by
      intro x hx
      have hx2 : x ∈ V t := by rw [hv]; simp at hx ⊢; exact hx
      exact Core_free h hq (by omega) hx2)
    rw [List.append_assoc] at this
    exact this
  · intro k hk hno
    have hno2 : ∀ e ∈ A ++ (s, (i : Int)) :: (s2, (q : Int)) :: B, e.2 ≠ (k : Int) := by
      have := hno t (by omega)
      rw [uV_s] at this
      exact this
    have k1 : k ≠ i := by
      intro heq; subst heq
      exact hno2 (s, (k : Int)) (by simp) rfl
    have k2 : k ≠ q := by
      intro heq; subst heq
      exact hno2 (s2, (k : Int)) (by simp) rfl
    rw [uP_o k2, uP_o k1]
    refine h.2.2.2.1 k hk ?_
    intro n hn e he
    by_cases hnt : n = t
    · subst hnt
      rw [hv] at he
      refine hno2 e ?_
      simp at he ⊢
      rcases he with he | he | he
      · exact Or.inl he
      · exact Or.inr (Or.inl he)
      · exact Or.inr (Or.inr (Or.inr he))
    · have := hno n hn
      rw [uV_o hnt] at this
      exact this e he
  · rw [hL1, uV_s]
    have h6 := h.2.2.2.2.1
    rw [hL1, hv, LkTo_app, LkTo_cons] at h6
    rw [LkTo_app, LkTo_cons, LkTo_cons, LkTo_c cA, LkTo_c cB]
    refine ⟨h6.1, ?_, ?_, h6.2.2⟩
    · show (uP (uP P i (1, (q : Int) + 1, x)) q (1, (P i).2.1, y) i).2.1 = _
      rw [uP_o hiq, uP_s]
      rfl
    · show (uP (uP P i (1, (q : Int) + 1, x)) q (1, (P i).2.1, y) q).2.1 = _
      rw [uP_s]
      exact h6.2.1
  · rw [hL1, uV_s]
    have e1 : A ++ (s, (i : Int)) :: (s2, (q : Int)) :: B = (A ++ [(s, (i : Int))]) ++ (s2, (q : Int)) :: B := by simp
    rw [e1, lfs_mid, uP_s, lfs_app, lfs_c cA, lfs_c cB, lfs_cons]
    show (lfs P A ++ (s, 0) :: ((uP (uP P i (1, (q : Int) + 1, x)) q (1, (P i).2.1, y) i).2.2.map k1 ++ lfs _ []) ++ _).Pairwise lt2
    rw [uP_o hiq, uP_s]
    have e2 : lfs P A ++ (s, 0) :: (x.map k1 ++ (s2, 0) :: (y.map k1 ++ lfs P B)) = lfs P A ++ (s, 0) :: (x.map k1 ++ lfs (uP (uP P i (1, (q : Int) + 1, x)) q (1, (P i).2.1, y)) []) ++ (s2, 0) :: (y.map k1 ++ lfs P B) := by
      simp [lfs]
    rw [e2] at hpw
    exact hpw
end CO

/-! THE WORLD: a fixed graph of 114 cells; what changes are numbers alone: M k j, the number at slot j of cell k. Cells 0 .. 94 are the class's, 95 .. 113 the model's. -/
def I (z : Int) : Int32 := Int32.ofInt z
def LL (z : Int) : Int64 := Int64.ofInt z
def mrg (C X : Mem) : Mem := fun k j => if k < 95 then C k j else X k j
theorem mrg_c {C X : Mem} {k j : Nat} (h : k < 95) : mrg C X k j = C k j := if_pos h
theorem mrg_x {C X : Mem} {k j : Nat} (h : 95 ≤ k) : mrg C X k j = X k j := if_neg (by omega)
theorem up_c {C X : Mem} {k j : Nat} {z : Int} (h : k < 95) : up (mrg C X) k j z = mrg (up C k j z) X := by
  funext a b
  unfold up mrg
  by_cases h1 : a = k ∧ b = j
  · obtain ⟨rfl, rfl⟩ := h1
    simp [h]
  · by_cases h2 : a < 95 <;> simp [h1, h2]
theorem up_x {C X : Mem} {k j : Nat} {z : Int} (h : 95 ≤ k) : up (mrg C X) k j z = mrg C (up X k j z) := by
  funext a b
  unfold up mrg
  by_cases h1 : a = k ∧ b = j
  · obtain ⟨rfl, rfl⟩ := h1
    have : ¬ a < 95 := by omega
    simp [this]
  · by_cases h2 : a < 95 <;> simp [h1, h2]
/-- the shape of a cell: an array (kind 0 int, 1 boolean, 2 images, 3 pages; its length), or an object (its class; of each field the cell that it names, or none: a number) -/
def shS (k : Nat) : (Nat × Nat) ⊕ (Nat × List (Option Nat)) := match k with
  | 0 => .inr (7, [some 1, some 2, some 3, some 4, some 5, some (10 + 2 * 0)])
  | 1 => .inr (6, [some 20, some (27 + 32), some 21, some 22, none, none])
  | 2 => .inr (0, [some 1, some (27 + 33), some (10 + 2 * 1), some (10 + 2 * 2), none, none, none])
  | 3 => .inr (1, [some 1, some 23, some 24, some (10 + 2 * 3), none])
  | 4 => .inr (5, [some 25, none, none, none, none, none, none, some (10 + 2 * 4), some 26])
  | 5 => .inl (2, 2)
  | 6 => .inr (2, [some 8, none, none, none])
  | 7 => .inr (2, [some 9, none, none, none])
  | 8 => .inl (0, 2048)
  | 9 => .inl (0, 2048)
  | 10 => .inr (3, [some 11, none])
  | 11 => .inl (0, 8)
  | 12 => .inr (3, [some 13, none])
  | 13 => .inl (0, 8)
  | 14 => .inr (3, [some 15, none])
  | 15 => .inl (0, 8)
  | 16 => .inr (3, [some 17, none])
  | 17 => .inl (0, 8)
  | 18 => .inr (3, [some 19, none])
  | 19 => .inl (0, 8)
  | 20 => .inl (3, 32)
  | 21 => .inl (0, 32)
  | 22 => .inl (0, 32)
  | 23 => .inl (1, 32)
  | 24 => .inl (0, 32)
  | 25 => .inl (0, 120)
  | 26 => .inl (0, 3)
  | 95 => .inr (8, [some 96, none, none, none, none, none, none, some 97, some 98, some 99, none, some 100, none, some 101, some 102, some 103, none, none, some 104, none, some 105, some 106, some 107, some 108, none, some 109, some 110, some 111, some 112, some 113, none, none, none, none, none])
  | 96 => .inl (0, 2048)
  | 97 => .inl (0, 48)
  | 98 => .inl (0, 384)
  | 99 => .inl (0, 48)
  | 100 => .inl (0, 8)
  | 101 => .inl (0, 8)
  | 102 => .inl (0, 32)
  | 103 => .inl (0, 32)
  | 104 => .inl (1, 32)
  | 105 => .inl (0, 800)
  | 106 => .inl (0, 800)
  | 107 => .inl (0, 800)
  | 108 => .inl (0, 800)
  | 109 => .inl (0, 800)
  | 110 => .inl (0, 4096)
  | 111 => .inl (0, 2)
  | 112 => .inl (0, 2)
  | 113 => .inl (0, 120)
  | _ => .inl (0, 0)
def sh (k : Nat) : (Nat × Nat) ⊕ (Nat × List (Option Nat)) :=
  if 27 ≤ k ∧ k < 61 then .inr (4, [some (61 + (k - 27))]) else if 61 ≤ k ∧ k < 95 then .inl (0, pl (k - 61)) else shS k
theorem sh_page {i : Nat} (h : i < 34) : sh (27 + i) = .inr (4, [some (61 + i)]) := by
  unfold sh
  rw [if_pos (by omega), show 27 + i - 27 = i by omega]
theorem sh_pb {i : Nat} (h : i < 34) : sh (61 + i) = .inl (0, pl i) := by
  unfold sh
  rw [if_neg (by omega), if_pos (by omega), show 61 + i - 61 = i by omega]
theorem sh_key {j : Nat} (h : j < 5) : sh (10 + 2 * j) = .inr (3, [some (11 + 2 * j), none]) := by
  rcases (show j = 0 ∨ j = 1 ∨ j = 2 ∨ j = 3 ∨ j = 4 by omega) with rfl | rfl | rfl | rfl | rfl <;> rfl
theorem sh_kl {j : Nat} (h : j < 5) : sh (11 + 2 * j) = .inl (0, 8) := by
  rcases (show j = 0 ∨ j = 1 ∨ j = 2 ∨ j = 3 ∨ j = 4 by omega) with rfl | rfl | rfl | rfl | rfl <;> rfl
theorem sh_img {j : Nat} (h : j < 2) : sh (6 + j) = .inr (2, [some (8 + j), none, none, none]) := by
  rcases (show j = 0 ∨ j = 1 by omega) with rfl | rfl <;> rfl
theorem sh_ib {j : Nat} (h : j < 2) : sh (8 + j) = .inl (0, 2048) := by
  rcases (show j = 0 ∨ j = 1 by omega) with rfl | rfl <;> rfl
/-- what is fixed in a run: where classes and slots are, the array classes, the cells' addresses, which cells may change, the texts' cells -/
abbrev GT : Type := va_G × (Nat → ClassId) × (Nat → Nat) × (Nat → Prop) × (Nat → Nat) × (Nat → Nat)
def gD (g : GT) : va_G := g.1
def gC (g : GT) : Nat → ClassId := g.2.1
def gA (g : GT) : Nat → Nat := g.2.2.1
def gS (g : GT) : Nat → Prop := g.2.2.2.1
def gK (g : GT) : Nat → Nat := g.2.2.2.2.1
def gV (g : GT) : Nat → Nat := g.2.2.2.2.2
abbrev vwCl : List vw_C := [(RX0, TX0, 7), (RX1, TX1, 5), (RX2, TX2, 4), (RX3, TX3, 2), (RX4, TX4, 1), (RX5, TX5, 9), (RX6, TX6, 6), (RX7, TX7, 6), (RX8, TX8, 35)]
def tys (g : GT) : List (ClassId × FieldType) := [(gC g 0, .int), (gC g 1, .boolean), (gC g 2, .object "SortedPages$Image"), (gC g 3, .object "SortedPages$Page")]
def fv (g : GT) (M : Mem) (k : Nat) : Nat → List (Option Nat) → List Value
  | _, [] => []
  | j, some k' :: r => .ref (gA g k') :: fv g M k (j + 1) r
  | j, none :: r => .int (I (M k j)) :: fv g M k (j + 1) r
def rb (t : Nat) : Nat := if t = 2 then 6 else 27
def av (g : GT) (M : Mem) (k t n : Nat) : vp_A := if t < 2 then (n, .inl (fun j => I (M k j))) else (n, .inr (.inr (.inr (.inr (fun j => some (gA g (rb t + j)))))))
def cellAt (g : GT) (M : Mem) (k : Nat) : va_E := match sh k with
  | .inl (t, n) => .inl (gC g t, av g M k t n)
  | .inr (ci, fl) => .inr (ci, fv g M k 0 fl)
def wsM (g : GT) (M : Mem) : va_W := (List.range 114).map (fun k => (gA g k, cellAt g M k))
theorem wsM_at {g : GT} {M : Mem} {k : Nat} (h : k < 114) : (wsM g M)[k]? = some (gA g k, cellAt g M k) := by
  simp [wsM, h]
theorem wsM_len {g : GT} {M : Mem} : (wsM g M).length = 114 := by simp [wsM]
theorem wsM_set {g : GT} {M M' : Mem} {k : Nat} {e : va_E} (h : k < 114) (he : cellAt g M' k = e) (ho : ∀ j, j ≠ k → cellAt g M' j = cellAt g M j) : (wsM g M).set k (gA g k, e) = wsM g M' := by
  apply List.ext_getElem?
  intro j
  rw [List.getElem?_set]
  by_cases hj : k = j
  · subst hj
    rw [if_pos rfl, if_pos (by rw [wsM_len]; exact h), wsM_at h, he]
  · rw [if_neg hj]
    by_cases hl : j < 114
    · rw [wsM_at hl, wsM_at hl, ho j (fun e => hj e.symm)]
    · rw [List.getElem?_eq_none (by rw [wsM_len]; omega), List.getElem?_eq_none (by rw [wsM_len]; omega)]
theorem wsM_D {g : GT} {A : Nat → Prop} {M M' : Mem} (h : va_D A (wsM g M)) : va_D A (wsM g M') := by
  have hh : ∀ (M : Mem) (k : Nat) (q : Nat × va_E), (wsM g M)[k]? = some q → k < 114 ∧ q.1 = gA g k := by
    intro M k q hq
    have hk : k < 114 := by
      rcases Nat.lt_or_ge k 114 with h | h
      · exact h
      · rw [List.getElem?_eq_none (by rw [wsM_len]; omega)] at hq; cases hq
    rw [wsM_at hk] at hq
    cases hq
    exact ⟨hk, rfl⟩
  refine ⟨fun i j p q hp hq e => ?_, fun k q hq => ?_⟩
  · obtain ⟨h1, h2⟩ := hh M' i p hp
    obtain ⟨h3, h4⟩ := hh M' j q hq
    exact h.1 i j _ _ (wsM_at h1) (wsM_at h3) (by rw [h2, h4] at e; exact e)
  · obtain ⟨h1, h2⟩ := hh M' k q hq
    rw [h2]
    exact h.2 k _ (wsM_at h1)
theorem cellAt_o {g : GT} {M : Mem} {k ci : Nat} {fl : List (Option Nat)} (h : sh k = .inr (ci, fl)) : cellAt g M k = .inr (ci, fv g M k 0 fl) := by
  unfold cellAt; rw [h]
theorem cellAt_a {g : GT} {M : Mem} {k t n : Nat} (h : sh k = .inl (t, n)) : cellAt g M k = .inl (gC g t, av g M k t n) := by
  unfold cellAt; rw [h]
theorem fv_get_n {g : GT} {M : Mem} {k : Nat} : ∀ {fl : List (Option Nat)} {b j : Nat}, fl[j]? = some none → (fv g M k b fl)[j]? = some (.int (I (M k (b + j))))
  | [], b, j, h => by simp at h
  | some x :: r, b, 0, h => by simp at h
  | none :: r, b, 0, h => by simp [fv]
  | some x :: r, b, j + 1, h => by
    have := fv_get_n (g := g) (M := M) (k := k) (fl := r) (b := b + 1) (j := j) (by simpa using h)
    simpa [fv, Nat.add_assoc, Nat.add_comm 1 j] using this
  | none :: r, b, j + 1, h => by
    have := fv_get_n (g := g) (M := M) (k := k) (fl := r) (b := b + 1) (j := j) (by simpa using h)
    simpa [fv, Nat.add_assoc, Nat.add_comm 1 j] using this
theorem fv_get_s {g : GT} {M : Mem} {k k' : Nat} : ∀ {fl : List (Option Nat)} {b j : Nat}, fl[j]? = some (some k') → (fv g M k b fl)[j]? = some (.ref (gA g k'))
  | [], b, j, h => by simp at h
  | some x :: r, b, 0, h => by simp at h; subst h; simp [fv]
  | none :: r, b, 0, h => by simp at h
  | some x :: r, b, j + 1, h => by
    have := fv_get_s (g := g) (M := M) (k := k) (k' := k') (fl := r) (b := b + 1) (j := j) (by simpa using h)
    simpa [fv] using this
  | none :: r, b, j + 1, h => by
    have := fv_get_s (g := g) (M := M) (k := k) (k' := k') (fl := r) (b := b + 1) (j := j) (by simpa using h)
    simpa [fv] using this
theorem fv_len {g : GT} {M : Mem} {k : Nat} : ∀ {fl : List (Option Nat)} {b : Nat}, (fv g M k b fl).length = fl.length
  | [], b => rfl
  | some x :: r, b => by simp [fv, fv_len (fl := r)]
  | none :: r, b => by simp [fv, fv_len (fl := r)]
theorem fv_cong {g : GT} {M M' : Mem} {k : Nat} : ∀ {fl : List (Option Nat)} {b : Nat}, (∀ j, b ≤ j → M k j = M' k j) → fv g M k b fl = fv g M' k b fl
  | [], b, h => rfl
  | some x :: r, b, h => by simp [fv, fv_cong (g := g) (M := M) (M' := M') (k := k) (fl := r) (b := b + 1) (fun j hj => h j (by omega))]
  | none :: r, b, h => by simp [fv, fv_cong (g := g) (M := M) (M' := M') (k := k) (fl := r) (b := b + 1) (fun j hj => h j (by omega)), h b (Nat.le_refl b)]
theorem fv_set {g : GT} {M : Mem} {k : Nat} {z : Int} : ∀ {fl : List (Option Nat)} {b j : Nat}, fl[j]? = some none → (fv g M k b fl).set j (.int (I z)) = fv g (up M k (b + j) z) k b fl
  | [], b, j, h => by simp at h
  | some x :: r, b, 0, h => by simp at h
  | none :: r, b, 0, h => by
    have e : fv g (up M k b z) k (b + 1) r = fv g M k (b + 1) r := fv_cong (fun j hj => by unfold up; rw [if_neg (by omega)])
    simp [fv, e, up]
  | some x :: r, b, j + 1, h => by
    have := fv_set (g := g) (M := M) (k := k) (z := z) (fl := r) (b := b + 1) (j := j) (by simpa using h)
    simp only [fv, List.set_cons_succ]
    rw [this, show b + 1 + j = b + (j + 1) by omega]
  | none :: r, b, j + 1, h => by
    have := fv_set (g := g) (M := M) (k := k) (z := z) (fl := r) (b := b + 1) (j := j) (by simpa using h)
    simp only [fv, List.set_cons_succ]
    rw [this, show b + 1 + j = b + (j + 1) by omega]
    have e : up M k (b + (j + 1)) z k b = M k b := by unfold up; rw [if_neg (by omega)]
    rw [e]
theorem cellAt_other {g : GT} {M : Mem} {k j i : Nat} {z : Int} (h : i ≠ k) : cellAt g (up M k j z) i = cellAt g M i := by
  have hu : ∀ b, up M k j z i b = M i b := fun b => by unfold up; rw [if_neg (fun q => h q.1)]
  unfold cellAt
  split
  · simp only [av, hu]
  · rw [fv_cong (fun b _ => hu b)]
theorem ws_putf {g : GT} {M : Mem} {k j ci : Nat} {fl : List (Option Nat)} {z : Int} (hk : k < 114) (h : sh k = .inr (ci, fl)) (hj : fl[j]? = some none) :
    (wsM g M).set k (gA g k, .inr (ci, (fv g M k 0 fl).set j (.int (I z)))) = wsM g (up M k j z) := by
  refine wsM_set hk ?_ (fun i hi => cellAt_other hi)
  rw [cellAt_o h, fv_set hj, Nat.zero_add]
theorem ws_puta {g : GT} {M : Mem} {k j t n : Nat} {z : Int} (hk : k < 114) (h : sh k = .inl (t, n)) (ht : t < 2) :
    (wsM g M).set k (gA g k, .inl (gC g t, n, .inl (upd (fun b => I (M k b)) j (I z)))) = wsM g (up M k j z) := by
  refine wsM_set hk ?_ (fun i hi => cellAt_other hi)
  rw [cellAt_a h, av, if_pos ht]
  congr 4
  funext b
  by_cases hb : b = j
  · subst hb
    simp [up, upd]
  · simp [up, upd, hb]
/-! the tables: words that go from caller to callee (TB), those that don't (NS: links between nest mates) -/
def TB : List Cond := lw_tbl.filter goodWord
def isN : Cond → Bool
  | .fieldLinkNest .. => true
  | .methodLinkNest .. => true
  | _ => false
def NS : List Cond := lw_tbl.filter isN
theorem TB_good {w : Cond} (h : w ∈ TB) : goodWord w = true := (List.mem_filter.mp h).2
theorem TB_GoodIn {ws : List Cond} (h : ∀ w ∈ ws, w ∈ TB) : GoodIn TB ws := fun w hw => ⟨h w hw, good_of_word (TB_good (h w hw))⟩
def Ext (g : GT) (U : State) : Prop := (∀ w ∈ NS, va_Nw w U) ∧ vk_S 3 txL txB (gK g) (gV g) (gS g) U U.heap ∧ vk_R RX5 51 "put" (gK g 0) U ∧ vk_R RX5 70 "take" (gK g 1) U ∧ vk_R RX5 72 "load" (gK g 2) U ∧ va_Z "java/lang/String" "COMPACT_STRINGS" "Z" (.int 1) (gS g) U U.heap ∧ (va_Z "jdk/internal/util/Preconditions" "SIOOBE_FORMATTER" "Ljava/util/function/BiFunction;" .null (gS g) U U.heap ∨ ∃ t : Nat, va_Z "jdk/internal/util/Preconditions" "SIOOBE_FORMATTER" "Ljava/util/function/BiFunction;" (.ref t) (gS g) U U.heap)
def World (g : GT) (M : Mem) (U : State) : Prop := va_P (gD g) vwCl (wsM g M) U.heap ∧ va_K (gD g) vwCl (tys g) U ∧ va_D (gS g) (wsM g M) ∧ Ext g U
theorem NS_warm {w : Cond} {s U : State} (hw : isN w = true) (hW : s.WarmedH U.vm) (h : va_Nw w s) : va_Nw w U := by
  cases w <;> first | exact va_Nw.warmF hW h | exact va_Nw.warmM hW h | (simp [isN] at hw)
theorem Ext.warm {g : GT} {s t : State} (h : Ext g s) (hW : s.WarmedH t.vm) (hk : ∀ q : Nat, q < s.heap.size → ¬ gS g q → t.heap[q]? = s.heap[q]?) : Ext g t := by
  obtain ⟨h1, h2, h3, h4, h5, h6, h7⟩ := h
  exact ⟨fun w hw => NS_warm (List.mem_filter.mp hw).2 hW (h1 w hw), vk_S.moved hW.alike (vk_S.kept h2 hk), vk_R.warm hW h3, vk_R.warm hW h4, vk_R.warm hW h5, va_Z.moved hW.alike (va_Z.kept h6 hk), h7.imp (fun q => va_Z.moved hW.alike (va_Z.kept q hk)) (fun ⟨t, q⟩ => ⟨t, va_Z.moved hW.alike (va_Z.kept q hk)⟩)⟩
theorem Ext.same {g : GT} {s t : State} (h : Ext g s) (hv : s.vm = t.vm) (hh : t.heap = s.heap) : Ext g t := by
  obtain ⟨h1, h2, h3, h4, h5, h6, h7⟩ := h
  have hk : ∀ q : Nat, q < s.heap.size → ¬ gS g q → t.heap[q]? = s.heap[q]? := fun q _ _ => by rw [hh]
  have hal : s.vm.Alike t.vm := by rw [hv]; exact Vm.Alike.refl _
  exact ⟨fun w hw => va_Nw.same (by have := (List.mem_filter.mp hw).2; cases w <;> first | rfl | (simp [isN] at this)) hv (h1 w hw), vk_S.moved hal (vk_S.kept h2 hk), vk_R.same hv.symm h3, vk_R.same hv.symm h4, vk_R.same hv.symm h5, va_Z.moved hal (va_Z.kept h6 hk), h7.imp (fun q => va_Z.moved hal (va_Z.kept q hk)) (fun ⟨t, q⟩ => ⟨t, va_Z.moved hal (va_Z.kept q hk)⟩)⟩

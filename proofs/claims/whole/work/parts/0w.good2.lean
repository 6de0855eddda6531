/-! THE TREE: joining and sharing keep it good. -/
def Two (P : Nat → Pg) (V : Nat → List Ent) (t : Nat) (A1 B1 : List Ent) (sA : List Int) (Ab : Nat) (la : Int) (a0 : List Ent) (e : Ent) (b0 pre : List Ent) (s1 : List Int) (i j : Nat) : Prop := V t = A1 ++ (sA, (Ab : Int)) :: B1 ∧ P Ab = (2, la, a0 ++ e :: b0) ∧ (sA, la) :: a0 = pre ++ [(s1, (i : Int))] ∧ e.2 = (j : Int)
section G2
variable {P P' : Nat → Pg} {L n t i j q root Ab : Nat} {V V' : Nat → List Ent} {lvl lvl' : Nat → Nat} {A B A1 B1 R S a b x y es le re ws a0 b0 pre : List Ent} {e f u v : Ent} {s s1 s2 s3 sA w sp : List Int} {r l l1 l2 z la ll lr sv : Int} {p pi pj pA : Pg}
theorem pw_del {m : Ent} (h : (A ++ m :: B).Pairwise lt2) : (A ++ B).Pairwise lt2 := by
  rw [List.pairwise_append] at h ⊢
  exact ⟨h.1, (List.pairwise_cons.mp h.2.1).2, fun a ha b hb => h.2.2 a ha b (List.mem_cons_of_mem _ hb)⟩
theorem two_V (hg : Good0 P root L V lvl) (ht : t + 1 < L) (h : Two P V t A1 B1 sA Ab la a0 e b0 pre s1 i j) : V (t + 1) = (exp P A1 ++ pre) ++ (s1, (i : Int)) :: (e.1, (j : Int)) :: (b0 ++ exp P B1) := by
  obtain ⟨h1, h2, h3, h4⟩ := h
  rw [hg.2.2.1 t ht, h1, exp_app, exp_cons]
  show exp P A1 ++ (sA, (P Ab).2.1) :: ((P Ab).2.2 ++ exp P B1) = _
  rw [h2]
  show exp P A1 ++ (sA, la) :: ((a0 ++ e :: b0) ++ exp P B1) = _
  have : (sA, la) :: ((a0 ++ e :: b0) ++ exp P B1) = ((sA, la) :: a0) ++ e :: (b0 ++ exp P B1) := by simp
  rw [this, h3, ← h4]
  simp
theorem two_3 (hg : Good0 P root L V lvl) (ht : t + 1 < L) (h : Two P V t A1 B1 sA Ab la a0 e b0 pre s1 i j) : i < 32 ∧ j < 32 ∧ Ab < 32 ∧ i ≠ j ∧ i ≠ Ab ∧ j ≠ Ab ∧ lvl i = t + 1 ∧ lvl j = t + 1 ∧ lvl Ab = t ∧ (P Ab).1 = 2 ∧ (P i).1 = (if t + 2 = L then 1 else 2) ∧ (P j).1 = (if t + 2 = L then 1 else 2) := three (sA := sA) hg.1 ht (two_V hg ht h) (by rw [h.1]; simp)
theorem two_link (hg : Good0 P root L V lvl) (ht : t + 2 = L) (h : Two P V t A1 B1 sA Ab la a0 e b0 pre s1 i j) : (P i).2.1 = (j : Int) + 1 ∧ (P j).2.1 = nxx (b0 ++ exp P B1) 0 ∧ LkTo P (exp P A1 ++ pre) ((i : Int) + 1) ∧ LkTo P (b0 ++ exp P B1) 0 := by
  have hv := two_V hg (by omega) h
  have h6 := hg.1.2.2.2.2.1
  rw [show L - 1 = t + 1 by omega, hv, LkTo_app, LkTo_cons, LkTo_cons] at h6
  exact ⟨h6.2.1, h6.2.2.1, h6.1, h6.2.2.2⟩
theorem two_pw (hg : Good0 P root L V lvl) (ht : t + 2 = L) (h : Two P V t A1 B1 sA Ab la a0 e b0 pre s1 i j) : ((lfs P (exp P A1 ++ pre) ++ [(s1, 0)]) ++ ((P i).2.2 ++ (P j).2.2).map k1 ++ lfs P (b0 ++ exp P B1)).Pairwise lt2 := by
  have hv := two_V hg (by omega) h
  have h7 := hg.1.2.2.2.2.2
  have hv2 : V (t + 1) = ((exp P A1 ++ pre) ++ [(s1, (i : Int))]) ++ (e.1, (j : Int)) :: (b0 ++ exp P B1) := by rw [hv]; simp
  rw [show L - 1 = t + 1 by omega, hv2, lfs_mid, lfs_app, lfs_cons] at h7
  have h8 := pw_del h7
  have : (lfs P (exp P A1 ++ pre) ++ [(s1, 0)]) ++ ((P i).2.2 ++ (P j).2.2).map k1 ++ lfs P (b0 ++ exp P B1) = lfs P (exp P A1 ++ pre) ++ (s1, 0) :: ((P i).2.2.map k1 ++ lfs P []) ++ ((P j).2.2.map k1 ++ lfs P (b0 ++ exp P B1)) := by
    simp [lfs]
  rw [this]
  exact h8
theorem Ws_ok (hw : Ws sv e lr le re ws) (hle : EsOk le) (hre : EsOk re) (he : EOk e) (hlr : 0 ≤ lr ∧ lr ≤ 255) : EsOk ws := by
  rcases hw with ⟨_, h⟩ | ⟨_, h⟩
  · rw [h]; exact EsOk_app.mpr ⟨hle, hre⟩
  · rw [h]; exact EsOk_app.mpr ⟨hle, EsOk_cons.mpr ⟨⟨he.1, he.2.1, he.2.2.1, hlr⟩, hre⟩⟩
theorem good_join (hg : Good0 P root L V lvl) (ht : t + 1 < L) (h : Two P V t A1 B1 sA Ab la a0 e b0 pre s1 i j) (hpi : P i = (sv, ll, le)) (hpj : P j = (sv, lr, re)) (hw : Ws sv e lr le re ws) (h61 : szs ws ≤ 61) : Good0 (uP (uP (uP P i (sv, if sv = 1 then lr else ll, ws)) j (0, 0, [])) Ab (2, la, a0 ++ b0)) root L (uV V (t + 1) ((exp P A1 ++ pre) ++ (s1, (i : Int)) :: (b0 ++ exp P B1))) lvl := by
  have hv := two_V hg ht h
  obtain ⟨i32, j32, b32, hij, hib, hjb, li, lj, lb, sb, si, sj⟩ := two_3 hg ht h
  have hcore := hg.1
  have oi := hcore.1 i i32
  have oj := hcore.1 j j32
  have ob := hcore.1 Ab b32
  rw [hpi] at oi
  rw [hpj] at oj
  rw [h.2.1] at ob
  have he : EOk e := EsOk_mid ob.1
  have hws := Ws_ok hw oi.1 oj.1 he oj.2.2.2
  have hA : (sA, (Ab : Int)) ∈ V t := by rw [h.1]; simp
  have o1 : POk (sv, if sv = 1 then lr else ll, ws) := by
    refine ⟨hws, h61, oi.2.2.1, ?_⟩
    show 0 ≤ (if sv = 1 then lr else ll) ∧ (if sv = 1 then lr else ll) ≤ 255
    split
    · exact oj.2.2.2
    · exact oi.2.2.2
  have oA : POk (2, la, a0 ++ b0) := by
    have h1 := EsOk_app.mp ob.1
    refine ⟨EsOk_app.mpr ⟨h1.1, (EsOk_cons.mp h1.2).2⟩, ?_, ob.2.2.1, ob.2.2.2⟩
    have := ob.2.1
    show szs (a0 ++ b0) ≤ 61
    have h2 : szs (a0 ++ e :: b0) ≤ 61 := this
    rw [szs_app, szs_cons] at h2
    rw [szs_app]; omega
  have sd : ∀ x ∈ (exp P A1 ++ pre) ++ (b0 ++ exp P B1), uP (uP (uP P i (sv, if sv = 1 then lr else ll, ws)) j (0, 0, [])) Ab (2, la, a0 ++ b0) x.2.toNat = P x.2.toNat := exp_sd hcore ht hv (Or.inr (Or.inl rfl)) (Or.inr (Or.inr rfl)) (Or.inl (by omega))
  have sdA : ∀ x ∈ exp P A1 ++ pre, uP (uP (uP P i (sv, if sv = 1 then lr else ll, ws)) j (0, 0, [])) Ab (2, la, a0 ++ b0) x.2.toNat = P x.2.toNat := fun x hx => sd x (List.mem_append_left _ hx)
  have sdB : ∀ x ∈ b0 ++ exp P B1, uP (uP (uP P i (sv, if sv = 1 then lr else ll, ws)) j (0, 0, [])) Ab (2, la, a0 ++ b0) x.2.toNat = P x.2.toNat := fun x hx => sd x (List.mem_append_right _ hx)
  have ei : uP (uP (uP P i (sv, if sv = 1 then lr else ll, ws)) j (0, 0, [])) Ab (2, la, a0 ++ b0) i = (sv, if sv = 1 then lr else ll, ws) := by rw [uP_o hib, uP_o hij, uP_s]
  have hc' : Core (uP (uP (uP P i (sv, if sv = 1 then lr else ll, ws)) j (0, 0, [])) Ab (2, la, a0 ++ b0)) L (uV V (t + 1) ((exp P A1 ++ pre) ++ (s1, (i : Int)) :: (b0 ++ exp P B1))) lvl := by
    refine core_join hcore ht hv hA o1 (by rw [hpi]) oA rfl ?_ ?_
    · by_cases hl : t + 2 = L
      · rw [show L - 1 = t + 1 by omega, uV_s, LkTo_app, LkTo_cons, LkTo_c sdA, LkTo_c sdB]
        obtain ⟨k1, k2, k3, k4⟩ := two_link hg hl h
        refine ⟨k3, ?_, k4⟩
        show (uP (uP (uP P i (sv, if sv = 1 then lr else ll, ws)) j (0, 0, [])) Ab (2, la, a0 ++ b0) i).2.1 = _
        rw [if_pos hl, hpi] at si
        have si : sv = 1 := si
        rw [ei]
        show (if sv = 1 then lr else ll) = _
        rw [if_pos si, ← k2, hpj]
      · rw [uV_o (by omega), LkTo_c (exp_3 hcore (by omega) (by omega) (by omega) (by omega))]
        exact hcore.2.2.2.2.1
    · by_cases hl : t + 2 = L
      · rw [show L - 1 = t + 1 by omega, uV_s, lfs_mid, ei, lfs_c sdA, lfs_c sdB]
        have h8 := two_pw hg hl h
        rw [if_pos hl, hpi] at si
        have si : sv = 1 := si
        rcases hw with ⟨_, hw⟩ | ⟨hw, _⟩
        · rw [hpi, hpj] at h8
          have : lfs P (exp P A1 ++ pre) ++ (s1, 0) :: (ws.map k1 ++ lfs P (b0 ++ exp P B1)) = (lfs P (exp P A1 ++ pre) ++ [(s1, 0)]) ++ (le ++ re).map k1 ++ lfs P (b0 ++ exp P B1) := by rw [hw]; simp
          show (lfs P (exp P A1 ++ pre) ++ (s1, 0) :: (ws.map k1 ++ lfs P (b0 ++ exp P B1))).Pairwise lt2
          rw [this]
          exact h8
        · omega
      · rw [uV_o (by omega), lfs_c (exp_3 hcore (by omega) (by omega) (by omega) (by omega))]
        exact hcore.2.2.2.2.2
  refine ⟨hc', by rw [uV_o (by omega)]; exact hg.2.1, ?_, hg.2.2.2⟩
  intro n hn
  by_cases hnt : n = t
  · subst hnt
    rw [uV_s, uV_o (by omega), h.1, exp_app, exp_cons]
    have eu := exp_up (p1 := (sv, if sv = 1 then lr else ll, ws)) (p2 := (0, 0, [])) (p3 := (2, la, a0 ++ b0)) hcore (by omega) h.1 (k1 := i) (k2 := j) (k3 := Ab) (Or.inl (by omega)) (Or.inl (by omega)) (Or.inr rfl)
    rw [exp_c (R := A1) (fun x hx => eu x (List.mem_append_left _ hx)), exp_c (R := B1) (fun x hx => eu x (List.mem_append_right _ hx))]
    show _ = _ ++ (sA, (uP (uP (uP P i (sv, if sv = 1 then lr else ll, ws)) j (0, 0, [])) Ab (2, la, a0 ++ b0) Ab).2.1) :: ((uP (uP (uP P i (sv, if sv = 1 then lr else ll, ws)) j (0, 0, [])) Ab (2, la, a0 ++ b0) Ab).2.2 ++ _)
    rw [uP_s]
    have : (sA, la) :: ((a0 ++ b0) ++ exp P B1) = ((sA, la) :: a0) ++ (b0 ++ exp P B1) := by simp
    show _ = _ ++ (sA, la) :: ((a0 ++ b0) ++ exp P B1)
    rw [this, h.2.2.1]
    simp
  · by_cases hnt2 : n = t + 1
    · subst hnt2
      rw [uV_s, uV_o (by omega), hg.2.2.1 _ hn, hv, exp_app (A := exp P A1 ++ pre), exp_cons, exp_cons, exp_app (A := exp P A1 ++ pre), exp_cons, exp_c sdA, exp_c sdB]
      show _ ++ (s1, (P i).2.1) :: ((P i).2.2 ++ (e.1, (P j).2.1) :: ((P j).2.2 ++ _)) = _ ++ (s1, (uP (uP (uP P i (sv, if sv = 1 then lr else ll, ws)) j (0, 0, [])) Ab (2, la, a0 ++ b0) i).2.1) :: ((uP (uP (uP P i (sv, if sv = 1 then lr else ll, ws)) j (0, 0, [])) Ab (2, la, a0 ++ b0) i).2.2 ++ _)
      rw [ei, hpi, hpj]
      rw [if_neg (by omega), hpi] at si
      have si : sv = 2 := si
      rcases hw with ⟨hw, _⟩ | ⟨_, hw⟩
      · omega
      · show _ ++ (s1, ll) :: (le ++ (e.1, lr) :: (re ++ _)) = _ ++ (s1, if sv = 1 then lr else ll) :: (ws ++ _)
        rw [if_neg (by omega), hw]
        simp
    · rw [uV_o (by omega), uV_o hnt2, hg.2.2.1 n hn]
      exact (exp_c (exp_3 hcore (by omega) (by omega) (by omega) (by omega))).symm
/-- shared anew: inner ones -/
theorem good_shI (hg : Good0 P root L V lvl) (ht : t + 2 < L) (h : Two P V t A1 B1 sA Ab la a0 e b0 pre s1 i j) (hpi : P i = (2, ll, le)) (hpj : P j = (2, lr, re)) (hws : le ++ (e.1, lr) :: re = x ++ v :: y) (hx : szs x ≤ 61) (hy : szs y ≤ 61) (hfit : szs (a0 ++ (v.1, e.2) :: b0) ≤ 61) : Good0 (uP (uP (uP P Ab (2, la, a0 ++ (v.1, e.2) :: b0)) i (2, ll, x)) j (2, v.2, y)) root L (uV V (t + 1) ((exp P A1 ++ pre) ++ (s1, (i : Int)) :: (v.1, (j : Int)) :: (b0 ++ exp P B1))) lvl := by
  have hv := two_V hg (by omega) h
  obtain ⟨i32, j32, b32, hij, hib, hjb, li, lj, lb, sb, si, sj⟩ := two_3 hg (by omega) h
  have hcore := hg.1
  have oi := hcore.1 i i32
  have oj := hcore.1 j j32
  have ob := hcore.1 Ab b32
  rw [hpi] at oi
  rw [hpj] at oj
  rw [h.2.1] at ob
  have he : EOk e := EsOk_mid ob.1
  have hwok := Ws_ok (sv := 2) (ws := le ++ (e.1, lr) :: re) (Or.inr ⟨rfl, rfl⟩) oi.1 oj.1 he oj.2.2.2
  rw [hws] at hwok
  have ow1 := EsOk_app.mp hwok
  have ow2 := EsOk_cons.mp ow1.2
  have hA : (sA, (Ab : Int)) ∈ V t := by rw [h.1]; simp
  have o1 : POk (2, ll, x) := ⟨ow1.1, hx, oi.2.2.1, oi.2.2.2⟩
  have o2 : POk (2, v.2, y) := ⟨ow2.2, hy, oj.2.2.1, ow2.1.2.2.2⟩
  have oA : POk (2, la, a0 ++ (v.1, e.2) :: b0) := by
    have h1 := EsOk_app.mp ob.1
    exact ⟨EsOk_app.mpr ⟨h1.1, EsOk_cons.mpr ⟨⟨ow2.1.1, ow2.1.2.1, ow2.1.2.2.1, he.2.2.2⟩, (EsOk_cons.mp h1.2).2⟩⟩, hfit, ob.2.2.1, ob.2.2.2⟩
  have sd : ∀ x' ∈ (exp P A1 ++ pre) ++ (b0 ++ exp P B1), uP (uP (uP P Ab (2, la, a0 ++ (v.1, e.2) :: b0)) i (2, ll, x)) j (2, v.2, y) x'.2.toNat = P x'.2.toNat := exp_sd hcore (by omega) hv (Or.inl (by omega)) (Or.inr (Or.inl rfl)) (Or.inr (Or.inr rfl))
  have sdA := fun x' hx' => sd x' (List.mem_append_left _ hx')
  have sdB := fun x' hx' => sd x' (List.mem_append_right _ hx')
  have ei : uP (uP (uP P Ab (2, la, a0 ++ (v.1, e.2) :: b0)) i (2, ll, x)) j (2, v.2, y) i = (2, ll, x) := by rw [uP_o hij, uP_s]
  have eb : uP (uP (uP P Ab (2, la, a0 ++ (v.1, e.2) :: b0)) i (2, ll, x)) j (2, v.2, y) Ab = (2, la, a0 ++ (v.1, e.2) :: b0) := by rw [uP_o hjb.symm, uP_o hib.symm, uP_s]
  have hc' : Core (uP (uP (uP P Ab (2, la, a0 ++ (v.1, e.2) :: b0)) i (2, ll, x)) j (2, v.2, y)) L (uV V (t + 1) ((exp P A1 ++ pre) ++ (s1, (i : Int)) :: (v.1, (j : Int)) :: (b0 ++ exp P B1))) lvl := by
    refine core_share hcore (by omega) hv hA o1 (by rw [hpi]) o2 (by rw [hpj]) oA rfl ?_ ?_
    · rw [uV_o (by omega), LkTo_c (exp_3 hcore (by omega) (by omega) (by omega) (by omega))]
      exact hcore.2.2.2.2.1
    · rw [uV_o (by omega), lfs_c (exp_3 hcore (by omega) (by omega) (by omega) (by omega))]
      exact hcore.2.2.2.2.2
  refine ⟨hc', by rw [uV_o (by omega)]; exact hg.2.1, ?_, hg.2.2.2⟩
  intro n hn
  by_cases hnt : n = t
  · subst hnt
    rw [uV_s, uV_o (by omega), h.1, exp_app, exp_cons]
    have eu := exp_up (p1 := (2, la, a0 ++ (v.1, e.2) :: b0)) (p2 := (2, ll, x)) (p3 := (2, v.2, y)) hcore (by omega) h.1 (k1 := Ab) (k2 := i) (k3 := j) (Or.inr rfl) (Or.inl (by omega)) (Or.inl (by omega))
    rw [exp_c (R := A1) (fun x hx => eu x (List.mem_append_left _ hx)), exp_c (R := B1) (fun x hx => eu x (List.mem_append_right _ hx))]
    show _ = _ ++ (sA, (uP (uP (uP P Ab (2, la, a0 ++ (v.1, e.2) :: b0)) i (2, ll, x)) j (2, v.2, y) Ab).2.1) :: ((uP (uP (uP P Ab (2, la, a0 ++ (v.1, e.2) :: b0)) i (2, ll, x)) j (2, v.2, y) Ab).2.2 ++ _)
    rw [eb]
    have : (sA, la) :: ((a0 ++ (v.1, e.2) :: b0) ++ exp P B1) = ((sA, la) :: a0) ++ (v.1, e.2) :: (b0 ++ exp P B1) := by simp
    show _ = _ ++ (sA, la) :: ((a0 ++ (v.1, e.2) :: b0) ++ exp P B1)
    rw [this, h.2.2.1, h.2.2.2]
    simp
  · by_cases hnt2 : n = t + 1
    · subst hnt2
      rw [uV_s, uV_o (by omega), hg.2.2.1 _ hn, hv, exp_app (A := exp P A1 ++ pre), exp_cons, exp_cons, exp_app (A := exp P A1 ++ pre), exp_cons, exp_cons, exp_c sdA, exp_c sdB]
      show _ ++ (s1, (P i).2.1) :: ((P i).2.2 ++ (e.1, (P j).2.1) :: ((P j).2.2 ++ _)) = _ ++ (s1, (uP (uP (uP P Ab (2, la, a0 ++ (v.1, e.2) :: b0)) i (2, ll, x)) j (2, v.2, y) i).2.1) :: ((uP (uP (uP P Ab (2, la, a0 ++ (v.1, e.2) :: b0)) i (2, ll, x)) j (2, v.2, y) i).2.2 ++ (v.1, (uP (uP (uP P Ab (2, la, a0 ++ (v.1, e.2) :: b0)) i (2, ll, x)) j (2, v.2, y) j).2.1) :: ((uP (uP (uP P Ab (2, la, a0 ++ (v.1, e.2) :: b0)) i (2, ll, x)) j (2, v.2, y) j).2.2 ++ _))
      rw [ei, uP_s, hpi, hpj]
      show _ ++ (s1, ll) :: (le ++ (e.1, lr) :: (re ++ _)) = _ ++ (s1, ll) :: (x ++ (v.1, v.2) :: (y ++ _))
      have q1 : le ++ (e.1, lr) :: (re ++ exp P (b0 ++ exp P B1)) = (le ++ (e.1, lr) :: re) ++ exp P (b0 ++ exp P B1) := by simp
      rw [q1, hws]
      simp
    · rw [uV_o (by omega), uV_o hnt2, hg.2.2.1 n hn]
      exact (exp_c (exp_3 hcore (by omega) (by omega) (by omega) (by omega))).symm
/-- shared anew: leaves -/
theorem good_shL (hg : Good0 P root L V lvl) (ht : t + 2 = L) (h : Two P V t A1 B1 sA Ab la a0 e b0 pre s1 i j) (hpi : P i = (1, ll, le)) (hpj : P j = (1, lr, re)) (hws : le ++ re = (x ++ [u]) ++ v :: y) (hx : szs (x ++ [u]) ≤ 61) (hy : szs (v :: y) ≤ 61) (hfit : szs (a0 ++ (sep u.1 v.1, e.2) :: b0) ≤ 61) : Good0 (uP (uP (uP P Ab (2, la, a0 ++ (sep u.1 v.1, e.2) :: b0)) i (1, ll, x ++ [u])) j (1, lr, v :: y)) root L (uV V (t + 1) ((exp P A1 ++ pre) ++ (s1, (i : Int)) :: (sep u.1 v.1, (j : Int)) :: (b0 ++ exp P B1))) lvl := by
  have hv := two_V hg (by omega) h
  obtain ⟨i32, j32, b32, hij, hib, hjb, li, lj, lb, sb, si, sj⟩ := two_3 hg (by omega) h
  have hcore := hg.1
  have oi := hcore.1 i i32
  have oj := hcore.1 j j32
  have ob := hcore.1 Ab b32
  rw [hpi] at oi
  rw [hpj] at oj
  rw [h.2.1] at ob
  have he : EOk e := EsOk_mid ob.1
  have hwok : EsOk (le ++ re) := EsOk_app.mpr ⟨oi.1, oj.1⟩
  rw [hws] at hwok
  have ow1 := EsOk_app.mp hwok
  have ow2 := EsOk_cons.mp ow1.2
  have hA : (sA, (Ab : Int)) ∈ V t := by rw [h.1]; simp
  have hpw := two_pw hg ht h
  rw [hpi, hpj] at hpw
  have hpw : ((lfs P (exp P A1 ++ pre) ++ [(s1, 0)]) ++ (le ++ re).map k1 ++ lfs P (b0 ++ exp P B1)).Pairwise lt2 := hpw
  rw [hws] at hpw
  obtain ⟨hc, hpw2⟩ := pw_part hpw
  have hsl := sep_LOk (u := u.1) (EOk_L ow2.1)
  have o1 : POk (1, ll, x ++ [u]) := ⟨ow1.1, hx, oi.2.2.1, oi.2.2.2⟩
  have o2 : POk (1, lr, v :: y) := ⟨ow1.2, hy, oj.2.2.1, oj.2.2.2⟩
  have oA : POk (2, la, a0 ++ (sep u.1 v.1, e.2) :: b0) := by
    have h1 := EsOk_app.mp ob.1
    exact ⟨EsOk_app.mpr ⟨h1.1, EsOk_cons.mpr ⟨⟨sep_pos hc, hsl.1, hsl.2, he.2.2.2⟩, (EsOk_cons.mp h1.2).2⟩⟩, hfit, ob.2.2.1, ob.2.2.2⟩
  have sd : ∀ x' ∈ (exp P A1 ++ pre) ++ (b0 ++ exp P B1), uP (uP (uP P Ab (2, la, a0 ++ (sep u.1 v.1, e.2) :: b0)) i (1, ll, x ++ [u])) j (1, lr, v :: y) x'.2.toNat = P x'.2.toNat := exp_sd hcore (by omega) hv (Or.inl (by omega)) (Or.inr (Or.inl rfl)) (Or.inr (Or.inr rfl))
  have sdA := fun x' hx' => sd x' (List.mem_append_left _ hx')
  have sdB := fun x' hx' => sd x' (List.mem_append_right _ hx')
  have ei : uP (uP (uP P Ab (2, la, a0 ++ (sep u.1 v.1, e.2) :: b0)) i (1, ll, x ++ [u])) j (1, lr, v :: y) i = (1, ll, x ++ [u]) := by rw [uP_o hij, uP_s]
  have eb : uP (uP (uP P Ab (2, la, a0 ++ (sep u.1 v.1, e.2) :: b0)) i (1, ll, x ++ [u])) j (1, lr, v :: y) Ab = (2, la, a0 ++ (sep u.1 v.1, e.2) :: b0) := by rw [uP_o hjb.symm, uP_o hib.symm, uP_s]
  have hc' : Core (uP (uP (uP P Ab (2, la, a0 ++ (sep u.1 v.1, e.2) :: b0)) i (1, ll, x ++ [u])) j (1, lr, v :: y)) L (uV V (t + 1) ((exp P A1 ++ pre) ++ (s1, (i : Int)) :: (sep u.1 v.1, (j : Int)) :: (b0 ++ exp P B1))) lvl := by
    refine core_share hcore (by omega) hv hA o1 (by rw [hpi]) o2 (by rw [hpj]) oA rfl ?_ ?_
    · rw [show L - 1 = t + 1 by omega, uV_s, LkTo_app, LkTo_cons, LkTo_cons, LkTo_c sdA, LkTo_c sdB]
      obtain ⟨k1, k2, k3, k4⟩ := two_link hg ht h
      refine ⟨k3, ?_, ?_, k4⟩
      · show (uP (uP (uP P Ab (2, la, a0 ++ (sep u.1 v.1, e.2) :: b0)) i (1, ll, x ++ [u])) j (1, lr, v :: y) i).2.1 = _
        rw [ei]
        rw [hpi] at k1
        exact k1
      · show (uP (uP (uP P Ab (2, la, a0 ++ (sep u.1 v.1, e.2) :: b0)) i (1, ll, x ++ [u])) j (1, lr, v :: y) j).2.1 = _
        rw [uP_s]
        rw [hpj] at k2
        exact k2
    · have e1 : (exp P A1 ++ pre) ++ (s1, (i : Int)) :: (sep u.1 v.1, (j : Int)) :: (b0 ++ exp P B1) = ((exp P A1 ++ pre) ++ [(s1, (i : Int))]) ++ (sep u.1 v.1, (j : Int)) :: (b0 ++ exp P B1) := by simp
      rw [show L - 1 = t + 1 by omega, uV_s, e1, lfs_mid, uP_s, lfs_app, lfs_c sdA, lfs_c sdB, lfs_cons]
      show (lfs P (exp P A1 ++ pre) ++ (s1, 0) :: ((uP (uP (uP P Ab (2, la, a0 ++ (sep u.1 v.1, e.2) :: b0)) i (1, ll, x ++ [u])) j (1, lr, v :: y) i).2.2.map k1 ++ lfs _ []) ++ _).Pairwise lt2
      rw [ei]
      have e2 : lfs P (exp P A1 ++ pre) ++ (s1, 0) :: ((x ++ [u]).map k1 ++ lfs (uP (uP (uP P Ab (2, la, a0 ++ (sep u.1 v.1, e.2) :: b0)) i (1, ll, x ++ [u])) j (1, lr, v :: y)) []) ++ (sep u.1 v.1, 0) :: ((v :: y).map k1 ++ lfs P (b0 ++ exp P B1)) = (lfs P (exp P A1 ++ pre) ++ [(s1, 0)]) ++ ((x ++ [u]).map k1 ++ (sep u.1 v.1, 0) :: ((v :: y).map k1 ++ lfs P (b0 ++ exp P B1))) := by simp [lfs]
      show (lfs P (exp P A1 ++ pre) ++ (s1, 0) :: ((x ++ [u]).map k1 ++ lfs (uP (uP (uP P Ab (2, la, a0 ++ (sep u.1 v.1, e.2) :: b0)) i (1, ll, x ++ [u])) j (1, lr, v :: y)) []) ++ (sep u.1 v.1, 0) :: ((v :: y).map k1 ++ lfs P (b0 ++ exp P B1))).Pairwise lt2
      rw [e2]
      exact hpw2
  refine ⟨hc', by rw [uV_o (by omega)]; exact hg.2.1, ?_, hg.2.2.2⟩
  intro n hn
  by_cases hnt : n = t
  · subst hnt
    rw [uV_s, uV_o (by omega), h.1, exp_app, exp_cons]
    have eu := exp_up (p1 := (2, la, a0 ++ (sep u.1 v.1, e.2) :: b0)) (p2 := (1, ll, x ++ [u])) (p3 := (1, lr, v :: y)) hcore (by omega) h.1 (k1 := Ab) (k2 := i) (k3 := j) (Or.inr rfl) (Or.inl (by omega)) (Or.inl (by omega))
    rw [exp_c (R := A1) (fun x hx => eu x (List.mem_append_left _ hx)), exp_c (R := B1) (fun x hx => eu x (List.mem_append_right _ hx))]
    show _ = _ ++ (sA, (uP (uP (uP P Ab (2, la, a0 ++ (sep u.1 v.1, e.2) :: b0)) i (1, ll, x ++ [u])) j (1, lr, v :: y) Ab).2.1) :: ((uP (uP (uP P Ab (2, la, a0 ++ (sep u.1 v.1, e.2) :: b0)) i (1, ll, x ++ [u])) j (1, lr, v :: y) Ab).2.2 ++ _)
    rw [eb]
    have : (sA, la) :: ((a0 ++ (sep u.1 v.1, e.2) :: b0) ++ exp P B1) = ((sA, la) :: a0) ++ (sep u.1 v.1, e.2) :: (b0 ++ exp P B1) := by simp
    show _ = _ ++ (sA, la) :: ((a0 ++ (sep u.1 v.1, e.2) :: b0) ++ exp P B1)
    rw [this, h.2.2.1, h.2.2.2]
    simp
  · rw [uV_o (by omega), uV_o (by omega), hg.2.2.1 n hn]
    exact (exp_c (exp_3 hcore (by omega) (by omega) (by omega) (by omega))).symm
/-- the root goes -/
theorem good_lower (hg : Good0 P root L V lvl) (hL : 1 < L) (hp : P root = (2, l, [])) : ∃ r' : Nat, l = (r' : Int) ∧ r' ≠ root ∧ Good0 (uP P root (0, 0, [])) r' (L - 1) (fun n => V (n + 1)) (fun k => lvl k - 1) := by
  have hcore := hg.1
  have h1 := hg.2.2.1 0 (by omega)
  rw [hg.2.1, exp_cons, exp_nil] at h1
  have h1 : V 1 = [([], (P root).2.1)] ++ ((P root).2.2 ++ []) := h1
  rw [hp] at h1
  have h1 : V 1 = [([], l)] := h1
  obtain ⟨k, q1, q2, q3, q4⟩ := hcore.2.1 1 (by omega) ([], l) (by rw [h1]; simp)
  have hr := Core_sort hcore (n := 0) (i := root) (s := []) (by omega) (by rw [hg.2.1]; simp)
  refine ⟨k, q1, by intro heq; subst heq; omega, core_lower hcore hL hg.2.1, ?_, ?_, by omega, by have := hg.2.2.2.2.1; omega, q2⟩
  · show V 1 = _
    rw [h1]
    have : l = (k : Int) := q1
    rw [this]
  · intro n hn
    show V (n + 1 + 1) = _
    rw [hg.2.2.1 (n + 1) (by omega)]
    exact (exp_lv hcore (by omega) (by omega)).symm
end G2

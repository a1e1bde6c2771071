/-! the class: programs by number -/
theorem ngE {n i : Nat} (h1 : 1 ≤ n) (h2 : n < 16) (h3 : i < cnt n) : ng n i = (if n ≤ 1 then (if i < 3 then nm (nI i) else nd (i - 2) 0 nl nl nl)
    else if i < cnt (n - 1) then nd 3 0 (ng (n - 1) i) nl nl
    else if i - cnt (n - 1) < 4 * prs (n - 1) then nd (4 + (i - cnt (n - 1)) / prs (n - 1)) 0 (pt ng (n - 1) ((i - cnt (n - 1)) % prs (n - 1))).1 (pt ng (n - 1) ((i - cnt (n - 1)) % prs (n - 1))).2 nl
    else nd 8 0 (ng (sp3 (n - 1) (i - cnt (n - 1) - 4 * prs (n - 1))).1 ((sp3 (n - 1) (i - cnt (n - 1) - 4 * prs (n - 1))).2 / prs (n - 1 - (sp3 (n - 1) (i - cnt (n - 1) - 4 * prs (n - 1))).1))) (pt ng (n - 1 - (sp3 (n - 1) (i - cnt (n - 1) - 4 * prs (n - 1))).1) ((sp3 (n - 1) (i - cnt (n - 1) - 4 * prs (n - 1))).2 % prs (n - 1 - (sp3 (n - 1) (i - cnt (n - 1) - 4 * prs (n - 1))).1))).1 (pt ng (n - 1 - (sp3 (n - 1) (i - cnt (n - 1) - 4 * prs (n - 1))).1) ((sp3 (n - 1) (i - cnt (n - 1) - 4 * prs (n - 1))).2 % prs (n - 1 - (sp3 (n - 1) (i - cnt (n - 1) - 4 * prs (n - 1))).1))).2) :=
  nt_eq 16 17 n i (by omega) (by omega) h1 h2 h3
/-- the counts of the class -/
def GrR (σ : Sg) : Prop := ∀ i, i < 16 → σ.2.1 2 i = lN (cnt i) ∧ σ.2.1 3 i = lN (prs i)
theorem GrR.gm {S : Nat → Prop} {σ τ : Sg} (h : GrR σ) (g : Gm S σ τ) (h2 : ¬ S 2) (h3 : ¬ S 3) : GrR τ := fun i hi => by
  rw [g.2.1 2 h2, g.2.1 3 h3]
  exact h i hi
/-- what is deferred: sizes and numbers, the next one last -/
abbrev Df : Type := Nat × Nat
def DfR (σ : Sg) (ds : List Df) : Prop := ds.length ≤ 16 ∧ σ.1 1 5 = nI ds.length ∧ ∀ j e, ds[j]? = some e → σ.1 5 j = nI e.1 ∧ σ.2.1 6 j = lN e.2
def dm (ds : List Df) : List (Nat × Int32) := ds.foldl (fun acc x => kv (fl (ng x.1 x.2)) ++ acc) []
def dz (ds : List Df) : Nat := ds.foldl (fun acc x => acc + x.1) 0
theorem dm_s (ds : List Df) (x : Df) : dm (ds ++ [x]) = kv (fl (ng x.1 x.2)) ++ dm ds := by
  unfold dm
  rw [List.foldl_append]
  rfl
theorem dz_s (ds : List Df) (x : Df) : dz (ds ++ [x]) = dz ds + x.1 := by
  unfold dz
  rw [List.foldl_append]
  rfl
def okD (ds : List Df) : Prop := ∀ x, x ∈ ds → 1 ≤ x.1 ∧ x.1 < 16 ∧ x.2 < cnt x.1
theorem okD_s {ds : List Df} {x : Df} : okD (ds ++ [x]) ↔ okD ds ∧ (1 ≤ x.1 ∧ x.1 < 16 ∧ x.2 < cnt x.1) := by
  unfold okD
  refine ⟨fun h => ⟨fun y hy => h y (List.mem_append_left _ hy), h x (by simp)⟩, fun h y hy => ?_⟩
  rcases List.mem_append.mp hy with q | q
  · exact h.1 y q
  · rw [List.mem_singleton.mp q]; exact h.2
theorem dz_len {ds : List Df} (h : okD ds) : ds.length ≤ dz ds := by
  have key : ∀ n (l : List Df), l.length = n → okD l → l.length ≤ dz l := by
    intro n
    induction n with
    | zero => intro l hl _; omega
    | succ n ih =>
      intro l hl ho
      rcases List.eq_nil_or_concat l with e | ⟨l', x, e⟩
      · rw [e] at hl; simp at hl
      · rw [List.concat_eq_append] at e
        subst e
        rw [List.length_append, List.length_singleton] at hl ⊢
        obtain ⟨o1, o2⟩ := okD_s.mp ho
        have := ih l' (by omega) o1
        rw [dz_s]
        omega
  exact key ds.length ds rfl h
section
variable {σ : Sg} {q : Nat} {S : Sg → Prop} {ds : List Df} {xs : List En}
theorem within_sp {n lo hi : Nat} {Q : Int32 → Sg → Prop} (h1 : n < 2147483648) (h2 : lo < 2147483648) (h3 : hi < 2147483648) (hQ : Q (if lo ≤ n ∧ n ≤ hi then 1 else 0) σ) : wX7_within (nI n) (nI lo) (nI hi) σ Q := by
  unfold wX7_within
  by_cases a : n < lo
  · rw [if_pos (nI_lt a h2)]
    rw [if_neg (by omega)] at hQ
    exact hQ
  · rw [if_neg (nI_nlt (by omega) h1)]
    by_cases b : hi < n
    · rw [if_pos (nI_lt b h1)]
      rw [if_neg (by omega)] at hQ
      exact hQ
    · rw [if_neg (nI_nlt (by omega) h3)]
      rw [if_pos (by omega)] at hQ
      exact hQ
theorem many_sp {n : Nat} {Q : Int64 → Sg → Prop} (h : GrR σ) (hn : n ≤ 15) (hQ : Q (lN (cnt n)) σ) : wX1_howMany (nI n) σ Q := by
  unfold wX1_howMany
  refine within_sp (lo := 1) (hi := 15) (by omega) (by omega) (by omega) ?_
  by_cases z : 1 ≤ n
  · rw [if_pos (show 1 ≤ n ∧ n ≤ 15 from ⟨z, hn⟩), if_neg (by decide), ncl (by omega), (h n (by omega)).1]
    exact ⟨vp_in_nI (by omega) (by omega), hQ⟩
  · rw [if_neg (show ¬ (1 ≤ n ∧ n ≤ 15) by omega), if_pos rfl]
    have e : n = 0 := by omega
    subst e
    exact hQ
theorem defer_sp {s i : Nat} (h : DfR σ ds) (hl : ds.length ≤ 15) (hS : ∀ τ, Gm (fun i => i = 1 ∨ i = 5 ∨ i = 6) σ τ → DfR τ (ds ++ [(s, i)]) → S τ) : wX1_defer (nI s) (lN i) σ S := by
  obtain ⟨a, b, c⟩ := h
  unfold wX1_defer
  rw [b, if_neg (nI_pos (by omega)), if_neg (show ¬ (15 : Int32) < nI ds.length from nI_nlt (a := 15) (by omega) (by omega)), ncl (by omega)]
  refine ⟨vp_in_nI (by omega) (by omega), lt_i (fun p ep => ?_)⟩
  have p5 : p.1 1 5 = nI ds.length := by rw [ep, sI_1, up_n _ _ _ _ (by omega)]; exact b
  rw [p5, ncl (by omega)]
  refine ⟨vp_in_nI (by omega) (by omega), lt_i (fun u eu => ?_)⟩
  have u5 : u.1 1 5 = nI ds.length := by rw [eu, sJ_1]; exact p5
  rw [u5, nI_1]
  refine lt_i (fun z ez => ?_)
  have z5 : z.1 5 = upd (σ.1 5) ds.length (nI s) := by rw [ez, sI_1, up_n _ _ _ _ (by omega), eu, sJ_1, ep, sI_1, up_s]
  have z6 : z.2.1 6 = vp_updL (σ.2.1 6) ds.length (lN i) := by rw [ez, sI_2, eu, sJ_2, up_s, ep, sI_2]
  refine hS z ?_ ⟨by rw [List.length_append, List.length_singleton]; omega, by rw [ez, sI_1, up_s, ud_s, List.length_append, List.length_singleton], fun j e he => ?_⟩
  · refine ⟨fun j hj => ?_, fun j hj => ?_, fun j hj => ?_⟩
    · rw [ez, sI_1, up_n _ _ _ _ (by omega), eu, sJ_1, ep, sI_1, up_n _ _ _ _ (by omega)]
    · rw [ez, sI_2, eu, sJ_2, up_n _ _ _ _ (by omega), ep, sI_2]
    · rw [ez, sI_2, eu, sJ_3, ep, sI_2]
  · rw [z5, z6]
    by_cases y : j < ds.length
    · rw [List.getElem?_append_left y] at he
      rw [ud_n _ _ _ _ (by omega), pk_uLn (by omega)]
      exact c j e he
    · have hj := (List.getElem?_eq_some_iff.mp he).1
      rw [List.length_append, List.length_singleton] at hj
      have ej : j = ds.length := by omega
      subst ej
      rw [List.getElem?_append_right (Nat.le_refl _), Nat.sub_self] at he
      have he' : (s, i) = e := Option.some.inj he
      rw [ud_s, pk_uLs, ← he']
      exact ⟨rfl, rfl⟩
theorem def2_lp {n : Nat} (hn : n < 16) (h : DfR σ ds) (hg : GrR σ) (hl : ds.length + 2 ≤ 16) : ∀ (k s l : Nat), s + k = n → 1 ≤ s → l < sr (f2 n) k s → sr (f2 n) k s < 1000000000000000 →
    (∀ τ, Gm (fun i => i = 1 ∨ i = 5 ∨ i = 6) σ τ → DfR τ (ds ++ [(n - (sp (f2 n) k s l).1, (sp (f2 n) k s l).2 % cnt (n - (sp (f2 n) k s l).1))] ++ [((sp (f2 n) k s l).1, (sp (f2 n) k s l).2 / cnt (n - (sp (f2 n) k s l).1))]) → S τ) → wX1_deferTwo_6 S (k + 1) (nI n) (lN l) (nI s) σ := by
  intro k
  induction k with
  | zero => intro s l h1 h2 h3; simp [sr] at h3
  | succ k ihk =>
    intro s l h1 h2 h3 h4 hS
    have hsr := sr_le (f := f2 n) (k := k) (s := s)
    have cp := cnt_pos (n - s) (by omega) (by omega)
    have c1 := (cnt_lt (n - s) (by omega)).1
    have ef : f2 n s = cnt s * cnt (n - s) := rfl
    show wX1_deferTwo_6_b (wX1_deferTwo_6 S (k + 1)) (nI n) (lN l) (nI s) σ S
    unfold wX1_deferTwo_6_b
    rw [if_neg (nI_ge (by omega) (by omega)), pk_sub (by omega)]
    refine many_sp hg (by omega) (many_sp hg (by omega) ?_)
    rw [lN_mul, ← ef]
    refine lt_i (fun x ex => ?_)
    rw [ex, if_neg (show ¬ lN (cnt (n - s)) ≤ (0 : Int64) from fun z => absurd ((pk_lLE (b := 0) (by omega) (by omega)).mp z) (by omega))]
    rw [sp] at hS
    by_cases q : l < f2 n s
    · rw [if_pos q] at hS
      rw [if_neg (fun z => absurd ((pk_lLE (by omega) (by omega)).mp z) (by omega))]
      rw [pk_lDiv (by omega) cp (by omega), lN_mul, lN_sub (Nat.div_mul_le_self _ _), show l - l / cnt (n - s) * cnt (n - s) = l % cnt (n - s) by rw [Nat.mod_eq_sub_div_mul]]
      refine ⟨fun z => absurd ((pk_lEQ (b := 0) (by omega) (by omega)).mp z) (by omega), defer_sp h (by omega) (fun τ g1 h5 => defer_sp h5 (by rw [List.length_append, List.length_singleton]; omega) (fun τ2 g2 h6 => hS τ2 (g1.tr g2) h6))⟩
    · rw [if_neg q] at hS
      rw [if_pos ((pk_lLE (by omega) (by omega)).mpr (by omega))]
      unfold wX1_deferTwo_73
      refine lt_i (fun x ex => lt_i (fun y ey => ?_))
      rw [ex, ey, nI_1, lN_sub (by omega)]
      rw [sr] at h3 h4
      exact ihk (s + 1) (l - f2 n s) (by omega) (by omega) (by omega) (by omega) hS
theorem def2_sp {n l : Nat} (hn : n < 16) (h : DfR σ ds) (hg : GrR σ) (hl : ds.length + 2 ≤ 16) (h3 : l < prs n) (hS : ∀ τ, Gm (fun i => i = 1 ∨ i = 5 ∨ i = 6) σ τ → DfR τ (ds ++ [(n - (sp2 n l).1, (sp2 n l).2 % cnt (n - (sp2 n l).1))] ++ [((sp2 n l).1, (sp2 n l).2 / cnt (n - (sp2 n l).1))]) → S τ) : wX1_deferTwo (nI n) (lN l) σ S := by
  have pl := (cnt_lt n hn).2.1
  have e := prs_sr n hn
  have n1 : 1 ≤ n := by
    rcases Nat.eq_zero_or_pos n with z | z
    · rw [z, prs_0.1] at h3; omega
    · exact z
  unfold wX1_deferTwo
  exact ⟨(n - 1) + 1, def2_lp hn h hg hl (n - 1) 1 l (by omega) (by omega) (by omega) (by omega) hS⟩
theorem def3_lp {n : Nat} (hn : n < 16) (h : DfR σ ds) (hg : GrR σ) (hl : ds.length + 3 ≤ 16) : ∀ (k s l : Nat), s + k = n → 1 ≤ s → l < sr (f3 n) k s → sr (f3 n) k s < 100000000000000000 →
    (∀ τ, Gm (fun i => i = 1 ∨ i = 5 ∨ i = 6) σ τ → DfR τ (ds ++ [(n - (sp (f3 n) k s l).1 - (sp2 (n - (sp (f3 n) k s l).1) ((sp (f3 n) k s l).2 % prs (n - (sp (f3 n) k s l).1))).1, (sp2 (n - (sp (f3 n) k s l).1) ((sp (f3 n) k s l).2 % prs (n - (sp (f3 n) k s l).1))).2 % cnt (n - (sp (f3 n) k s l).1 - (sp2 (n - (sp (f3 n) k s l).1) ((sp (f3 n) k s l).2 % prs (n - (sp (f3 n) k s l).1))).1))] ++ [((sp2 (n - (sp (f3 n) k s l).1) ((sp (f3 n) k s l).2 % prs (n - (sp (f3 n) k s l).1))).1, (sp2 (n - (sp (f3 n) k s l).1) ((sp (f3 n) k s l).2 % prs (n - (sp (f3 n) k s l).1))).2 / cnt (n - (sp (f3 n) k s l).1 - (sp2 (n - (sp (f3 n) k s l).1) ((sp (f3 n) k s l).2 % prs (n - (sp (f3 n) k s l).1))).1))] ++ [((sp (f3 n) k s l).1, (sp (f3 n) k s l).2 / prs (n - (sp (f3 n) k s l).1))]) → S τ) → wX1_deferThree_6 S (k + 1) (nI n) (lN l) (nI s) σ := by
  intro k
  induction k with
  | zero => intro s l h1 h2 h3; simp [sr] at h3
  | succ k ihk =>
    intro s l h1 h2 h3 h4 hS
    have hsr := sr_le (f := f3 n) (k := k) (s := s)
    have c1 := (cnt_lt (n - s) (by omega)).2.1
    have ef : f3 n s = cnt s * prs (n - s) := rfl
    show wX1_deferThree_6_b (wX1_deferThree_6 S (k + 1)) (nI n) (lN l) (nI s) σ S
    unfold wX1_deferThree_6_b
    rw [if_neg (nI_ge (by omega) (by omega)), if_neg (show ¬ (15 : Int32) < nI n from nI_nlt (a := 15) (by omega) (by omega)), pk_sub (by omega), ncl (by omega), (hg (n - s) (by omega)).2]
    refine ⟨vp_in_nI (by omega) (by omega), lt_i (fun w ew => many_sp hg (by omega) ?_)⟩
    rw [ew, lN_mul, ← ef]
    refine lt_i (fun x ex => ?_)
    rw [ex]
    have nxt : ¬ l < f3 n s → wX1_deferThree_80 (wX1_deferThree_6 S (k + 1)) (nI n) (lN l) (nI s) (lN (f3 n s)) σ S := fun q => by
      rw [sp, if_neg q] at hS
      unfold wX1_deferThree_80
      refine lt_i (fun x ex => lt_i (fun y ey => ?_))
      rw [ex, ey, nI_1, lN_sub (by omega)]
      rw [sr] at h3 h4
      exact ihk (s + 1) (l - f3 n s) (by omega) (by omega) (by omega) (by omega) hS
    by_cases pz : prs (n - s) = 0
    · rw [pz, if_pos (show lN 0 ≤ (0 : Int64) by decide)]
      exact nxt (by rw [ef, pz]; omega)
    rw [if_neg (show ¬ lN (prs (n - s)) ≤ (0 : Int64) from fun z => absurd ((pk_lLE (b := 0) (by omega) (by omega)).mp z) (by omega))]
    by_cases q : l < f3 n s
    · rw [sp, if_pos q] at hS
      rw [if_neg (fun z => absurd ((pk_lLE (by omega) (by omega)).mp z) (by omega))]
      rw [pk_lDiv (by omega) (by omega) (by omega), lN_mul, lN_sub (Nat.div_mul_le_self _ _), show l - l / prs (n - s) * prs (n - s) = l % prs (n - s) by rw [Nat.mod_eq_sub_div_mul]]
      refine ⟨fun z => absurd ((pk_lEQ (b := 0) (by omega) (by omega)).mp z) (by omega), def2_sp (by omega) h hg (by omega) (Nat.mod_lt _ (by omega)) (fun τ g1 h5 => defer_sp h5 (by simp; omega) (fun τ2 g2 h6 => hS τ2 (g1.tr g2) h6))⟩
    · rw [if_pos ((pk_lLE (by omega) (by omega)).mpr (by omega))]
      exact nxt q
theorem def3_sp {n l : Nat} (hn : n < 16) (h : DfR σ ds) (hg : GrR σ) (hl : ds.length + 3 ≤ 16) (h3 : l < thr n) (n1 : 1 ≤ n) (hS : ∀ τ, Gm (fun i => i = 1 ∨ i = 5 ∨ i = 6) σ τ → DfR τ (ds ++ [(n - (sp3 n l).1 - (sp2 (n - (sp3 n l).1) ((sp3 n l).2 % prs (n - (sp3 n l).1))).1, (sp2 (n - (sp3 n l).1) ((sp3 n l).2 % prs (n - (sp3 n l).1))).2 % cnt (n - (sp3 n l).1 - (sp2 (n - (sp3 n l).1) ((sp3 n l).2 % prs (n - (sp3 n l).1))).1))] ++ [((sp2 (n - (sp3 n l).1) ((sp3 n l).2 % prs (n - (sp3 n l).1))).1, (sp2 (n - (sp3 n l).1) ((sp3 n l).2 % prs (n - (sp3 n l).1))).2 / cnt (n - (sp3 n l).1 - (sp2 (n - (sp3 n l).1) ((sp3 n l).2 % prs (n - (sp3 n l).1))).1))] ++ [((sp3 n l).1, (sp3 n l).2 / prs (n - (sp3 n l).1))]) → S τ) : wX1_deferThree (nI n) (lN l) σ S := by
  have pl := (cnt_lt n hn).2.2
  have e := thr_sr n hn
  unfold wX1_deferThree
  exact ⟨(n - 1) + 1, def3_lp hn h hg hl (n - 1) 1 l (by omega) (by omega) (by omega) (by omega) hS⟩
/-- one node is unfolded -/
theorem unode_sp {s i : Nat} (h1 : 1 ≤ s) (h2 : s < 16) (h3 : i < cnt s) (h : DfR σ ds) (hd : okD ds) (hz : dz ds + s ≤ 15) (hg : GrR σ) (ht : TrR σ q xs) (hl : xs.length < 200) (hq : 9 ≤ q) (hS : ∀ τ k v ds', Gm (fun i => i = 1 ∨ i = 5 ∨ i = 6 ∨ (q ≤ i ∧ i < q + 4)) σ τ → TrR τ q (xs ++ [(k, v, 1)]) → DfR τ ds' → okD ds' → dz ds' + 1 = dz ds + s → (k, v) :: dm ds' = kv (fl (ng s i)) ++ dm ds → S τ) : wX1_unfoldNode q (nI s) (lN i) σ S := by
  have ld := dz_len hd
  have ci := (cnt_lt s h2).1
  have E := ngE h1 h2 h3
  have ap : ∀ (k : Nat) (v : Int32) (S' : Sg → Prop), k ≤ 8 → (∀ τ, Gm (fun i => q ≤ i ∧ i < q + 4) σ τ → TrR τ q (xs ++ [(k, v, 1)]) → DfR τ ds → GrR τ → S' τ) → wX5_append q (nI k) v σ S' := fun k v S' hk hS' => by
    refine append_sp ht hl hk (fun τ g h5 => hS' τ g h5 ?_ (hg.gm g (by omega) (by omega)))
    obtain ⟨a, b, c⟩ := h
    refine ⟨a, by rw [g.1 1 (by omega)]; exact b, fun j e he => ?_⟩
    rw [g.1 5 (by omega), g.2.1 6 (by omega)]
    exact c j e he
  have wk1 : ∀ {τ τ2 : Sg}, Gm (fun i => q ≤ i ∧ i < q + 4) σ τ → Gm (fun i => i = 1 ∨ i = 5 ∨ i = 6) τ τ2 → Gm (fun i => i = 1 ∨ i = 5 ∨ i = 6 ∨ (q ≤ i ∧ i < q + 4)) σ τ2 := fun g1 g2 => (g1.wk (fun i e => by omega)).tr (g2.wk (fun i e => by omega))
  unfold wX1_unfoldNode
  by_cases s1 : s = 1
  · subst s1
    rw [if_pos (by omega)] at E
    rw [if_neg (show ¬ (2 : Int32) ≤ nI 1 by decide), lN_i]
    have c1 : cnt 1 = 5 := by decide +kernel
    unfold wX1_unfoldLeaf
    by_cases i3 : i < 3
    · rw [if_pos i3] at E
      rw [if_neg (show ¬ (3 : Int32) ≤ nI i from nI_ge (b := 3) i3 (by omega))]
      refine ⟨ht.1, ap 0 (nI i) _ (by omega) (fun τ g h5 h6 h7 => hS τ 0 (nI i) ds (g.wk (fun i e => by omega)) h5 h6 hd rfl ?_)⟩
      rw [E, fl_nm]
      rfl
    · rw [if_neg i3] at E
      rw [if_pos (show (3 : Int32) ≤ nI i from nI_le (a := 3) (by omega) (by omega))]
      have fin : ∀ k, k = i - 2 → k ≤ 8 → wX1_unfoldLeaf_25 q (nI k) σ S := fun k ek k8 => by
        unfold wX1_unfoldLeaf_25
        refine ⟨ht.1, ap k 0 _ k8 (fun τ g h5 h6 h7 => hS τ k 0 ds (g.wk (fun i e => by omega)) h5 h6 hd rfl ?_)⟩
        rw [E, fl_nd, fl_nl, ek]
        rfl
      by_cases z : i = 3
      · rw [if_pos (show nI i = (3 : Int32) by rw [z]; rfl)]
        exact fin 1 (by omega) (by omega)
      · rw [if_neg (show ¬ nI i = (3 : Int32) from ni_k (c := 3) (by omega) (by omega) z)]
        exact fin 2 (by omega) (by omega)
  rw [if_neg (by omega)] at E
  have ce := cnt_eq (s - 2) (by omega)
  rw [show s - 2 + 2 = s by omega, show s - 2 + 1 = s - 1 by omega] at ce
  have c4 := cnt_lt (s - 1) (by omega)
  rw [if_pos (show (2 : Int32) ≤ nI s from nI_le (a := 2) (by omega) (by omega)), show nI s - 1 = nI (s - 1) from pk_sub (b := 1) (by omega)]
  refine lt_i (fun x ex => ?_)
  rw [ex]
  refine many_sp hg (by omega) (lt_i (fun y ey => ?_))
  by_cases q1 : i < cnt (s - 1)
  · rw [if_pos q1] at E
    have y0 : ¬ (0 : Int64) ≤ y := by
      rw [ey, Int64.le_iff_toInt_le]
      have e1 : (lN i - lN (cnt (s - 1))).toInt = (i : Int) - (cnt (s - 1) : Int) := by
        rw [Int64.toInt_sub, pk_lT (by omega), pk_lT (by omega)]
        exact Int.bmod_eq_of_le (by omega) (by omega)
      rw [e1]
      have : (0 : Int64).toInt = 0 := by decide
      omega
    rw [if_neg y0]
    refine ⟨ht.1, ap 3 0 _ (by omega) (fun τ g h5 h6 h7 => defer_sp h6 (by omega) (fun τ2 g2 h8 => ?_))⟩
    refine hS τ2 3 0 _ (wk1 g g2) (h5.gm g2 (fun i x y => by omega)) h8 (okD_s.mpr ⟨hd, by omega, by omega, q1⟩) (by rw [dz_s]; dsimp only; omega) ?_
    rw [dm_s, E, fl_nd, fl_nl, List.append_nil, List.append_nil, kv_cons, List.cons_append]
  rw [if_neg q1] at E
  rw [lN_sub (by omega)] at ey
  rw [ey, if_pos (show (0 : Int64) ≤ lN (i - cnt (s - 1)) from (pk_lLE (a := 0) (by omega) (by omega)).mpr (by omega)), if_neg (show ¬ (15 : Int32) < nI (s - 1) from nI_nlt (a := 15) (by omega) (by omega)), ncl (by omega), (hg (s - 1) (by omega)).2]
  refine ⟨vp_in_nI (by omega) (by omega), ?_⟩
  unfold wX1_unfoldNode_67
  rw [show (4 : Int64) * lN (prs (s - 1)) = lN (4 * prs (s - 1)) from lN_mul 4 _]
  by_cases q2 : i - cnt (s - 1) < 4 * prs (s - 1)
  · rw [if_pos q2] at E
    have pp : 0 < prs (s - 1) := by omega
    rw [if_neg (show ¬ lN (prs (s - 1)) ≤ (0 : Int64) from fun z => absurd ((pk_lLE (b := 0) (by omega) (by omega)).mp z) (by omega)), if_neg (fun z => absurd ((pk_lLE (by omega) (by omega)).mp z) (by omega))]
    have dv : (i - cnt (s - 1)) / prs (s - 1) < 4 := Nat.div_lt_of_lt_mul (by rw [Nat.mul_comm]; exact q2)
    rw [pk_lDiv (by omega) pp (by omega), lN_i, show (4 : Int32) + nI ((i - cnt (s - 1)) / prs (s - 1)) = nI (4 + (i - cnt (s - 1)) / prs (s - 1)) from nI_add 4 _, lN_mul, lN_sub (Nat.div_mul_le_self _ _), show i - cnt (s - 1) - (i - cnt (s - 1)) / prs (s - 1) * prs (s - 1) = (i - cnt (s - 1)) % prs (s - 1) by rw [Nat.mod_eq_sub_div_mul]]
    have ml := Nat.mod_lt (i - cnt (s - 1)) pp
    obtain ⟨o1, o2, o3⟩ := sp2_ok (by omega) ml
    obtain ⟨p1', p2'⟩ := mul_pos_lt o3
    refine ⟨fun z => absurd ((pk_lEQ (b := 0) (by omega) (by omega)).mp z) (by omega), ht.1, ap _ 0 _ (by omega) (fun τ g h5 h6 h7 => def2_sp (by omega) h6 h7 (by omega) ml (fun τ2 g2 h8 => ?_))⟩
    refine hS τ2 _ 0 _ (wk1 g g2) (h5.gm g2 (fun i x y => by omega)) h8 (okD_s.mpr ⟨okD_s.mpr ⟨hd, by dsimp only; omega, by dsimp only; omega, Nat.mod_lt _ p2'⟩, by dsimp only; omega, by dsimp only; omega, Nat.div_lt_of_lt_mul (by rw [Nat.mul_comm]; exact o3)⟩) (by rw [dz_s, dz_s]; dsimp only; omega) ?_
    rw [dm_s, dm_s, E, fl_nd, fl_nl, List.append_nil, kv_cons, kv_app]
    unfold pt
    dsimp only
    rw [List.cons_append, List.append_assoc]
  · rw [if_neg q2] at E
    have fin : wX1_unfoldNode_113 q (nI (s - 1)) (lN (i - cnt (s - 1))) (lN (prs (s - 1))) σ S := by
      unfold wX1_unfoldNode_113
      rw [show (4 : Int64) * lN (prs (s - 1)) = lN (4 * prs (s - 1)) from lN_mul 4 _, lN_sub (by omega)]
      refine ⟨ht.1, ap 8 0 _ (by omega) (fun τ g h5 h6 h7 => ?_)⟩
      obtain ⟨l, hl'⟩ : ∃ l, l = i - cnt (s - 1) - 4 * prs (s - 1) := ⟨_, rfl⟩
      rw [← hl'] at E ⊢
      have lt3 : l < thr (s - 1) := by omega
      obtain ⟨o1, o2, o3⟩ := sp3_ok (by omega) lt3
      obtain ⟨p1', p2'⟩ := mul_pos_lt o3
      have t3 := thr_sr (s - 1) (by omega)
      have ml := Nat.mod_lt (sp3 (s - 1) l).2 p2'
      obtain ⟨r1, r2, r3⟩ := sp2_ok (n := s - 1 - (sp3 (s - 1) l).1) (by omega) ml
      obtain ⟨p3', p4'⟩ := mul_pos_lt r3
      refine def3_sp (by omega) h6 h7 (by omega) lt3 (by omega) (fun τ2 g2 h8 => ?_)
      refine hS τ2 8 0 _ (wk1 g g2) (h5.gm g2 (fun i x y => by omega)) h8 (okD_s.mpr ⟨okD_s.mpr ⟨okD_s.mpr ⟨hd, ?_, ?_, Nat.mod_lt _ p4'⟩, ?_, ?_, Nat.div_lt_of_lt_mul (by rw [Nat.mul_comm]; exact r3)⟩, o1, ?_, Nat.div_lt_of_lt_mul (by rw [Nat.mul_comm]; exact o3)⟩) ?_ ?_
      · dsimp only; omega
      · dsimp only; omega
      · exact r1
      · dsimp only; omega
      · dsimp only; omega
      · rw [dz_s, dz_s, dz_s]
        dsimp only
        omega
      · rw [dm_s, dm_s, dm_s, E, fl_nd, kv_cons, kv_app, kv_app]
        unfold pt
        dsimp only
        rw [List.cons_append, List.append_assoc, List.append_assoc]
    by_cases pz : prs (s - 1) = 0
    · rw [if_pos (by rw [pz]; decide)]
      exact fin
    · rw [if_neg (show ¬ lN (prs (s - 1)) ≤ (0 : Int64) from fun z => absurd ((pk_lLE (b := 0) (by omega) (by omega)).mp z) (by omega)), if_pos ((pk_lLE (by omega) (by omega)).mpr (by omega))]
      exact fin
end

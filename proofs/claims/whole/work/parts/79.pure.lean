/-! inputs that are not read; turns that do nothing -/
theorem ev_nl (a b : Int32) : ev a b nl = (none, 0) := by simp only [nl, ev]
theorem ev_a (a a' b : Int32) : ∀ t, wf t → oc 1 t = false → ev a b t = ev a' b t := by
  apply wf_ind
  · intro k v hk hv h
    rw [oc_nd, oc_nl] at h
    have k1 : k ≠ 1 := fun e => by rw [e] at h; simp at h
    rw [ev_0 hk, ev_0 hk, if_neg k1, if_neg k1]
  · intro x hx ix h
    rw [oc_nd, oc_nl] at h
    have hx' : oc 1 x = false := by cases e : oc 1 x <;> simp [e] at h ⊢
    rw [ev_nd, ev_nd, ix hx']
    rfl
  · intro k x y k1 k2 hx hy ix iy h
    rw [oc_nd, oc_nl] at h
    have hx' : oc 1 x = false := by cases e : oc 1 x <;> simp [e] at h ⊢
    have hy' : oc 1 y = false := by cases e : oc 1 y <;> simp [e] at h ⊢
    rw [ev_nd, ev_nd, ix hx', iy hy', ev_nl, ev_nl, if_neg (by omega), if_neg (by omega), if_neg (by omega), if_neg (show ¬ k = 0 by omega), if_neg (show ¬ k = 1 by omega)]
  · intro x y z hx hy hz ix iy iz h
    rw [oc_nd] at h
    have hx' : oc 1 x = false := by cases e : oc 1 x <;> simp [e] at h ⊢
    have hy' : oc 1 y = false := by cases e : oc 1 y <;> simp [e] at h ⊢
    have hz' : oc 1 z = false := by cases e : oc 1 z <;> simp [e] at h ⊢
    rw [ev_nd, ev_nd, ix hx', iy hy', iz hz']
    rfl
theorem ev_b (a b b' : Int32) : ∀ t, wf t → oc 2 t = false → ev a b t = ev a b' t := by
  apply wf_ind
  · intro k v hk hv h
    rw [oc_nd, oc_nl] at h
    have k1 : k ≠ 2 := fun e => by rw [e] at h; simp at h
    rw [ev_0 hk, ev_0 hk]
    by_cases z0 : k = 0
    · rw [if_pos z0, if_pos z0]
    · rw [if_neg z0, if_neg z0, if_pos (by omega), if_pos (by omega)]
  · intro x hx ix h
    rw [oc_nd, oc_nl] at h
    have hx' : oc 2 x = false := by cases e : oc 2 x <;> simp [e] at h ⊢
    rw [ev_nd, ev_nd, ix hx']
    rfl
  · intro k x y k1 k2 hx hy ix iy h
    rw [oc_nd, oc_nl] at h
    have hx' : oc 2 x = false := by cases e : oc 2 x <;> simp [e] at h ⊢
    have hy' : oc 2 y = false := by cases e : oc 2 y <;> simp [e] at h ⊢
    rw [ev_nd, ev_nd, ix hx', iy hy', ev_nl, ev_nl, if_neg (by omega), if_neg (by omega), if_neg (by omega), if_neg (show ¬ k = 0 by omega), if_neg (show ¬ k = 1 by omega), if_neg (show ¬ k = 2 by omega)]
  · intro x y z hx hy hz ix iy iz h
    rw [oc_nd] at h
    have hx' : oc 2 x = false := by cases e : oc 2 x <;> simp [e] at h ⊢
    have hy' : oc 2 y = false := by cases e : oc 2 y <;> simp [e] at h ⊢
    have hz' : oc 2 z = false := by cases e : oc 2 z <;> simp [e] at h ⊢
    rw [ev_nd, ev_nd, ix hx', iy hy', iz hz']
    rfl
theorem ev_safe (a b : Int32) : ∀ t, wf t → oc 7 t = false → (ev a b t).1 ≠ none := by
  apply wf_ind
  · intro k v hk hv h
    rw [ev_0 hk]
    exact fun z => by cases z
  · intro x hx ix h
    rw [oc_nd, oc_nl] at h
    have hx' : oc 7 x = false := by cases e : oc 7 x <;> simp [e] at h ⊢
    obtain ⟨v, hv⟩ := Option.ne_none_iff_exists'.mp (ix hx')
    rw [ev_3 hv]
    exact fun z => by cases z
  · intro k x y k1 k2 hx hy ix iy h
    rw [oc_nd, oc_nl] at h
    have hx' : oc 7 x = false := by cases e : oc 7 x <;> simp [e] at h ⊢
    have hy' : oc 7 y = false := by cases e : oc 7 y <;> simp [e] at h ⊢
    have k7 : k ≠ 7 := fun e => by rw [e] at h; simp at h
    obtain ⟨v, hv⟩ := Option.ne_none_iff_exists'.mp (ix hx')
    obtain ⟨w, hw⟩ := Option.ne_none_iff_exists'.mp (iy hy')
    rw [ev_2s k1 k2 hv hw (fun z => k7 z.1)]
    exact fun z => by cases z
  · intro x y z hx hy hz ix iy iz h
    rw [oc_nd] at h
    have hx' : oc 7 x = false := by cases e : oc 7 x <;> simp [e] at h ⊢
    have hy' : oc 7 y = false := by cases e : oc 7 y <;> simp [e] at h ⊢
    have hz' : oc 7 z = false := by cases e : oc 7 z <;> simp [e] at h ⊢
    obtain ⟨v, hv⟩ := Option.ne_none_iff_exists'.mp (ix hx')
    by_cases w : v = 0
    · rw [ev_8z hv w]
      exact iz hz'
    · rw [ev_8y hv w]
      exact iy hy'
/-- no rule brings an input in -/
theorem oc_p {k : Nat} {t : Tr} (h : oc k t = false) : oc k (p1 t) = false ∧ oc k (p2 t) = false ∧ oc k (p3 t) = false := by
  unfold oc at h
  unfold p1 p2 p3
  split at h
  · have h' := h
    simp only [Bool.or_eq_false_iff] at h'
    exact ⟨h'.1.1.2, h'.1.2, h'.2⟩
  · next hn =>
    split
    · exact (hn _ _ _ _ _ rfl).elim
    · rw [oc_nl]
      exact ⟨rfl, rfl, rfl⟩
theorem oc_2p {k j : Nat} {x y : Tr} (hj : (j == k) = false) (hx : oc k x = false) (hy : oc k y = false) : oc k (nd j 0 x y nl) = false := by
  rw [oc_nd, oc_nl, hj, hx, hy]
  rfl
theorem oc_nm {k : Nat} {v : Int32} (hk : k = 1 ∨ k = 2) : oc k (nm v) = false := by
  unfold nm
  rw [oc_nd, oc_nl]
  rcases hk with rfl | rfl <;> rfl
theorem oc_ru {k s f w : Nat} {t u : Tr} (hk : k = 1 ∨ k = 2) (h : oc k t = false) (e : ru s f w t = some u) : oc k u = false := by
  obtain ⟨o1, o2, o3⟩ := oc_p h
  obtain ⟨o11, -, -⟩ := oc_p o1
  obtain ⟨o21, -, -⟩ := oc_p o2
  have k4 : ((4 : Nat) == k) = false := by rcases hk with rfl | rfl <;> rfl
  have k5 : ((5 : Nat) == k) = false := by rcases hk with rfl | rfl <;> rfl
  have N : ∀ v, oc k (nm v) = false := fun v => oc_nm hk
  unfold ru at e
  split at e
  · unfold ruF at e
    split at e
    · cases e
    · split at e
      · cases e
      · split at e
        · rw [← Option.some.inj e]; exact N _
        · split at e
          · cases e
          · split at e
            · cases e
            · rw [← Option.some.inj e]; exact N _
  split at e
  · unfold ruZ at e
    dsimp only at e
    repeat' split at e
    all_goals first | (cases e; done) | (rw [← Option.some.inj e]; first | exact o1 | exact o2 | exact N _)
  split at e
  · unfold ruS at e
    repeat' split at e
    all_goals first | (cases e; done) | (rw [← Option.some.inj e]; exact N _)
  split at e
  · unfold ruP at e
    repeat' split at e
    all_goals first | (cases e; done) | (rw [← Option.some.inj e]; first | exact o2 | exact o3)
  split at e
  · unfold ruM at e
    repeat' split at e
    all_goals first | (cases e; done) | (rw [← Option.some.inj e]; exact o2)
  split at e
  · unfold ruT at e
    split at e
    · cases e
    · next x hx =>
      have ox : oc k x = false := by
        unfold twA at hx
        repeat' split at hx
        all_goals first | (cases hx; done) | (rw [← Option.some.inj hx]; first | exact o1 | exact o2)
      split at e
      · cases e
      · rw [← Option.some.inj e]
        refine oc_2p ?_ ox ox
        split
        · exact k4
        · exact k5
  split at e
  · unfold ruK at e
    repeat' split at e
    all_goals first | (cases e; done) | (rw [← Option.some.inj e]; first | exact o11 | exact oc_2p k5 o1 o21 | exact oc_2p k5 o11 o2 | exact oc_2p k4 o1 o21)
  · cases e
theorem oc_tn {k s f : Nat} (hk : k = 1 ∨ k = 2) : ∀ t, wn t → ∀ w, oc k t = false → oc k (tn s f t w).1 = false := by
  apply wf_gen
  · intro w h
    rw [tn_nl]
    exact h
  · intro j v x y z hw ix iy iz w h
    rw [oc_nd] at h
    simp only [Bool.or_eq_false_iff] at h
    obtain ⟨⟨⟨hj, hx⟩, hy⟩, hz⟩ := h
    have a := ix w hx
    have b := iy (tn s f x w).2.2 hy
    have c := iz (tn s f y (tn s f x w).2.2).2.2 hz
    have all : oc k (nd j v (tn s f x w).1 (tn s f y (tn s f x w).2.2).1 (tn s f z (tn s f y (tn s f x w).2.2).2.2).1) = false := by
      rw [oc_nd, hj, a, b, c]
      rfl
    cases e : ru s f (tn s f z (tn s f y (tn s f x w).2.2).2.2).2.2 (nd j v (tn s f x w).1 (tn s f y (tn s f x w).2.2).1 (tn s f z (tn s f y (tn s f x w).2.2).2.2).1) with
    | none => rw [(tn_0 e).1]; exact all
    | some u => rw [(tn_1 e).1]; exact oc_ru hk all e
theorem oc_md {k : Nat} {so fa : Nat → Nat} {t : Tr} (hk : k = 1 ∨ k = 2) (ht : wf t) (hs : tsz t ≤ 200) (h : oc k t = false) : ∀ n, oc k (md so fa n t) = false
  | 0 => h
  | n + 1 => by
    obtain ⟨a, b⟩ := md_ok so fa ht hs n
    exact oc_tn hk _ (Or.inl a) _ (oc_md hk ht hs h n)
/-- a turn that does not fire changes nothing -/
theorem tn_id (s f : Nat) : ∀ t, wn t → ∀ w, (tn s f t w).2.1 = 0 → (tn s f t w).1 = t := by
  apply wf_gen
  · intro w _
    rw [tn_nl]
  · intro j v x y z hw ix iy iz w h
    cases e : ru s f (tn s f z (tn s f y (tn s f x w).2.2).2.2).2.2 (nd j v (tn s f x w).1 (tn s f y (tn s f x w).2.2).1 (tn s f z (tn s f y (tn s f x w).2.2).2.2).1) with
    | none =>
      obtain ⟨e1, e2⟩ := tn_0 e
      rw [e2] at h
      rw [e1, ix w (by omega), iy (tn s f x w).2.2 (by omega), iz (tn s f y (tn s f x w).2.2).2.2 (by omega)]
    | some u =>
      obtain ⟨e1, e2⟩ := tn_1 e
      rw [e2] at h
      omega
theorem md_id {so fa : Nat → Nat} {t : Tr} (ht : wf t) (hs : tsz t ≤ 200) : ∀ n, fs so fa t n = 0 → md so fa n t = t
  | 0, _ => rfl
  | n + 1, h => by
    rw [fs] at h
    have e := md_id (so := so) (fa := fa) ht hs n (by omega)
    obtain ⟨a, b⟩ := md_ok so fa ht hs n
    have := tn_id (so n) (fa n) _ (Or.inl a) (tsz (md so fa n t)) (by have : mf so fa n t = 0 := by omega
                                                                      unfold mf at this
                                                                      exact this)
    show (tn (so n) (fa n) (md so fa n t) (tsz (md so fa n t))).1 = t
    rw [this, e]
theorem fs1_0 {P : Nat → Bool} : ∀ n i, fs1 P n i = none → ∀ j, i ≤ j → j < i + n → P j = false
  | 0, i, _, j, a, b => by omega
  | n + 1, i, h, j, a, b => by
    rw [fs1] at h
    by_cases q : P i = true
    · rw [if_pos q] at h; cases h
    · rw [if_neg q] at h
      by_cases e : j = i
      · subst e; exact Bool.eq_false_iff.mpr q
      · exact fs1_0 n (i + 1) h j (by omega) (by omega)
theorem fs1_1 {P : Nat → Bool} : ∀ n i j, fs1 P n i = some j → P j = true ∧ i ≤ j ∧ j < i + n
  | 0, i, j, h => by rw [fs1] at h; cases h
  | n + 1, i, j, h => by
    rw [fs1] at h
    by_cases q : P i = true
    · rw [if_pos q] at h
      have := Option.some.inj h
      subst this
      exact ⟨q, by omega, by omega⟩
    · rw [if_neg q] at h
      obtain ⟨a, b, c⟩ := fs1_1 n (i + 1) j h
      exact ⟨a, by omega, by omega⟩
theorem df1_s {t u : Tr} {k i j : Nat} (hi : i ≤ 2 * k) (hj : j ≤ 2 * k) (h : ot t u k i j = true) : (df1 t u k).isSome = true := by
  unfold df1
  cases e : fs1 (fun i => !alB (fun j => !ot t u k i j) (2 * k + 1)) (2 * k + 1) 0 with
  | none =>
    have := fs1_0 _ _ e i (by omega) (by omega)
    have h2 : alB (fun j => !ot t u k i j) (2 * k + 1) = false := alB_n (i := j) (by omega) (by rw [h]; rfl)
    rw [h2] at this
    cases this
  | some i' =>
    dsimp only
    obtain ⟨a, b, c⟩ := fs1_1 _ _ _ e
    cases e2 : fs1 (ot t u k i') (2 * k + 1) 0 with
    | none =>
      have al : alB (fun j => !ot t u k i' j) (2 * k + 1) = true := (alB_y _).mpr (fun j' hj' => by rw [fs1_0 _ _ e2 j' (by omega) (by omega)]; rfl)
      rw [al] at a
      cases a
    | some j' => rfl
/-- the points that are tried -/
def gA (k : Nat) (t : Tr) : Nat := if oc 1 t then 2 * k else 0
def gB (k : Nat) (t : Tr) : Nat := if oc 2 t then 2 * k else 0
theorem gA_le (k : Nat) (t : Tr) : gA k t ≤ 2 * k := by unfold gA; split <;> omega
theorem gB_le (k : Nat) (t : Tr) : gB k t ≤ 2 * k := by unfold gB; split <;> omega
theorem ev_g {k : Nat} {t : Tr} (ht : wf t) (i j : Nat) (hi : i ≤ 2 * k) (hj : j ≤ 2 * k) : ∃ i' j', i' ≤ gA k t ∧ j' ≤ gB k t ∧ ∀ u, wf u → (oc 1 t = false → oc 1 u = false) → (oc 2 t = false → oc 2 u = false) → ev (vI k i) (vI k j) u = ev (vI k i') (vI k j') u := by
  refine ⟨if oc 1 t then i else 0, if oc 2 t then j else 0, ?_, ?_, fun u hu h1 h2 => ?_⟩
  · unfold gA; split <;> omega
  · unfold gB; split <;> omega
  · cases e1 : oc 1 t with
    | true =>
      rw [if_pos rfl]
      cases e2 : oc 2 t with
      | true => rw [if_pos rfl]
      | false => rw [if_neg (by decide)]; exact ev_b _ _ _ u hu (h2 e2)
    | false =>
      rw [if_neg (by decide), ev_a (vI k i) (vI k 0) _ u hu (h1 e1)]
      cases e2 : oc 2 t with
      | true => rw [if_pos rfl]
      | false => rw [if_neg (by decide)]; exact ev_b _ _ _ u hu (h2 e2)
theorem sfB_g {k : Nat} {t : Tr} (ht : wf t) (h : ∀ i j, i ≤ gA k t → j ≤ gB k t → (ev (vI k i) (vI k j) t).1 ≠ none) : sfB k t = true := by
  rw [sfB_y]
  intro i j hi hj
  obtain ⟨i', j', a, b, c⟩ := ev_g ht i j hi hj
  rw [c t ht id id]
  exact h i' j' a b
theorem vI_2 (k : Nat) : vI k (2 * k) = nI k := by
  unfold vI
  rw [pk_sub (by omega)]
  congr 1
  omega
theorem vI_lt {k a b : Nat} (hk : k ≤ 6) (ha : a ≤ 100) (hb : b ≤ 100) : (vI k a < vI k b) = (a < b) := by
  unfold vI
  rw [Int32.lt_iff_toInt_lt, pk_sub_toInt (by omega) (by omega), pk_sub_toInt (by omega) (by omega)]
  apply propext
  omega

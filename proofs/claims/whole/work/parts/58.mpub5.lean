/-! the reference's calls: never, steps, least, shown, count, ofMaker -/
theorem tn_cnt (s f : Nat) : ∀ t, wn t → ∀ w, (tn s f t w).2.1 ≤ tsz t := by
  apply wf_gen
  · intro w
    rw [tn_nl]
    exact Nat.zero_le _
  · intro k v x y z hw ix iy iz w
    have a := ix w
    have b := iy (tn s f x w).2.2
    have c := iz (tn s f y (tn s f x w).2.2).2.2
    rw [tn_nd, tsz_nd k v x y z]
    split
    · dsimp only; omega
    · dsimp only; omega
theorem mf_lt {so fa : Nat → Nat} {t : Tr} (ht : wf t) (h : tsz t ≤ 200) (n : Nat) : mf so fa n t ≤ 200 := by
  obtain ⟨a, b⟩ := md_ok so fa ht h n
  have := tn_cnt (so n) (fa n) _ (Or.inl a) (tsz (md so fa n t))
  unfold mf
  omega
theorem or_bit : ∀ t, t < 10 → ∀ a, a < 512 → a < 2 ^ t → (nI a ||| ((1 : Int32) <<< (nI t &&& 31))) = nI (a + 2 ^ t) := by decide +kernel
theorem bt_lt (g : Nat → Bool) : ∀ n, bt g n < 2 ^ n
  | 0 => by simp [bt]
  | n + 1 => by
    have := bt_lt g n
    rw [bt, Nat.pow_succ]
    split <;> omega
section
variable {A : Ab} {σ : Sg} {d : Nat} {Q : Int32 → Sg → Prop}
/-- at this place a turn does nothing -/
def nvP (A : Ab) (m i p : Nat) : Bool := decide (tsz (aP A p) = 0 ∨ mf (aS A m) (aF A m) i (aP A p) = 0)
theorem never_in {m t : Nat} {x2 : Int32} {K : Int32 → Int32 → Int32 → Sg → Prop} (hd : 200 ≤ d) (ok : okA A) (m8 : m < 8) (ht : t < aT A m) (hK : ∀ ρ, RM A ρ → K (nI m) (if nvB A m t then x2 ||| ((1 : Int32) <<< (nI t &&& 31)) else x2 ||| 0) (nI (t + 1)) ρ) :
    ∀ (k p : Nat) (τ : Sg), p + k = 20 → RM A τ → (∀ p', p' < p → nvP A m t p' = true) → wX8_never_30 d K Q (k + 1) (nI m) x2 (nI t) 0 (nI p) τ := by
  intro k
  induction k with
  | zero =>
    intro p τ hp h hall
    show wX8_never_30_b d K (wX8_never_30 d K Q 0) (nI m) x2 (nI t) 0 (nI p) τ Q
    unfold wX8_never_30_b
    rw [if_pos (show (20 : Int32) ≤ nI p from nI_le (a := 20) (by omega) (by omega))]
    unfold wX8_never_79
    rw [if_pos rfl]
    unfold wX8_never_92
    refine lt_i (fun x ex => lt_i (fun y ey => ?_))
    rw [ex, ey, nI_1]
    have := hK τ h
    rw [if_pos (show nvB A m t = true from (alB_y 20).mpr (fun i hi => hall i (by omega)))] at this
    exact this
  | succ k ih =>
    intro p τ hp h hall
    show wX8_never_30_b d K (wX8_never_30 d K Q (k + 1)) (nI m) x2 (nI t) 0 (nI p) τ Q
    unfold wX8_never_30_b
    rw [if_neg (show ¬ (20 : Int32) ≤ nI p from nI_ge (b := 20) (by omega) (by omega)), if_pos rfl]
    have nxt : nvP A m t p = true → ∀ ρ, RM A ρ → wX8_never_70 d K (wX8_never_30 d K Q (k + 1)) (nI m) x2 (nI t) (nI p) ρ Q := fun q ρ hρ => by
      unfold wX8_never_70 wX8_never_71
      refine lt_i (fun x ex => ?_)
      rw [ex, nI_1]
      refine ih (p + 1) ρ (by omega) hρ (fun p' hp' => ?_)
      by_cases e : p' = p
      · subst e; exact q
      · exact hall p' (by omega)
    refine has_pg ok h (fun p2 hp2 e w s g => ?_) (fun g => ?_)
    · have e2 : p = p2 := (nI_eq (by omega) (by omega)).mp e
      subst e2
      rw [if_neg (by decide)]
      refine treeOf_sp hp2 w s (by omega) (h.1 p hp2) (fun c ρ c1 f1 c2 r1 => ?_)
      have hr1 := h.sc f1 (by simp) (by simp)
      obtain ⟨k1, k2, k3⟩ := hr1.mk ok m8
      refine firesOf_sp hd w (by omega) k1 ht (by omega) c1 c2 r1 (fun ρ2 f2 => ?_)
      have hr2 := hr1.sc f2 (by simp) (by simp)
      have lm := mf_lt (so := aS A m) (fa := aF A m) w (by omega) t
      by_cases q : mf (aS A m) (aF A m) t (aP A p) = 0
      · rw [q, if_pos (by decide)]
        exact nxt (decide_eq_true (Or.inr q)) ρ2 hr2
      · rw [if_neg (show ¬ nI (mf (aS A m) (aF A m) t (aP A p)) ≤ (0 : Int32) from nI_ge (a := 0) (by omega) (by omega))]
        unfold wX8_never_71
        refine lt_i (fun x ex => ?_)
        rw [ex, nI_1]
        have hf : nvB A m t = false := alB_n (i := p) hp2 (decide_eq_false (fun z => z.elim (fun z => by have := wf_pos w; omega) q))
        have fin : wX8_never_79 d K (nI m) x2 (nI t) 1 ρ2 Q := by
          unfold wX8_never_79
          rw [if_neg (by decide)]
          unfold wX8_never_92
          refine lt_i (fun x ex => lt_i (fun y ey => ?_))
          rw [ex, ey, nI_1]
          have := hK ρ2 hr2
          rw [hf] at this
          exact this
        show wX8_never_30_b d K (wX8_never_30 d K Q k) (nI m) x2 (nI t) 1 (nI (p + 1)) ρ2 Q
        unfold wX8_never_30_b
        rw [if_neg (by decide : ¬ (1 : Int32) = 0)]
        split <;> exact fin
    · rw [if_pos rfl]
      refine nxt (decide_eq_true (Or.inl ?_)) τ h
      by_cases z : tsz (aP A p) = 0
      · exact z
      · rw [pg_y (by omega) z] at g
        cases g
theorem never_out {m : Nat} (hd : 200 ≤ d) (ok : okA A) (m8 : m < 8) (hQ : ∀ ρ, RM A ρ → Q (nI (bt (nvB A m) (aT A m))) ρ) : ∀ (k t : Nat) (τ : Sg), t + k = aT A m → RM A τ → wX8_never_14 d Q (k + 1) (nI m) (nI (bt (nvB A m) t)) (nI t) τ := by
  intro k
  induction k with
  | zero =>
    intro t τ ht h
    obtain ⟨k1, k2, k3⟩ := h.mk ok m8
    show wX8_never_14_b d (wX8_never_14 d Q 0) (nI m) (nI (bt (nvB A m) t)) (nI t) τ Q
    unfold wX8_never_14_b
    refine ⟨vp_in_nI m8 (by omega), ?_⟩
    rw [ncl (by omega), k2, if_pos (nI_le (by omega) (by omega)), show t = aT A m by omega]
    exact hQ τ h
  | succ k ih =>
    intro t τ ht h
    obtain ⟨k1, k2, k3⟩ := h.mk ok m8
    show wX8_never_14_b d (wX8_never_14 d Q (k + 1)) (nI m) (nI (bt (nvB A m) t)) (nI t) τ Q
    unfold wX8_never_14_b
    refine ⟨vp_in_nI m8 (by omega), ?_⟩
    rw [ncl (by omega), k2, if_neg (nI_ge (by omega) (by omega))]
    refine ⟨20 + 1, never_in hd ok m8 (by omega) (fun ρ hρ => ?_) 20 0 τ (by omega) h (fun p' hp' => by omega)⟩
    have bl := bt_lt (nvB A m) t
    have b9 : 2 ^ t ≤ 2 ^ 9 := Nat.pow_le_pow_right (by omega) (by omega)
    have := ih (t + 1) ρ (by omega) hρ
    rw [bt] at this
    cases q : nvB A m t with
    | true =>
      rw [q] at this
      rw [if_pos rfl, or_bit t (by omega) _ (by omega) bl]
      exact this
    | false =>
      rw [q] at this
      rw [if_neg (by decide), Int32.or_zero]
      exact this
theorem m_never {x : Int32} (hd : 200 ≤ d) (ok : okA A) (h : RM A σ) (hQ : ∀ τ, RM A τ → Q (xNever x A) τ) : wX8_never d x σ Q := by
  unfold wX8_never
  refine mk_mg ok h (fun m m8 hm e g1 => ?_) (fun g1 => ?_)
  rotate_left
  · rw [if_pos rfl]
    simpa only [xNever, g1] using hQ σ h
  subst e
  rw [if_neg (by decide)]
  refine ⟨aT A m + 1, never_out hd ok m8 (fun ρ hρ => ?_) (aT A m) 0 σ (by omega) h⟩
  simpa only [xNever, g1] using hQ ρ hρ
theorem m_steps (h : RM A σ) (hQ : ∀ τ, RM A τ → Q (aD A) τ) : wX8_steps σ Q := by
  unfold wX8_steps
  rw [h.2.2.2.2.1]
  exact hQ σ h
theorem nthTree_sp {n i : Nat} (hd : 200 ≤ d) (h : RM A σ) (hc : cnR σ) (h1 : 1 ≤ n) (h2 : n ≤ 5) (hi : i < cnt n) (hQ : ∀ c τ, c < n → RM A τ → cnR τ → τ.1 0 1 = nI n → wf (ng n i) → tsz (ng n i) = n → rx τ (ng n i) (nI c) n → Q (nI c) τ) : wX8_nthTree d (nI n) (lN i) σ Q := by
  unfold wX8_nthTree
  refine lt_i (fun ρ eρ => ?_)
  have f2 : Fm [] [17] σ ρ := by rw [eρ]; exact Fm.put 17 0 (by simp)
  have hh : hdR ρ [] := ⟨by rw [eρ, sI_1, up_s, ud_s]; rfl, Rw.nil⟩
  obtain ⟨w1, w2⟩ := ng_ok (n := n) (i := i) h1 (by omega) hi
  refine nth0_sp d n i ρ [] _ (by omega) h1 (by omega) hi (by simp; omega) (hc.fm f2) hh (fun τ2 f3 h3 => ?_)
  rw [List.nil_append, nt_ng (by omega) h1 (by omega) hi] at h3
  refine tree_sp w1 (by omega) (by omega) h3.2 (fun c τ3 c1 f4 c2 r1 => ?_)
  rw [w2] at c1 c2 r1
  exact hQ c τ3 c1 (((h.sc f2 (by simp) (by simp)).sc f3 (by simp) (by simp)).sc f4 (by simp) (by simp)) (((hc.fm f2).fm f3).fm f4) c2 w1 w2 r1
theorem least_in {m t s n : Nat} {K : Int32 → Int32 → Int32 → Int32 → Sg → Prop} {Q : Int64 → Sg → Prop} (hd : 200 ≤ d) (ok : okA A) (m8 : m < 8) (ht : t < aT A m) (s1 : 1 ≤ s) (s5 : s ≤ 5)
    (hK : ∀ ρ, RM A ρ → cnR ρ → (∀ j, j < cnt s → mf (aS A m) (aF A m) t (ng s j) = 0) → K (nI m) (nI t) (nI n) (nI (s + 1)) ρ) (hQ : ∀ i ρ, RM A ρ → i < cnt s → 0 < mf (aS A m) (aF A m) t (ng s i) → (∀ j, j < i → mf (aS A m) (aF A m) t (ng s j) = 0) → Q (lN (16 * i + s)) ρ) :
    ∀ (k i : Nat) (τ : Sg), i + k = cnt s → RM A τ → cnR τ → (∀ j, j < i → mf (aS A m) (aF A m) t (ng s j) = 0) → wX8_least_41 d K Q (k + 1) (nI m) (nI t) (nI n) (nI s) (lN i) τ := by
  have cl := (cnt_lt s (by omega)).1
  intro k
  induction k with
  | zero =>
    intro i τ hi h hc hall
    show wX8_least_41_b d K (wX8_least_41 d K Q 0) (nI m) (nI t) (nI n) (nI s) (lN i) τ Q
    unfold wX8_least_41_b
    refine ⟨vp_in_nI (by omega) (by omega), ?_⟩
    rw [ncl (by omega), hc s (by omega), if_pos ((pk_lLE (by omega) (by omega)).mpr (by omega))]
    refine lt_i (fun x ex => ?_)
    rw [ex, nI_1]
    exact hK τ h hc (fun j hj => hall j (by omega))
  | succ k ih =>
    intro i τ hi h hc hall
    show wX8_least_41_b d K (wX8_least_41 d K Q (k + 1)) (nI m) (nI t) (nI n) (nI s) (lN i) τ Q
    unfold wX8_least_41_b
    refine ⟨vp_in_nI (by omega) (by omega), ?_⟩
    rw [ncl (by omega), hc s (by omega), if_neg (fun z => absurd ((pk_lLE (by omega) (by omega)).mp z) (by omega))]
    refine nthTree_sp hd h hc s1 s5 (by omega) (fun c ρ c1 hr1 hc1 c2 w1 w2 r1 => ?_)
    obtain ⟨k1, k2, k3⟩ := hr1.mk ok m8
    refine firesOf_sp hd w1 (by omega) k1 ht (by omega) c1 c2 r1 (fun ρ2 f2 => ?_)
    have hr2 := hr1.sc f2 (by simp) (by simp)
    have lm := mf_lt (so := aS A m) (fa := aF A m) w1 (by omega) t
    by_cases q : mf (aS A m) (aF A m) t (ng s i) = 0
    · rw [q, if_pos (by decide)]
      refine lt_i (fun x ex => ?_)
      rw [ex, lN_1]
      refine ih (i + 1) ρ2 (by omega) hr2 (hc1.fm f2) (fun j hj => ?_)
      by_cases e : j = i
      · rw [e]; exact q
      · exact hall j (by omega)
    · rw [if_neg (show ¬ nI (mf (aS A m) (aF A m) t (ng s i)) ≤ (0 : Int32) from nI_ge (a := 0) (by omega) (by omega))]
      rw [show (16 : Int64) = lN 16 from rfl, lN_mul, nI_l (by omega), lN_add]
      exact hQ i ρ2 hr2 (by omega) (by omega) hall
theorem least_out {m t n : Nat} {Q : Int64 → Sg → Prop} (hd : 200 ≤ d) (ok : okA A) (m8 : m < 8) (ht : t < aT A m) (n5 : n ≤ 5) (P : Nat → Nat → Bool) (hP : P = fun s j => decide (0 < mf (aS A m) (aF A m) t (ng s j))) :
    ∀ (k s : Nat) (τ : Sg), s + k = n + 1 → 1 ≤ s → RM A τ → cnR τ → (∀ s' j ρ, RM A ρ → ls1 P k s = some (s', j) → Q (lN (16 * j + s')) ρ) → (∀ ρ, RM A ρ → ls1 P k s = none → Q (-5) ρ) → wX8_least_32 d Q (k + 1) (nI m) (nI t) (nI n) (nI s) τ := by
  intro k
  induction k with
  | zero =>
    intro s τ hs s1 h hc hy hn
    show wX8_least_32_b d (wX8_least_32 d Q 0) (nI m) (nI t) (nI n) (nI s) τ Q
    unfold wX8_least_32_b
    rw [if_pos (nI_lt (by omega) (by omega))]
    exact hn τ h rfl
  | succ k ih =>
    intro s τ hs s1 h hc hy hn
    show wX8_least_32_b d (wX8_least_32 d Q (k + 1)) (nI m) (nI t) (nI n) (nI s) τ Q
    unfold wX8_least_32_b
    rw [if_neg (nI_nlt (by omega) (by omega))]
    refine ⟨cnt s + 1, ?_⟩
    refine least_in hd ok m8 ht s1 (by omega) (fun ρ hρ hc2 hall => ?_) (fun i ρ hρ i1 i2 i3 => ?_) (cnt s) 0 τ (by omega) h hc (fun j hj => by omega)
    · have e : ls1 P (k + 1) s = ls1 P k (s + 1) := by
        rw [ls1, fs1_n (P := P s) (cnt s) 0 (fun j _ hj => by rw [hP]; exact decide_eq_false (by rw [hall j (by omega)]; omega))]
      rw [e] at hy hn
      exact ih (s + 1) ρ (by omega) (by omega) hρ hc2 hy hn
    · have e : ls1 P (k + 1) s = some (s, i) := by
        rw [ls1, fs1_y (P := P s) (cnt s) 0 i (by omega) (by omega) (by rw [hP]; exact decide_eq_true i2) (fun j _ hj => by rw [hP]; exact decide_eq_false (by rw [i3 j hj]; omega))]
      exact hy s i ρ hρ e
theorem m_least {x y z : Int32} {Q : Int64 → Sg → Prop} (hd : 200 ≤ d) (ok : okA A) (h : RM A σ) (hQ : ∀ τ, RM A τ → Q (xLeast x y z A) τ) : wX8_least d x y z σ Q := by
  unfold wX8_least
  refine mk_tg ok h (fun m i m8 hm hi e1 e2 g1 g2 => ?_) (fun g => ?_)
  rotate_left
  · rw [if_pos rfl]
    have e : xLeast x y z A = -1 := by
      unfold xLeast
      rcases g with g | ⟨m, g, g2⟩
      · rw [g]
      · rw [g]
        cases iy 1 5 z with
        | none => rfl
        | some w => dsimp only; rw [g2]
    rw [e] at hQ
    exact hQ σ h
  subst e1
  subst e2
  rw [if_neg (by decide)]
  refine in_iy 1 5 1 5 rfl rfl (by omega) (by omega) (fun n n1 n2 e g3 => ?_) (fun g3 => ?_)
  rotate_left
  · rw [if_pos rfl]
    simpa only [xLeast, g1, g3] using hQ σ h
  subst e
  rw [if_neg (by decide)]
  refine count0_sp h.2.2.2.2.2 (fun τ f c => ⟨n + 1, ?_⟩)
  refine least_out hd ok m8 hi n2 _ rfl n 1 τ (by omega) (by omega) (h.fj f c) c (fun s j ρ hρ e => ?_) (fun ρ hρ e => ?_)
  · simpa only [xLeast, g1, g2, g3, e] using hQ ρ hρ
  · simpa only [xLeast, g1, g2, g3, e] using hQ ρ hρ
theorem fi_eq {k i j : Nat} (hk : k ≤ 6) : fi k i j = nI (100 * (i + 6 - k) + (j + 6 - k)) := by
  have e : ∀ i, vI k i + 6 = nI (i + 6 - k) := fun i => by
    rw [← pk_sub (by omega), ← nI_add i 6]
    unfold vI
    have : nI 6 = 6 := rfl
    rw [this]
    grind
  unfold fi
  rw [Int32.add_assoc, e, e, show (100 : Int32) = nI 100 from rfl, pk_mul, nI_add]
theorem fi_ne {k i j : Nat} (hk : k ≤ 6) (hi : i ≤ 2 * k) (hj : j ≤ 2 * k) : fi k i j ≠ -5 := by
  intro z
  rw [fi_eq hk] at z
  have z := congrArg Int32.toInt z
  rw [nI_toInt (by omega)] at z
  have e : (-5 : Int32).toInt = -5 := by decide
  omega
theorem shown_lp {m n k w : Nat} (hd : 200 ≤ d) (ok : okA A) (m8 : m < 8) (n1 : 1 ≤ n) (n5 : n ≤ 5) (k2 : k ≤ 2) (w1 : w ≤ 1) (P : Nat → Bool) (hP : P = fun i => if w = 0 then sfB k (ng n i) else shB (aS A m) (aF A m) (aT A m) k (ng n i)) (hQ : ∀ ρ, RM A ρ → Q (nI (ctB P (cnt n))) ρ) :
    ∀ (e i : Nat) (τ : Sg), i + e = cnt n → RM A τ → cnR τ → wX8_shown_55 d Q (e + 1) (nI m) (nI n) (nI k) (nI w) (nI (ctB P i)) (lN i) τ := by
  have cl := (cnt_lt n (by omega)).1
  intro e
  induction e with
  | zero =>
    intro i τ hi h hc
    show wX8_shown_55_b d (wX8_shown_55 d Q 0) (nI m) (nI n) (nI k) (nI w) (nI (ctB P i)) (lN i) τ Q
    unfold wX8_shown_55_b
    refine ⟨vp_in_nI (by omega) (by omega), ?_⟩
    rw [ncl (by omega), hc n (by omega), if_pos ((pk_lLE (by omega) (by omega)).mpr (by omega)), show i = cnt n by omega]
    exact hQ τ h
  | succ e ih =>
    intro i τ hi h hc
    show wX8_shown_55_b d (wX8_shown_55 d Q (e + 1)) (nI m) (nI n) (nI k) (nI w) (nI (ctB P i)) (lN i) τ Q
    unfold wX8_shown_55_b
    refine ⟨vp_in_nI (by omega) (by omega), ?_⟩
    rw [ncl (by omega), hc n (by omega), if_neg (fun z => absurd ((pk_lLE (by omega) (by omega)).mp z) (by omega))]
    have no : P i = false → ∀ ρ, RM A ρ → cnR ρ → wX8_shown_117 d (wX8_shown_55 d Q (e + 1)) (nI m) (nI n) (nI k) (nI w) (nI (ctB P i)) (lN i) ρ Q := fun q ρ hρ cρ => by
      unfold wX8_shown_117
      refine lt_i (fun x ex => ?_)
      rw [ex, lN_1]
      have := ih (i + 1) ρ (by omega) hρ cρ
      rw [ctB, q] at this
      exact this
    have yes : P i = true → ∀ ρ, RM A ρ → cnR ρ → wX8_shown_109 d (wX8_shown_55 d Q (e + 1)) (nI m) (nI n) (nI k) (nI w) (lN i) (nI (ctB P i)) ρ Q := fun q ρ hρ cρ => by
      unfold wX8_shown_109 wX8_shown_114
      refine lt_i (fun x ex => ?_)
      rw [ex, nI_1]
      unfold wX8_shown_117
      refine lt_i (fun x ex => ?_)
      rw [ex, lN_1]
      have := ih (i + 1) ρ (by omega) hρ cρ
      rw [ctB, q] at this
      exact this
    refine nthTree_sp hd h hc n1 n5 (by omega) (fun c ρ c1 hr1 hc1 c2 w1 w2 r1 => ?_)
    refine isSafe_sp w1 (by omega) (by omega) (by omega) r1 (fun q ρ f2 => ?_) (fun a b ha hb q ρ f2 => ?_)
    · rw [if_neg (by decide)]
      have hr2 := hr1.sc f2 (by simp) (by simp)
      have hc2 := hc1.fm f2
      have sf := sfB_y.mpr q
      by_cases qw : w = 0
      · subst qw
        rw [if_pos (by decide)]
        exact yes (by rw [hP]; exact sf) ρ hr2 hc2
      · rw [if_neg (show ¬ nI w = (0 : Int32) from ni_k (c := 0) (by omega) (by omega) (by omega))]
        obtain ⟨m1, m2, m3⟩ := hr2.mk ok m8
        have cs : 400 * aT A m ≤ 400 * 10 := Nat.mul_le_mul_left 400 m3
        refine firstOf_sp hd w1 (by omega) m1 m2 (by omega) c1 (by rw [f2.2.1 1 (by simp)]; exact c2) (rx_fm w1 r1 f2) (by omega) q (fun z ρ3 f4 => ?_) (fun a b ha hb z1 z2 z3 ρ3 f4 => ?_)
        · rw [if_pos rfl]
          have := no (by rw [hP]; dsimp only; rw [if_neg qw]; unfold shB; rw [df1_n z]; simp) ρ3 (hr2.sc f4 (by simp) (by simp)) (hc2.fm f4)
          unfold wX8_shown_114
          refine lt_i (fun x ex => ?_)
          rw [ex, Int32.add_zero]
          exact this
        · rw [if_neg (fi_ne (by omega) ha hb)]
          exact yes (by rw [hP]; dsimp only; rw [if_neg qw]; unfold shB; rw [df1_y ha hb z1 z2 z3, sf]; rfl) ρ3 (hr2.sc f4 (by simp) (by simp)) (hc2.fm f4)
    · rw [if_pos rfl]
      refine no ?_ ρ (hr1.sc f2 (by simp) (by simp)) (hc1.fm f2)
      rw [hP]
      dsimp only
      unfold shB
      rw [sfB_n ha hb q]
      split <;> rfl
theorem m_shown {x n k w : Int32} (hd : 200 ≤ d) (ok : okA A) (h : RM A σ) (hQ : ∀ τ, RM A τ → Q (xShown x n k w A) τ) : wX8_shown d x n k w σ Q := by
  unfold wX8_shown
  refine mk_mg ok h (fun m m8 hm e g1 => ?_) (fun g1 => ?_)
  rotate_left
  · rw [if_pos rfl]
    simpa only [xShown, g1] using hQ σ h
  subst e
  rw [if_neg (by decide)]
  refine in_iy 1 5 1 5 rfl rfl (by omega) (by omega) (fun n n1 n2 e g2 => ?_) (fun g2 => ?_)
  rotate_left
  · rw [if_pos rfl]
    simpa only [xShown, g1, g2] using hQ σ h
  subst e
  rw [if_neg (by decide)]
  refine in_iy 0 2 0 2 rfl rfl (by omega) (by omega) (fun k k1 k2 e g3 => ?_) (fun g3 => ?_)
  rotate_left
  · rw [if_pos rfl]
    simpa only [xShown, g1, g2, g3] using hQ σ h
  subst e
  rw [if_neg (by decide)]
  refine in_iy 0 1 0 1 rfl rfl (by omega) (by omega) (fun w w1 w2 e g4 => ?_) (fun g4 => ?_)
  rotate_left
  · rw [if_pos rfl]
    simpa only [xShown, g1, g2, g3, g4] using hQ σ h
  subst e
  rw [if_neg (by decide)]
  refine count0_sp h.2.2.2.2.2 (fun τ f c => ⟨cnt n + 1, ?_⟩)
  refine shown_lp hd ok m8 n1 n2 k2 w2 _ rfl (fun ρ hρ => ?_) (cnt n) 0 τ (by omega) (h.fj f c) c
  simpa only [xShown, g1, g2, g3, g4] using hQ ρ hρ
theorem count_38 (ok : okA A) (h : RM A σ) (hQ : Q (nI (ctB (fun p => decide (tsz (aP A p) ≠ 0)) 20)) σ) : ∀ (k p : Nat), p + k = 20 → wX8_count_38 Q (k + 1) (nI (ctB (fun p => decide (tsz (aP A p) ≠ 0)) p)) (nI p) σ := by
  intro k
  induction k with
  | zero =>
    intro p hp
    show wX8_count_38_b (wX8_count_38 Q 0) _ (nI p) σ Q
    unfold wX8_count_38_b
    rw [if_pos (show (20 : Int32) ≤ nI p from nI_le (a := 20) (by omega) (by omega)), show p = 20 by omega]
    exact hQ
  | succ k ih =>
    intro p hp
    show wX8_count_38_b (wX8_count_38 Q (k + 1)) _ (nI p) σ Q
    unfold wX8_count_38_b
    rw [if_neg (show ¬ (20 : Int32) ≤ nI p from nI_ge (b := 20) (by omega) (by omega))]
    refine ⟨vp_in_nI (by omega) (by omega), ?_⟩
    rw [ncl (by omega), h.len ok (by omega)]
    have o := (ok.1 p (by omega)).2
    have := ih (p + 1) (by omega)
    rw [ctB] at this
    by_cases q : tsz (aP A p) = 0
    · rw [q, if_pos (by decide)]
      rw [if_neg (show ¬ decide (tsz (aP A p) ≠ 0) = true by simp [q])] at this
      unfold wX8_count_59
      refine lt_i (fun x ex => lt_i (fun y ey => ?_))
      rw [ex, ey, nI_1, Int32.add_zero]
      exact this
    · rw [if_neg (show ¬ nI (tsz (aP A p)) ≤ (0 : Int32) from nI_ge (a := 0) (by omega) (by omega))]
      rw [if_pos (show decide (tsz (aP A p) ≠ 0) = true by simp [q])] at this
      unfold wX8_count_59
      refine lt_i (fun x ex => lt_i (fun y ey => ?_))
      rw [ex, ey, nI_1, nI_1]
      exact this
theorem count_86 (ok : okA A) (h : RM A σ) (hQ : Q (nI (smN (fun p => tsz (aP A p)) 20)) σ) : ∀ (k p : Nat), p + k = 20 → wX8_count_86 Q (k + 1) (nI (smN (fun p => tsz (aP A p)) p)) (nI p) σ := by
  intro k
  induction k with
  | zero =>
    intro p hp
    show wX8_count_86_b (wX8_count_86 Q 0) _ (nI p) σ Q
    unfold wX8_count_86_b
    rw [if_pos (show (20 : Int32) ≤ nI p from nI_le (a := 20) (by omega) (by omega)), show p = 20 by omega]
    exact hQ
  | succ k ih =>
    intro p hp
    show wX8_count_86_b (wX8_count_86 Q (k + 1)) _ (nI p) σ Q
    unfold wX8_count_86_b
    rw [if_neg (show ¬ (20 : Int32) ≤ nI p from nI_ge (b := 20) (by omega) (by omega))]
    refine ⟨vp_in_nI (by omega) (by omega), ?_⟩
    rw [ncl (by omega), h.len ok (by omega)]
    refine lt_i (fun x ex => lt_i (fun y ey => ?_))
    rw [ex, ey, nI_1, nI_add]
    exact ih (p + 1) (by omega)
theorem m_count {x : Int32} (ok : okA A) (h : RM A σ) (hQ : ∀ τ, RM A τ → Q (xCount x A) τ) : wX8_count x σ Q := by
  unfold wX8_count
  have hQ := hQ σ h
  unfold xCount at hQ
  by_cases q0 : x = 0
  · rw [if_pos q0] at hQ ⊢
    exact ⟨20 + 1, count_38 ok h hQ 20 0 (by omega)⟩
  rw [if_neg q0] at hQ ⊢
  by_cases q1 : x = 1
  · rw [if_pos q1] at hQ ⊢
    rw [h.2.2.1.1]
    exact hQ
  rw [if_neg q1] at hQ ⊢
  by_cases q2 : x = 2
  · rw [if_pos q2] at hQ ⊢
    rw [h.2.1.1]
    exact hQ
  rw [if_neg q2] at hQ ⊢
  by_cases q3 : x = 3
  · rw [if_pos q3] at hQ ⊢
    rw [h.2.1.2.1]
    exact hQ
  rw [if_neg q3] at hQ ⊢
  by_cases q4 : x = 4
  · rw [if_pos q4] at hQ ⊢
    exact ⟨20 + 1, count_86 ok h hQ 20 0 (by omega)⟩
  · rw [if_neg q4] at hQ ⊢
    exact hQ
theorem m_of {x y : Int32} (ok : okA A) (h : RM A σ) (hQ : ∀ τ, RM A τ → Q (xOf x y A) τ) : wX8_ofMaker x y σ Q := by
  unfold wX8_ofMaker
  refine mk_mg ok h (fun m m8 hm e g1 => ?_) (fun g1 => ?_)
  rotate_left
  · rw [if_pos rfl]
    simpa only [xOf, g1] using hQ σ h
  subst e
  rw [if_neg (by decide)]
  obtain ⟨k1, k2, k3⟩ := h.mk ok m8
  refine ⟨vp_in_nI m8 (by omega), ?_⟩
  rw [ncl (by omega), k2]
  have hQ := hQ σ h
  have em : (-1 : Int64).toInt = -1 := by decide
  have et : (Int32.toInt64 (nI (aT A m) - 1)).toInt = (aT A m : Int) - 1 := by
    rw [Int32.toInt_toInt64]
    exact pk_sub_toInt (b := 1) (by omega) (by omega)
  have e1 : (-1 : Int32).toInt = -1 := by decide
  refine in_gen (fun a b => ?_) (fun a => ?_)
  · rw [if_neg (by decide)]
    rw [Int64.le_iff_toInt_le, em, Int32.toInt_toInt64] at a
    rw [Int64.le_iff_toInt_le, et, Int32.toInt_toInt64] at b
    by_cases q : y = -1
    · rw [if_neg (by rw [q]; decide), k2]
      simp only [xOf, g1, if_pos q] at hQ
      exact hQ
    · have y0 : 0 ≤ y.toInt := by
        have : y.toInt ≠ -1 := fun z => q (by rw [← Int32.toInt_inj, e1]; exact z)
        omega
      have ey : y = nI y.toInt.toNat := by
        rw [← Int32.toInt_inj, nI_toInt (by omega)]
        omega
      have bi : y.toInt.toNat < aT A m := by omega
      generalize y.toInt.toNat = i at ey bi
      subst ey
      have g2 : tg A m (nI i) = some i := iy_y (by omega) (by omega) (by omega)
      simp only [xOf, g1, if_neg q, g2] at hQ
      rw [if_pos (show (0 : Int32) ≤ nI i from nI_le (a := 0) (by omega) (by omega))]
      have e : 10 * nI m + nI i = nI (10 * m + i) := by rw [show (10 : Int32) = nI 10 from rfl, pk_mul, nI_add]
      rw [e]
      refine ⟨vp_in_nI (by omega) (by omega), ?_⟩
      obtain ⟨-, -, z3, z4⟩ := k1.2.2 i bi
      rw [ncl (by omega), z3, z4, show (10 : Int32) = nI 10 from rfl, pk_mul, nI_add]
      exact hQ
  · rw [if_pos rfl]
    rw [Int64.le_iff_toInt_le, em, Int64.le_iff_toInt_le, et, Int32.toInt_toInt64] at a
    have q : y ≠ -1 := fun z => a (by rw [z, e1]; omega)
    have g2 : tg A m y = none := iy_n (by omega) (fun p a1 a2 z => a (by rw [z, nI_toInt (by omega)]; omega))
    simp only [xOf, g1, if_neg q, g2] at hQ
    exact hQ
end

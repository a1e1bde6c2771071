/-! the class: what a maker makes -/
def WkS (σ : Sg) (a b : Nat) (T : Tr) : Prop := ((a = 19 ∧ b = 23) ∨ (a = 23 ∧ b = 19)) ∧ σ.2.2 16 2 = a ∧ σ.2.2 16 3 = b ∧ TrR σ a (fl T)
theorem WkS.o {σ : Sg} {a b : Nat} {T : Tr} (h : WkS σ a b T) : OrW σ := by
  obtain ⟨h1, h2, h3, -⟩ := h
  unfold OrW
  omega
theorem WkS.gm {S : Nat → Prop} {σ τ : Sg} {a b : Nat} {T : Tr} (h : WkS σ a b T) (g : Gm S σ τ) (h0 : ∀ i, 16 ≤ i → i < 27 → ¬ S i) : WkS τ a b T := by
  obtain ⟨h1, h2, h3, h4⟩ := h
  exact ⟨h1, by rw [g.2.2 16 (h0 16 (by omega) (by omega))]; exact h2, by rw [g.2.2 16 (h0 16 (by omega) (by omega))]; exact h3, h4.gm g (fun i x y => h0 i (by omega) (by omega))⟩
section
variable {Q : Int32 → Sg → Prop} {a b s f : Nat} {T : Tr} {σ : Sg}
theorem apply_s (hs : s ≤ 6) (hf : f ≤ 2) (hT : wf T) (h : WkS σ a b T) (hQ : ∀ τ, Gm (fun i => 16 ≤ i ∧ i < 27) σ τ → WkS τ b a (tn s f T (tsz T)).1 → Q (nI (tn s f T (tsz T)).2.1) τ) : wX6_apply (nI s) (nI f) σ Q := by
  have hb : b = 19 ∨ b = 23 := by have := h.1; omega
  have yb : YC.2.1 b = 4 := by rcases hb with e | e <;> (rw [e]; first | exact yc27.2.2.2.2.1 | exact yc27.2.2.2.2.2)
  have l200 := h.2.2.2.2.2.1
  have nT := fl_len T hT
  have pT := wf_pos hT
  unfold wX6_apply
  rw [h.2.2.1]
  refine ⟨yb, clear_sp yb (fun τ g1 h1 => ?_)⟩
  have g1' : Gm (Sb b) σ τ := g1.wk (fun i e => Or.inr (Or.inr e))
  have hτ : WkR τ a b T [] := ⟨h.1, by rw [g1.2.2 16 (by omega)]; exact h.2.1, by rw [g1.2.2 16 (by omega)]; exact h.2.2.1, h.2.2.2.gm g1 (fun i x y => by have := h.1; omega), h1⟩
  refine ⟨1 + tsz T, ?_⟩
  refine ap_sub hs hf hT T hT [] [] [] 0 0 0 1 τ (by simp) rfl (Nat.le_refl _) hτ (by simp; omega) (fun ρ g2 B2 h2 => ?_)
  rw [List.nil_append, List.length_nil, Nat.zero_add, Nat.sub_zero] at h2
  rw [List.length_nil, Nat.zero_add, Nat.zero_add, Nat.zero_add, Nat.sub_zero]
  intro nn x7 hn hx
  have hx0 : x7 < 0 := by rw [hx]; decide
  cases nn with
  | zero => omega
  | succ nn =>
    show wX6_apply_112_b (wX6_apply_15 Q 1) (wX6_apply_112 (wX6_apply_15 Q 1) Q nn) (nI s) (nI f) _ (nI 0) (nI (tsz T - 1)) x7 ρ Q
    unfold wX6_apply_112_b
    rw [if_pos hx0]
    unfold wX6_apply_199
    refine lt_i (fun x ex => ?_)
    rw [nI_1, show tsz T - 1 + 1 = tsz T by omega] at ex
    rw [ex]
    show wX6_apply_15_b (wX6_apply_15 Q 0) (nI s) (nI f) _ (nI 0) (nI (tsz T)) ρ Q
    unfold wX6_apply_15_b
    rw [h2.2.1, h2.2.2.2.1.2.2.2.1, nT, if_pos (Int32.le_refl _)]
    refine ⟨h2.2.2.2.1.1, ?_⟩
    unfold wX6_apply_205
    refine lt_i (fun ξ eξ => lt_i (fun ζ eζ => ?_))
    have g12 : Gm (fun i => 16 ≤ i ∧ i < 27) σ ρ := (g1'.tr g2).wk (fun i e => by unfold Sb at e; omega)
    have g3 : Gm (fun i => i = 16) ρ ζ := by
      rw [eζ, eξ]
      refine ⟨fun j hj => rfl, fun j hj => rfl, fun j hj => ?_⟩
      unfold sN
      simp [va_up, hj]
    have g3' : Gm (fun i => 16 ≤ i ∧ i < 27) ρ ζ := g3.wk (fun i e => by omega)
    refine hQ ζ (g12.tr g3') ⟨by have := h2.1; omega, ?_, ?_, ?_⟩
    · rw [eζ, eξ, h2.2.2.1]
      unfold sN
      simp [va_up]
    · rw [eζ, eξ, h2.2.1]
      unfold sN
      simp [va_up]
    · exact h2.2.2.2.2.gm g3 (fun i x y => by omega)
/-- how often the first n turns fire -/
def fs (so fa : Nat → Nat) (T : Tr) : Nat → Nat
  | 0 => 0
  | n + 1 => fs so fa T n + mf so fa n T
variable {so fa : Nat → Nat} {t q cnt0 n : Nat}
theorem become_w {S : Sg → Prop} {u : Tr} (h : OrW σ) (hq : TrR σ q (fl u)) (h2 : q + 4 ≤ 16 ∨ 27 ≤ q) (hS : ∀ τ a b, Gm (fun i => 16 ≤ i ∧ i < 27) σ τ → WkS τ a b u → S τ) : (YC.2.1 (σ.2.2 16 2) = 4) ∧ wX5_become (σ.2.2 16 2) q σ S := by
  have go : ∀ a b, ((a = 19 ∧ b = 23) ∨ (a = 23 ∧ b = 19)) → σ.2.2 16 2 = a → σ.2.2 16 3 = b → (YC.2.1 (σ.2.2 16 2) = 4) ∧ wX5_become (σ.2.2 16 2) q σ S := fun a b hab ea eb => by
    have ya : YC.2.1 a = 4 := by rcases hab with e | e <;> (rw [e.1]; first | exact yc27.2.2.2.2.1 | exact yc27.2.2.2.2.2)
    rw [ea]
    refine ⟨ya, become_sp ya hq (by omega) (fun τ g h3 => hS τ a b (g.wk (fun i e => by omega)) ⟨hab, ?_, ?_, h3⟩)⟩
    · rw [g.2.2 16 (by omega)]; exact ea
    · rw [g.2.2 16 (by omega)]; exact eb
  rcases h with ⟨e1, e2⟩ | ⟨e1, e2⟩
  · exact go 19 23 (Or.inl ⟨rfl, rfl⟩) e1 e2
  · exact go 23 19 (Or.inr ⟨rfl, rfl⟩) e1 e2
theorem fs_le {u : Tr} (hu : wf u) (hs : tsz u ≤ 200) : ∀ n, fs so fa u n ≤ 200 * n
  | 0 => Nat.le_refl _
  | n + 1 => by
    have := fs_le hu hs n
    have := mf_lt (so := so) (fa := fa) hu hs n
    rw [fs]
    omega
theorem make_lp {u : Tr} (hu : wf u) (hs : tsz u ≤ 200) (ht : 133 ≤ t) (hn : n ≤ cnt0) : ∀ (k i a b : Nat) (σ : Sg), i + k = n → MkC σ t cnt0 so fa → WkS σ a b (md so fa i u) → (∀ τ a b, Gm (fun i => 16 ≤ i ∧ i < 27) σ τ → WkS τ a b (md so fa n u) → Q (nI (fs so fa u n)) τ) → wX6_make_14 Q (k + 1) t (nI n) (nI (fs so fa u i)) (nI i) σ := by
  intro k
  induction k with
  | zero =>
    intro i a b σ hi hM hW hQ
    have c10 := hM.2.1
    show wX6_make_14_b (wX6_make_14 Q 0) t (nI n) _ (nI i) σ Q
    unfold wX6_make_14_b
    rw [if_pos (nI_le (by omega) (by omega))]
    have e : i = n := by omega
    subst e
    exact hQ σ a b Gm.rf hW
  | succ k ih =>
    intro i a b σ hi hM hW hQ
    have c10 := hM.2.1
    obtain ⟨w1, w2⟩ := md_ok so fa hu hs i
    obtain ⟨d1, d2, -, -⟩ := hM.2.2.2 i (by omega)
    show wX6_make_14_b (wX6_make_14 Q (k + 1)) t (nI n) _ (nI i) σ Q
    unfold wX6_make_14_b
    rw [if_neg (nI_ge (by omega) (by omega))]
    refine ⟨hM.1, so_c hM (by omega) (fa_c hM (by omega) ?_)⟩
    refine apply_s d1 d2 w1 hW (fun τ g h2 => ?_)
    rw [nI_add]
    refine lt_i (fun x ex => lt_i (fun y ey => ?_))
    rw [ex, ey, nI_1]
    exact ih (i + 1) b a τ (by omega) (hM.gm g (fun j x y => by omega)) h2 (fun ρ a' b' g2 h3 => hQ ρ a' b' (g.tr g2) h3)
theorem make_sp' {u : Tr} (hu : wf u) (hs : tsz u ≤ 200) (ht : 133 ≤ t) (hn : n ≤ cnt0) (ho : OrW σ) (hM : MkC σ t cnt0 so fa) (hq : TrR σ q (fl u)) (h2 : q + 4 ≤ 16 ∨ 27 ≤ q) (hQ : ∀ τ a b, Gm (fun i => 16 ≤ i ∧ i < 27) σ τ → WkS τ a b (md so fa n u) → Q (nI (fs so fa u n)) τ) : wX6_make t q (nI n) σ Q := by
  unfold wX6_make
  refine become_w ho hq h2 (fun τ a b g hW => ⟨n + 1, ?_⟩)
  exact make_lp hu hs ht hn n 0 a b τ (by omega) (hM.gm g (fun j x y => by omega)) hW (fun ρ a b g2 h3 => hQ ρ a b (g.tr g2) h3)
theorem firings_sp {u : Tr} (hu : wf u) (hs : tsz u ≤ 200) (ht : 133 ≤ t) (hn : n < cnt0) (ho : OrW σ) (hM : MkC σ t cnt0 so fa) (hq : TrR σ q (fl u)) (h2 : q + 4 ≤ 16 ∨ 27 ≤ q) (hQ : ∀ τ a b, Gm (fun i => 16 ≤ i ∧ i < 27) σ τ → WkS τ a b (md so fa (n + 1) u) → Q (nI (mf so fa n u)) τ) : wX6_firings t q (nI n) σ Q := by
  unfold wX6_firings
  refine make_sp' hu hs ht (by omega) ho hM hq h2 (fun τ a b g hW => ?_)
  have hM' : MkC τ t cnt0 so fa := hM.gm g (fun j x y => by omega)
  obtain ⟨w1, w2⟩ := md_ok so fa hu hs n
  obtain ⟨d1, d2, -, -⟩ := hM.2.2.2 n hn
  refine ⟨hM.1, so_c hM' hn (fa_c hM' hn ?_)⟩
  exact apply_s d1 d2 w1 hW (fun ρ g2 h3 => hQ ρ b a (g.tr g2) h3)
theorem bt_cg {g h : Nat → Bool} : ∀ n, (∀ i, i < n → g i = h i) → bt g n = bt h n
  | 0, _ => rfl
  | n + 1, e => by rw [bt, bt, bt_cg n (fun i hi => e i (by omega)), e n (by omega)]
theorem turns_lp {u : Tr} (hu : wf u) (hs : tsz u ≤ 200) (ht : 133 ≤ t) : ∀ (k i a b : Nat) (σ : Sg), i + k = cnt0 → MkC σ t cnt0 so fa → WkS σ a b (md so fa i u) → (∀ τ a b, Gm (fun i => 16 ≤ i ∧ i < 27) σ τ → WkS τ a b (md so fa cnt0 u) → Q (nI (bt (fun i => decide (0 < mf so fa i u)) cnt0)) τ) → wX6_firingTurns_13 Q (k + 1) t (nI (bt (fun i => decide (0 < mf so fa i u)) i)) (nI i) σ := by
  intro k
  induction k with
  | zero =>
    intro i a b σ hi hM hW hQ
    have c10 := hM.2.1
    show wX6_firingTurns_13_b (wX6_firingTurns_13 Q 0) t _ (nI i) σ Q
    unfold wX6_firingTurns_13_b
    rw [hM.2.2.1, if_pos (nI_le (by omega) (by omega))]
    have e : i = cnt0 := by omega
    subst e
    exact ⟨hM.1, hQ σ a b Gm.rf hW⟩
  | succ k ih =>
    intro i a b σ hi hM hW hQ
    have c10 := hM.2.1
    obtain ⟨w1, w2⟩ := md_ok so fa hu hs i
    obtain ⟨d1, d2, -, -⟩ := hM.2.2.2 i (by omega)
    have lm := mf_lt (so := so) (fa := fa) hu hs i
    show wX6_firingTurns_13_b (wX6_firingTurns_13 Q (k + 1)) t _ (nI i) σ Q
    unfold wX6_firingTurns_13_b wX6_firingTurns_48
    rw [hM.2.2.1, if_neg (nI_ge (by omega) (by omega))]
    refine ⟨hM.1, so_c hM (by omega) (fa_c hM (by omega) (apply_s d1 d2 w1 hW (fun τ g h2 => ?_)))⟩
    have go := ih (i + 1) b a τ (by omega) (hM.gm g (fun j x y => by omega)) h2 (fun ρ a' b' g2 h3 => hQ ρ a' b' (g.tr g2) h3)
    rw [bt] at go
    show if nI (mf so fa i u) ≤ 0 then _ else _
    by_cases z : mf so fa i u = 0
    · rw [z, if_pos (by decide)]
      rw [if_neg (show ¬ decide (0 < mf so fa i u) = true by simp [z]), Nat.add_zero] at go
      refine lt_i (fun y ey => ?_)
      rw [ey, nI_1]
      exact go
    · rw [if_neg (show ¬ nI (mf so fa i u) ≤ (0 : Int32) from nI_ge (a := 0) (by omega) (by omega))]
      rw [if_pos (show decide (0 < mf so fa i u) = true by simp; omega)] at go
      have bl := bt_lt (fun i => decide (0 < mf so fa i u)) i
      have b9 : 2 ^ i ≤ 2 ^ 9 := Nat.pow_le_pow_right (by omega) (by omega)
      rw [or_bit i (by omega) _ (by omega) bl]
      refine lt_i (fun x ex => lt_i (fun y ey => ?_))
      rw [ex, ey, nI_1]
      exact go
end
/-- bits -/
theorem bt_tb (g : Nat → Bool) : ∀ n i, (bt g n).testBit i = (decide (i < n) && g i)
  | 0, i => by simp [bt]
  | n + 1, i => by
    have bl := bt_lt g n
    have ih := bt_tb g n i
    rw [bt]
    by_cases hg : g n = true
    · rw [if_pos hg, Nat.add_comm]
      by_cases e : i = n
      · subst e
        rw [Nat.testBit_two_pow_add_eq, ih]
        simp [hg]
      · by_cases lt : i < n
        · rw [Nat.testBit_two_pow_add_gt lt, ih]
          simp [lt, Nat.lt_succ_of_lt lt]
        · have h1 : 2 ^ n + bt g n < 2 ^ i := by
            have : 2 ^ (n + 1) ≤ 2 ^ i := Nat.pow_le_pow_right (by omega) (by omega)
            rw [Nat.pow_succ] at this
            omega
          rw [Nat.testBit_lt_two_pow h1]
          simp; omega
    · rw [if_neg hg, Nat.add_zero, ih]
      by_cases e : i = n
      · subst e
        simp [hg]
      · have : decide (i < n) = decide (i < n + 1) := by
          by_cases lt : i < n
          · simp [lt, Nat.lt_succ_of_lt lt]
          · simp [lt]; omega
        rw [this]
theorem and_not (g h : Nat → Bool) (n : Nat) : (nI (bt g n) &&& (nI (bt h n) ^^^ (-1))) = nI (bt (fun i => g i && !h i) n) := by
  apply Int32.toBitVec_inj.mp
  rw [Int32.toBitVec_and, Int32.toBitVec_xor]
  have e : ∀ a : Nat, (nI a).toBitVec = BitVec.ofNat 32 a := fun a => rfl
  have m1 : (-1 : Int32).toBitVec = BitVec.allOnes 32 := by decide
  rw [e, e, e, m1]
  apply BitVec.eq_of_getLsbD_eq
  intro i hi
  rw [BitVec.getLsbD_and, BitVec.getLsbD_xor, BitVec.getLsbD_ofNat, BitVec.getLsbD_ofNat, BitVec.getLsbD_ofNat, BitVec.getLsbD_allOnes, bt_tb, bt_tb, bt_tb]
  by_cases lt : i < n
  · simp [lt, hi]
  · simp [lt]
theorem all_bit : ∀ n, n ≤ 10 → ((1 : Int32) <<< (nI n &&& 31)) - 1 = nI (bt (fun _ => true) n) := by decide +kernel

/-! the reference: places and the hand -/
/-- a place's row, the hand's row -/
def plR (σ : Sg) (p : Nat) (xs : List En) : Prop := xs.length ≤ 60 ∧ σ.1 7 p = nI xs.length ∧ Rw (σ.1 8) (σ.1 9) (60 * p) xs
def hdR (σ : Sg) (xs : List En) : Prop := σ.1 0 17 = nI xs.length ∧ Rw (σ.1 10) (σ.1 11) 0 xs
theorem Rw.at {f g : Nat → Int32} {off i : Nat} {xs : List En} (h : Rw f g off xs) (hi : i < xs.length) : f (off + i) = nI (xs[i]).1 ∧ g (off + i) = (xs[i]).2.1 := h i _ (List.getElem?_eq_getElem hi)
theorem Rw.mk {f g : Nat → Int32} {off : Nat} {xs : List En} (h : ∀ i (hi : i < xs.length), f (off + i) = nI (xs[i]).1 ∧ g (off + i) = (xs[i]).2.1) : Rw f g off xs := by
  intro i e he
  obtain ⟨hi, rfl⟩ := List.getElem?_eq_some_iff.mp he
  exact h i hi
theorem take_loop {p : Nat} {xs : List En} {Q : Sg → Prop} (hp : p < 20) : ∀ (k i : Nat) (σ : Sg), i + k = xs.length → plR σ p xs → σ.1 0 17 = nI xs.length → (∀ j (hj : j < xs.length), j < i → σ.1 10 j = nI (xs[j]).1 ∧ σ.1 11 j = (xs[j]).2.1) →
    (∀ τ, Fm [10, 11] [17] σ τ → hdR τ xs → Q τ) → wX8_take_12 Q (k + 1) (nI p) (nI i) σ := by
  intro k
  induction k with
  | zero =>
    intro i σ hi hpl h17 hpre hQ
    have hl := hpl.1
    show wX8_take_12_b (wX8_take_12 Q 0) (nI p) (nI i) σ Q
    unfold wX8_take_12_b
    rw [h17, if_pos (nI_le (by omega) (by omega))]
    refine hQ _ Fm.rf ⟨h17, Rw.mk (fun j hj => ?_)⟩
    rw [Nat.zero_add]
    exact hpre j hj (by omega)
  | succ k ih =>
    intro i σ hi hpl h17 hpre hQ
    obtain ⟨hl, h7, hR⟩ := hpl
    show wX8_take_12_b (wX8_take_12 Q (k + 1)) (nI p) (nI i) σ Q
    unfold wX8_take_12_b
    rw [h17, if_neg (nI_ge (by omega) (by omega))]
    have e : 60 * nI p + nI i = nI (60 * p + i) := by rw [show (60 : Int32) = nI 60 from rfl, pk_mul, nI_add]
    rw [e]
    refine ⟨vp_in_nI (by omega) (by omega), vp_in_nI (by omega) (by omega), ?_⟩
    rw [ncl (by omega), ncl (by omega)]
    obtain ⟨r1, r2⟩ := hR.at (i := i) (by omega)
    refine lt_i (fun a ea => ?_)
    have a9 : a.1 9 = σ.1 9 := by rw [ea, sI_1, up_n _ _ _ _ (by decide)]
    rw [a9, r2]
    refine lt_i (fun b eb => lt_i (fun x ex => ?_))
    have ex : x = nI (i + 1) := by rw [ex]; exact nI_1 i
    subst ex
    have fa : Fm [10, 11] [17] σ a := by rw [ea]; exact Fm.row 10 _ (by decide) (by simp)
    have fb : Fm [10, 11] [17] a b := by rw [eb]; exact Fm.row 11 _ (by decide) (by simp)
    have fab := fa.tr fb
    have b10 : b.1 10 = upd (σ.1 10) i (nI (xs[i]).1) := by rw [eb, sI_1, up_n _ _ _ _ (by decide), ea, sI_1, up_s, r1]
    have b11 : b.1 11 = upd (σ.1 11) i (xs[i]).2.1 := by rw [eb, sI_1, up_s, ea, sI_1, up_n _ _ _ _ (by decide)]
    refine ih (i + 1) b (by omega) ⟨hl, by rw [fab.1 7 (by omega) (by simp)]; exact h7, by rw [fab.1 8 (by omega) (by simp), fab.1 9 (by omega) (by simp)]; exact hR⟩ (by rw [eb, sI_1, up_n _ _ _ _ (by decide), ea, sI_1, up_n _ _ _ _ (by decide)]; exact h17) (fun j hj hji => ?_) (fun τ q1 q2 => hQ τ (fab.tr q1) q2)
    rw [b10, b11]
    by_cases hj2 : j = i
    · subst hj2
      rw [ud_s, ud_s]
      exact ⟨rfl, rfl⟩
    · rw [ud_n _ _ _ _ hj2, ud_n _ _ _ _ hj2]
      exact hpre j hj (by omega)
theorem take_sp {p : Nat} {xs : List En} {σ : Sg} {Q : Sg → Prop} (hp : p < 20) (hpl : plR σ p xs) (hQ : ∀ τ, Fm [10, 11] [17] σ τ → hdR τ xs → Q τ) : wX8_take (nI p) σ Q := by
  unfold wX8_take
  refine ⟨vp_in_nI hp (by omega), ?_⟩
  rw [ncl (by omega)]
  refine lt_i (fun a ea => ⟨xs.length + 1, ?_⟩)
  obtain ⟨hl, h7, hR⟩ := hpl
  have fa : Fm [10, 11] [17] σ a := by rw [ea]; exact Fm.put 17 _ (by simp)
  exact take_loop hp xs.length 0 a (by omega) ⟨hl, by rw [fa.1 7 (by omega) (by simp)]; exact h7, by rw [fa.1 8 (by omega) (by simp), fa.1 9 (by omega) (by simp)]; exact hR⟩ (by rw [ea, sI_1, up_s, ud_s]; exact h7) (fun j _ hj => by omega) (fun τ q1 q2 => hQ τ (fa.tr q1) q2)
/-- put(): the hand comes to a place; the others stay -/
def putP (p : Nat) (xs : List En) (σ τ : Sg) : Prop := Fm [7, 8, 9] [] σ τ ∧ plR τ p xs ∧ ∀ q ys, q < 20 → q ≠ p → plR σ q ys → plR τ q ys
theorem put_loop {p : Nat} {xs : List En} {Q : Int32 → Sg → Prop} (hp : p < 20) (hl : xs.length ≤ 60) : ∀ (k i : Nat) (σ : Sg), i + k = xs.length → hdR σ xs → σ.1 7 p = nI xs.length → (∀ j (hj : j < xs.length), j < i → σ.1 8 (60 * p + j) = nI (xs[j]).1 ∧ σ.1 9 (60 * p + j) = (xs[j]).2.1) →
    (∀ τ, Fm [7, 8, 9] [] σ τ → plR τ p xs → (∀ i, i < 60 * p ∨ 60 * p + 60 ≤ i → τ.1 8 i = σ.1 8 i ∧ τ.1 9 i = σ.1 9 i) → τ.1 7 = σ.1 7 → Q (nI xs.length) τ) → wX8_put_12 Q (k + 1) (nI p) (nI i) σ := by
  intro k
  induction k with
  | zero =>
    intro i σ hi hh h7 hpre hQ
    obtain ⟨h17, hR⟩ := hh
    show wX8_put_12_b (wX8_put_12 Q 0) (nI p) (nI i) σ Q
    unfold wX8_put_12_b
    rw [h17, if_pos (nI_le (by omega) (by omega))]
    exact hQ _ Fm.rf ⟨hl, h7, Rw.mk (fun j hj => hpre j hj (by omega))⟩ (fun _ _ => ⟨rfl, rfl⟩) rfl
  | succ k ih =>
    intro i σ hi hh h7 hpre hQ
    obtain ⟨h17, hR⟩ := hh
    show wX8_put_12_b (wX8_put_12 Q (k + 1)) (nI p) (nI i) σ Q
    unfold wX8_put_12_b
    rw [h17, if_neg (nI_ge (by omega) (by omega))]
    have e : 60 * nI p + nI i = nI (60 * p + i) := by rw [show (60 : Int32) = nI 60 from rfl, pk_mul, nI_add]
    rw [e]
    refine ⟨vp_in_nI (by omega) (by omega), vp_in_nI (by omega) (by omega), ?_⟩
    rw [ncl (by omega), ncl (by omega)]
    obtain ⟨r1, r2⟩ := hR.at (i := i) (by omega)
    rw [Nat.zero_add] at r1 r2
    refine lt_i (fun a ea => ?_)
    have a11 : a.1 11 = σ.1 11 := by rw [ea, sI_1, up_n _ _ _ _ (by decide)]
    rw [a11, r2]
    refine lt_i (fun b eb => lt_i (fun x ex => ?_))
    have ex : x = nI (i + 1) := by rw [ex]; exact nI_1 i
    subst ex
    have fa : Fm [7, 8, 9] [] σ a := by rw [ea]; exact Fm.row 8 _ (by decide) (by simp)
    have fb : Fm [7, 8, 9] [] a b := by rw [eb]; exact Fm.row 9 _ (by decide) (by simp)
    have fab := fa.tr fb
    have b8 : b.1 8 = upd (σ.1 8) (60 * p + i) (nI (xs[i]).1) := by rw [eb, sI_1, up_n _ _ _ _ (by decide), ea, sI_1, up_s, r1]
    have b9 : b.1 9 = upd (σ.1 9) (60 * p + i) (xs[i]).2.1 := by rw [eb, sI_1, up_s, ea, sI_1, up_n _ _ _ _ (by decide)]
    have b7 : b.1 7 = σ.1 7 := by rw [eb, sI_1, up_n _ _ _ _ (by decide), ea, sI_1, up_n _ _ _ _ (by decide)]
    refine ih (i + 1) b (by omega) ⟨by rw [fab.2.1 17 (by simp)]; exact h17, by rw [fab.1 10 (by omega) (by simp), fab.1 11 (by omega) (by simp)]; exact hR⟩ (by rw [b7]; exact h7) (fun j hj hji => ?_) (fun τ q1 q2 q3 q4 => hQ τ (fab.tr q1) q2 (fun i2 hi2 => ?_) (q4.trans b7))
    · rw [b8, b9]
      by_cases hj2 : j = i
      · subst hj2
        rw [ud_s, ud_s]
        exact ⟨rfl, rfl⟩
      · rw [ud_n _ _ _ _ (by omega), ud_n _ _ _ _ (by omega)]
        exact hpre j hj (by omega)
    · obtain ⟨z1, z2⟩ := q3 i2 hi2
      rw [z1, z2, b8, b9, ud_n _ _ _ _ (by omega), ud_n _ _ _ _ (by omega)]
      exact ⟨rfl, rfl⟩
theorem put_sp {p : Nat} {xs : List En} {σ : Sg} {Q : Int32 → Sg → Prop} (hp : p < 20) (hl : xs.length ≤ 60) (hh : hdR σ xs) (hQ : ∀ τ, putP p xs σ τ → Q (nI xs.length) τ) : wX8_put (nI p) σ Q := by
  unfold wX8_put
  refine ⟨vp_in_nI hp (by omega), ?_⟩
  rw [ncl (by omega), hh.1]
  refine lt_i (fun a ea => ⟨xs.length + 1, ?_⟩)
  have fa : Fm [7, 8, 9] [] σ a := by rw [ea]; exact Fm.row 7 _ (by decide) (by simp)
  have a7 : a.1 7 = upd (σ.1 7) p (nI xs.length) := by rw [ea, sI_1, up_s]
  have a8 : a.1 8 = σ.1 8 := by rw [ea, sI_1, up_n _ _ _ _ (by decide)]
  have a9 : a.1 9 = σ.1 9 := by rw [ea, sI_1, up_n _ _ _ _ (by decide)]
  refine put_loop hp hl xs.length 0 a (by omega) ⟨by rw [fa.2.1 17 (by simp)]; exact hh.1, by rw [fa.1 10 (by omega) (by simp), fa.1 11 (by omega) (by simp)]; exact hh.2⟩ (by rw [a7, ud_s]) (fun j _ hj => by omega) (fun τ q1 q2 q3 q4 => hQ τ ⟨fa.tr q1, q2, fun q ys hq hne hpl => ?_⟩)
  obtain ⟨g1, g2, g3⟩ := hpl
  refine ⟨g1, by rw [q4, a7, ud_n _ _ _ _ hne]; exact g2, Rw.congr g3 (fun i h1 h2 => ?_) (fun i h1 h2 => ?_)⟩
  · rw [(q3 i (by omega)).1, a8]
  · rw [(q3 i (by omega)).2, a9]
/-- flatten(): a tree's row comes behind the hand's -/
theorem hdR.snoc {σ : Sg} {xs : List En} {e : En} (h17 : σ.1 0 17 = nI (xs.length + 1)) (h : Rw (σ.1 10) (σ.1 11) 0 xs) (h1 : σ.1 10 xs.length = nI e.1) (h2 : σ.1 11 xs.length = e.2.1) : hdR σ (xs ++ [e]) := by
  refine ⟨by rw [List.length_append]; exact h17, Rw.app.mpr ⟨h, ?_⟩⟩
  rw [Rw.cons, Nat.zero_add]
  exact ⟨⟨h1, h2⟩, Rw.nil⟩
def ftI (t : Tr) (e : Nat) : Prop := ∀ (σ : Sg) (c : Int32) (N : Nat) (xs : List En) (Q : Sg → Prop), N ≤ 9000 → xs.length + tsz t ≤ 400 → rx σ t c N → hdR σ xs → (∀ τ, Fm [10, 11] [17] σ τ → hdR τ (xs ++ fl t) → Q τ) → wX8_flatten e c σ Q
theorem flatten_part {t : Tr} {e N : Nat} {σ : Sg} {c : Int32} {xs : List En} {B : Sg → Prop} (ht : wn t) (ih : wf t → ftI t e) (hN : N ≤ 9000) (hx : xs.length + tsz t ≤ 400) (hr : rx σ t c N) (hh : hdR σ xs) (hB : ∀ τ, Fm [10, 11] [17] σ τ → hdR τ (xs ++ fl t) → B τ) : if c < 0 then B σ else wX8_flatten e c σ B := by
  rcases ht with ht | rfl
  · have hr2 := hr
    obtain ⟨j, j1, rfl, -⟩ := kid ht hr
    rw [if_neg (nI_pos (by omega))]
    exact ih ht σ _ N xs B hN hx hr2 hh hB
  · rw [rx_nl] at hr
    subst hr
    rw [if_pos (by decide)]
    exact hB σ Fm.rf (by rw [fl_nl, List.append_nil]; exact hh)
theorem flatten_sp : ∀ t, wn t → wf t → ∀ e, tsz t ≤ e → ftI t e := by
  apply wf_gen
  · intro h
    exact absurd h wf_nl
  · intro k v x y z hw ix iy iz _ e he σ c N xs Q hN hx hr hh hQ
    rw [tsz_nd] at he hx
    obtain ⟨nx, ny, nz⟩ := wf_parts hw
    have flen : ∀ {p : Tr}, wn p → (fl p).length = tsz p := by
      intro p hp
      rcases hp with hp | rfl
      · exact fl_len p hp
      · rw [fl_nl, tsz_nl]; rfl
    cases e with
    | zero => omega
    | succ e =>
      rw [rx_nd] at hr
      obtain ⟨j, j1, rfl, r1, r2, r6, r3, r4, r5⟩ := hr
      have hin : vp_in (nI j) 9000 := vp_in_nI (by omega) (by omega)
      have hc : (nI j).toNatClampNeg = j := ncl (by omega)
      obtain ⟨h17, hR⟩ := hh
      show wX8_flatten_b (wX8_flatten e) (nI j) σ Q
      unfold wX8_flatten_b
      rw [h17, hc, r1, ncl (show xs.length < 2147483648 by omega)]
      refine ⟨hin, vp_in_nI (by omega) (by omega), lt_i (fun a ea => ?_)⟩
      have a17 : a.1 0 17 = nI xs.length := by rw [ea, sI_1, up_n _ _ _ _ (by decide)]; exact h17
      have a2 : a.1 2 = σ.1 2 := by rw [ea, sI_1, up_n _ _ _ _ (by decide)]
      rw [a17, a2, r2, ncl (show xs.length < 2147483648 by omega)]
      refine ⟨vp_in_nI (by omega) (by omega), lt_i (fun b eb => ?_)⟩
      have b17 : b.1 0 17 = nI xs.length := by rw [eb, sI_1, up_n _ _ _ _ (by decide)]; exact a17
      rw [b17]
      refine lt_i (fun g eg => ?_)
      have fa : Fm [10, 11] [17] σ a := by rw [ea]; exact Fm.row 10 _ (by decide) (by simp)
      have fb : Fm [10, 11] [17] a b := by rw [eb]; exact Fm.row 11 _ (by decide) (by simp)
      have fg : Fm [10, 11] [17] b g := by rw [eg]; exact Fm.put 17 _ (by simp)
      have fag := (fa.tr fb).tr fg
      have g10 : g.1 10 = upd (σ.1 10) xs.length (nI k) := by rw [eg, sI_1, up_n _ _ _ _ (by decide), eb, sI_1, up_n _ _ _ _ (by decide), ea, sI_1, up_s]
      have g11 : g.1 11 = upd (σ.1 11) xs.length v := by rw [eg, sI_1, up_n _ _ _ _ (by decide), eb, sI_1, up_s, ea, sI_1, up_n _ _ _ _ (by decide)]
      have g17 : g.1 0 17 = nI (xs.length + 1) := by rw [eg, sI_1, up_s, ud_s]; exact nI_1 _
      have gE : ∀ M, Ex σ g M := fun M => Ex.fm fag (fun r r1 r2 => by simp; omega)
      have hg : hdR g (xs ++ [(k, v, 1 + tsz x + tsz y + tsz z)]) := by
        refine hdR.snoc g17 (Rw.congr hR (fun i h1 h2 => ?_) (fun i h1 h2 => ?_)) (by rw [g10, ud_s]) (by rw [g11, ud_s])
        · rw [g10, ud_n _ _ _ _ (by omega)]
        · rw [g11, ud_n _ _ _ _ (by omega)]
      rw [(gE (j + 1)) 3 (by omega) (by omega) j (by omega)]
      refine flatten_part nx (fun q => ix q e (by omega)) (N := j) (by omega) (by rw [List.length_append, List.length_singleton]; omega) (rxn_ex nx r3 (gE j) (Nat.le_refl _)) hg (fun τ1 q1 q2 => ?_)
      have e1 := fag.tr q1
      have E1 : ∀ M, Ex σ τ1 M := fun M => Ex.fm e1 (fun r r1 r2 => by simp; omega)
      unfold wX8_flatten_59
      refine ⟨hin, ?_⟩
      rw [hc, (E1 (j + 1)) 4 (by omega) (by omega) j (by omega)]
      refine flatten_part ny (fun q => iy q e (by omega)) (N := j) (by omega) (by rw [List.length_append, List.length_append, List.length_singleton, flen nx]; omega) (rxn_ex ny r4 (E1 j) (Nat.le_refl _)) q2 (fun τ2 q3 q4 => ?_)
      have e2 := e1.tr q3
      have E2 : ∀ M, Ex σ τ2 M := fun M => Ex.fm e2 (fun r r1 r2 => by simp; omega)
      unfold wX8_flatten_78
      refine ⟨hin, ?_⟩
      rw [hc, (E2 (j + 1)) 5 (by omega) (by omega) j (by omega)]
      refine flatten_part nz (fun q => iz q e (by omega)) (N := j) (by omega) (by rw [List.length_append, List.length_append, List.length_append, List.length_singleton, flen nx, flen ny]; omega) (rxn_ex nz r5 (E2 j) (Nat.le_refl _)) q4 (fun τ3 q5 q6 => ?_)
      refine hQ τ3 (e2.tr q5) ?_
      rw [fl_nd]
      simpa [List.append_assoc] using q6

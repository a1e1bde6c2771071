/-! the class holds the bench -/
def MkC (σ : Sg) (t n : Nat) (so fa : Nat → Nat) : Prop := YC.2.1 t = 2 ∧ n ≤ 10 ∧ σ.1 t 2 = nI n ∧ ∀ i, i < n → so i ≤ 6 ∧ fa i ≤ 2 ∧ σ.1 (t + 1) i = nI (so i) ∧ σ.1 (t + 2) i = nI (fa i)
theorem MkC.gm {S : Nat → Prop} {σ τ : Sg} {t n : Nat} {so fa : Nat → Nat} (h : MkC σ t n so fa) (g : Gm S σ τ) (h0 : ∀ i, t ≤ i → i < t + 3 → ¬ S i) : MkC τ t n so fa := by
  obtain ⟨a, b, c, d⟩ := h
  refine ⟨a, b, by rw [g.1 t (h0 t (by omega) (by omega))]; exact c, fun i hi => ?_⟩
  rw [g.1 _ (h0 (t + 1) (by omega) (by omega)), g.1 _ (h0 (t + 2) (by omega) (by omega))]
  exact d i hi
/-- which tree is read, which is written -/
def OrW (σ : Sg) : Prop := (σ.2.2 16 2 = 19 ∧ σ.2.2 16 3 = 23) ∨ (σ.2.2 16 2 = 23 ∧ σ.2.2 16 3 = 19)
def RC (A : Ab) (σ : Sg) : Prop :=
  (∀ p, p < 20 → TrR σ (53 + 4 * p) (fl (aP A p))) ∧
  (TrR σ 9 (pfl (aL A)) ∧ σ.1 8 2 = nI (aL A).length ∧ ∀ i, i < (aL A).length → σ.1 13 i = nI (psz ((aL A).take i))) ∧
  (σ.1 0 10 = nI (aM A) ∧ ∀ m, m < 8 → MkC σ (133 + 3 * m) (aT A m) (aS A m) (aF A m)) ∧
  TrR σ 41 (fl (aG A)) ∧ σ.1 0 11 = aD A ∧ GrR σ ∧ TrR σ 49 (fl (nm 0)) ∧ OrW σ
abbrev Sc : Nat → Prop := fun i => i = 1 ∨ i = 5 ∨ i = 6 ∨ i = 7 ∨ (16 ≤ i ∧ i < 41) ∨ (45 ≤ i ∧ i < 49)
section
variable {A : Ab} {σ τ : Sg}
theorem RC.sc (h : RC A σ) (g : Gm Sc σ τ) (o : OrW τ) : RC A τ := by
  obtain ⟨h1, ⟨h2, h3, h4⟩, ⟨h5, h6⟩, h7, h8, h9, h10, -⟩ := h
  refine ⟨fun p hp => (h1 p hp).gm g (fun i x y => by unfold Sc; omega), ⟨h2.gm g (fun i x y => by unfold Sc; omega), ?_, fun i hi => ?_⟩, ⟨?_, fun m hm => (h6 m hm).gm g (fun i x y => by unfold Sc; omega)⟩, h7.gm g (fun i x y => by unfold Sc; omega), ?_, h9.gm g (by unfold Sc; omega) (by unfold Sc; omega), h10.gm g (fun i x y => by unfold Sc; omega), o⟩
  · rw [g.1 8 (by unfold Sc; omega)]; exact h3
  · rw [g.1 13 (by unfold Sc; omega)]; exact h4 i hi
  · rw [g.1 0 (by unfold Sc; omega)]; exact h5
  · rw [g.1 0 (by unfold Sc; omega)]; exact h8
theorem OrW.gm {S : Nat → Prop} (h : OrW σ) (g : Gm S σ τ) (h0 : ¬ S 16) : OrW τ := by
  unfold OrW
  rw [g.2.2 16 h0]
  exact h
theorem RC.s2 {S : Nat → Prop} (h : RC A σ) (g : Gm S σ τ) (hS : ∀ i, S i → Sc i) (h0 : ¬ S 16) : RC A τ := h.sc (g.wk hS) (h.2.2.2.2.2.2.2.gm g h0)
theorem RC.pl {p : Nat} {t : Tr} (h : RC A σ) (hp : p < 20) (g : Gm (fun i => 53 + 4 * p ≤ i ∧ i < 53 + 4 * p + 4) σ τ) (ht : TrR τ (53 + 4 * p) (fl t)) : RC (sP A p t) τ := by
  obtain ⟨h1, ⟨h2, h3, h4⟩, ⟨h5, h6⟩, h7, h8, h9, h10, h11⟩ := h
  refine ⟨fun p' hp' => ?_, ⟨h2.gm g (fun i x y => by omega), ?_, fun i hi => ?_⟩, ⟨?_, fun m hm => (h6 m hm).gm g (fun i x y => by omega)⟩, h7.gm g (fun i x y => by omega), ?_, h9.gm g (by omega) (by omega), h10.gm g (fun i x y => by omega), h11.gm g (by omega)⟩
  · show TrR τ (53 + 4 * p') (fl (if p' = p then t else aP A p'))
    by_cases e : p' = p
    · rw [if_pos e, e]; exact ht
    · rw [if_neg e]; exact (h1 p' hp').gm g (fun i x y => by omega)
  · rw [g.1 8 (by omega)]; exact h3
  · rw [g.1 13 (by omega)]; exact h4 i hi
  · rw [g.1 0 (by omega)]; exact h5
  · rw [g.1 0 (by omega)]; exact h8
theorem RC.pile {L : List Tr} (h : RC A σ) (g : Gm (fun i => 8 ≤ i ∧ i < 14) σ τ) (g1 : TrR τ 9 (pfl L)) (g2 : τ.1 8 2 = nI L.length) (g3 : ∀ i, i < L.length → τ.1 13 i = nI (psz (L.take i))) : RC (sL A L) τ := by
  obtain ⟨h1, -, ⟨h5, h6⟩, h7, h8, h9, h10, h11⟩ := h
  refine ⟨fun p hp => (h1 p hp).gm g (fun i x y => by omega), ⟨g1, g2, g3⟩, ⟨?_, fun m hm => (h6 m hm).gm g (fun i x y => by omega)⟩, h7.gm g (fun i x y => by omega), ?_, h9.gm g (by omega) (by omega), h10.gm g (fun i x y => by omega), h11.gm g (by omega)⟩
  · rw [g.1 0 (by omega)]; exact h5
  · rw [g.1 0 (by omega)]; exact h8
theorem RC.fnd {t : Tr} (h : RC A σ) (g : Gm (fun i => 41 ≤ i ∧ i < 45) σ τ) (ht : TrR τ 41 (fl t)) : RC (sG A t) τ := by
  obtain ⟨h1, ⟨h2, h3, h4⟩, ⟨h5, h6⟩, -, h8, h9, h10, h11⟩ := h
  refine ⟨fun p hp => (h1 p hp).gm g (fun i x y => by omega), ⟨h2.gm g (fun i x y => by omega), ?_, fun i hi => ?_⟩, ⟨?_, fun m hm => (h6 m hm).gm g (fun i x y => by omega)⟩, ht, ?_, h9.gm g (by omega) (by omega), h10.gm g (fun i x y => by omega), h11.gm g (by omega)⟩
  · rw [g.1 8 (by omega)]; exact h3
  · rw [g.1 13 (by omega)]; exact h4 i hi
  · rw [g.1 0 (by omega)]; exact h5
  · rw [g.1 0 (by omega)]; exact h8
theorem RC.mkr {M : Mk} (h : RC A σ) (g : Gm (fun i => i = 0 ∨ (133 ≤ i ∧ i < 157)) σ τ) (g1 : τ.1 0 10 = nI M.1) (g2 : τ.1 0 11 = σ.1 0 11) (g3 : ∀ m, m < 8 → MkC τ (133 + 3 * m) (M.2.1 m) (M.2.2.1 m) (M.2.2.2 m)) : RC (sM A M) τ := by
  obtain ⟨h1, ⟨h2, h3, h4⟩, -, h7, h8, h9, h10, h11⟩ := h
  refine ⟨fun p hp => (h1 p hp).gm g (fun i x y => by omega), ⟨h2.gm g (fun i x y => by omega), ?_, fun i hi => ?_⟩, ⟨g1, g3⟩, h7.gm g (fun i x y => by omega), g2.trans h8, h9.gm g (by omega) (by omega), h10.gm g (fun i x y => by omega), h11.gm g (by omega)⟩
  · rw [g.1 8 (by omega)]; exact h3
  · rw [g.1 13 (by omega)]; exact h4 i hi
theorem RC.stp {v : Int32} (h : RC A σ) (e : τ = sI σ 0 (upd (σ.1 0) 11 v)) : RC (sD A v) τ := by
  have g : Gm (fun i => i = 0) σ τ := by rw [e]; exact Gm.i 0 _ rfl
  obtain ⟨h1, ⟨h2, h3, h4⟩, ⟨h5, h6⟩, h7, h8, h9, h10, h11⟩ := h
  refine ⟨fun p hp => (h1 p hp).gm g (fun i x y => by omega), ⟨h2.gm g (fun i x y => by omega), ?_, fun i hi => ?_⟩, ⟨?_, fun m hm => (h6 m hm).gm g (fun i x y => by omega)⟩, h7.gm g (fun i x y => by omega), ?_, h9.gm g (by omega) (by omega), h10.gm g (fun i x y => by omega), h11.gm g (by omega)⟩
  · rw [g.1 8 (by omega)]; exact h3
  · rw [g.1 13 (by omega)]; exact h4 i hi
  · rw [e, sI_1, up_s, ud_n _ _ _ _ (by decide)]; exact h5
  · rw [e, sI_1, up_s, ud_s]; rfl
theorem opt_s {P : Prop} {R : Nat → Prop} {z : Nat} (h : R z) : ((some z = none → P) ∧ ∀ y, some z = some y → R y) := ⟨fun e => (by cases e), fun y e => by have := Option.some.inj e; rw [← this]; exact h⟩
theorem opt_n {P : Prop} {R : Nat → Prop} (h : P) : (((none : Option Nat) = none → P) ∧ ∀ y, (none : Option Nat) = some y → R y) := ⟨fun _ => h, fun y e => by cases e⟩
variable {Q : Int32 → Sg → Prop} {O : Option Nat → Sg → Prop}
/-- an int within bounds -/
theorem wi {x : Int32} (lo hi : Nat) (l h : Int) (el : l = (lo : Int)) (eh : h = (hi : Int)) (hl : lo < 1000) (hh : hi < 1000) (h1 : ∀ p, lo ≤ p → p ≤ hi → x = nI p → iy l h x = some p → Q 1 σ) (h0 : iy l h x = none → Q 0 σ) : wX7_within x (nI lo) (nI hi) σ Q := by
  subst el; subst eh
  have e1 : (nI lo).toInt = lo := nI_toInt (by omega)
  have e2 : (nI hi).toInt = hi := nI_toInt (by omega)
  unfold wX7_within
  by_cases a : x < nI lo
  · rw [if_pos a]
    rw [Int32.lt_iff_toInt_lt, e1] at a
    refine h0 ?_
    unfold iy
    rw [if_neg (by omega)]
  · rw [if_neg a]
    rw [Int32.lt_iff_toInt_lt, e1] at a
    by_cases b : nI hi < x
    · rw [if_pos b]
      rw [Int32.lt_iff_toInt_lt, e2] at b
      refine h0 ?_
      unfold iy
      rw [if_neg (by omega)]
    · rw [if_neg b]
      rw [Int32.lt_iff_toInt_lt, e2] at b
      have ex : x = nI x.toInt.toNat := by
        rw [← Int32.toInt_inj, nI_toInt (by omega)]
        omega
      refine h1 x.toInt.toNat (by omega) (by omega) ex ?_
      unfold iy
      rw [if_pos (by omega)]
theorem pl_c {x : Int32} (h1 : ∀ p, p < 20 → x = nI p → iy 0 19 x = some p → O (some (53 + 4 * p)) σ) (h0 : iy 0 19 x = none → O none σ) : wX7_placeAt x σ O := by
  unfold wX7_placeAt
  refine wi 0 19 0 19 rfl rfl (by omega) (by omega) (fun p _ p2 e g => ?_) (fun g => ?_)
  · subst e
    rw [if_neg (by decide), ncl (by omega)]
    exact ⟨vp_in_nI (by omega) (by omega), h1 p (by omega) rfl g⟩
  · rw [if_pos rfl]
    exact h0 g
theorem fl_0 {t : Tr} (h : wn t) : (fl t).length = tsz t := fln h
theorem pg_c {x : Int32} (ok : okA A) (h : RC A σ) (h1 : ∀ p, p < 20 → x = nI p → wf (aP A p) → tsz (aP A p) ≤ 60 → pg A x = some p → O (some (53 + 4 * p)) σ) (h0 : pg A x = none → O none σ) : wX7_programAt x σ O := by
  unfold wX7_programAt wX7_programAt_17
  refine pl_c (fun p hp e g => opt_s ?_) (fun g => opt_n ?_)
  · have hT := h.1 p hp
    obtain ⟨w, s⟩ := ok.1 p hp
    refine ⟨hT.1, ?_⟩
    rw [hT.2.2.2.1, fln w]
    by_cases z : tsz (aP A p) = 0
    · rw [z, if_pos (by decide)]
      refine h0 ?_
      unfold pg
      rw [g]
      dsimp only
      rw [if_pos z]
    · rw [if_neg (show ¬ nI (tsz (aP A p)) = (0 : Int32) from ni_k (c := 0) (by omega) (by omega) z)]
      refine h1 p hp e (wn_1 w z) s ?_
      unfold pg
      rw [g]
      dsimp only
      rw [if_neg z]
  · refine h0 ?_
    unfold pg
    rw [g]
theorem mk_c {x : Int32} (ok : okA A) (h : RC A σ) (h1 : ∀ m, m < 8 → m < aM A → x = nI m → mg A x = some m → MkC σ (133 + 3 * m) (aT A m) (aS A m) (aF A m) → O (some (133 + 3 * m)) σ) (h0 : mg A x = none → O none σ) : wX7_makerAt x σ O := by
  have o := ok.2.2.2.1
  unfold wX7_makerAt wX7_within
  rw [h.2.2.1.1]
  have e1 : (nI (aM A) - 1).toInt = (aM A : Int) - 1 := pk_sub_toInt (b := 1) (by omega) (by omega)
  have e0 : (0 : Int32).toInt = 0 := by decide
  by_cases a : x < 0
  · rw [if_pos a]
    dsimp only
    rw [if_pos rfl]
    rw [Int32.lt_iff_toInt_lt, e0] at a
    refine h0 ?_
    unfold mg iy
    rw [if_neg (by omega)]
  · rw [if_neg a]
    rw [Int32.lt_iff_toInt_lt, e0] at a
    by_cases b : nI (aM A) - 1 < x
    · rw [if_pos b]
      dsimp only
      rw [if_pos rfl]
      rw [Int32.lt_iff_toInt_lt, e1] at b
      refine h0 ?_
      unfold mg iy
      rw [if_neg (by omega)]
    · rw [if_neg b]
      dsimp only
      rw [if_neg (by decide)]
      rw [Int32.lt_iff_toInt_lt, e1] at b
      have ex : x = nI x.toInt.toNat := by
        rw [← Int32.toInt_inj, nI_toInt (by omega)]
        omega
      have gm : mg A x = some x.toInt.toNat := by
        unfold mg iy
        rw [if_pos (by omega)]
      have hm : x.toInt.toNat < aM A := by omega
      generalize x.toInt.toNat = m at ex gm hm
      subst ex
      rw [if_neg (show ¬ (8 : Int32) ≤ nI m from nI_ge (b := 8) (by omega) (by omega)), ncl (by omega)]
      exact ⟨vp_in_nI (by omega) (by omega), h1 m (by omega) hm rfl gm (h.2.2.1.2 m (by omega))⟩
/-- a maker's turn by its number -/
theorem hm_c {x : Int32} {t n : Nat} {so fa : Nat → Nat} (h : MkC σ t n so fa) (h1 : ∀ i, i < n → x = nI i → iy 0 ((n : Int) - 1) x = some i → Q 1 σ) (h0 : iy 0 ((n : Int) - 1) x = none → Q 0 σ) : wX2_has t x σ Q := by
  obtain ⟨a, b, c, d⟩ := h
  have e0 : (0 : Int32).toInt = 0 := by decide
  unfold wX2_has
  by_cases z : x < 0
  · rw [if_pos z]
    rw [Int32.lt_iff_toInt_lt, e0] at z
    refine h0 ?_
    unfold iy
    rw [if_neg (by omega)]
  · rw [if_neg z, c]
    refine ⟨a, ?_⟩
    obtain ⟨i, i1, i2⟩ := nI_of z
    subst i2
    by_cases y : n ≤ i
    · rw [if_pos (nI_le y i1)]
      refine h0 ?_
      unfold iy
      rw [nI_toInt i1, if_neg (by omega)]
    · rw [if_neg (nI_ge (by omega) (by omega))]
      exact h1 i (by omega) rfl (iy_y (by omega) (by omega) i1)
theorem so_c {i t n : Nat} {so fa : Nat → Nat} (h : MkC σ t n so fa) (hi : i < n) (hQ : Q (nI (so i)) σ) : wX2_sortOf t (nI i) σ Q := by
  unfold wX2_sortOf
  have b := h.2.1
  refine ⟨h.1, hm_c h (fun j hj e _ => ?_) (fun z => ?_)⟩
  · rw [if_neg (by decide), ncl (by omega), (h.2.2.2 i hi).2.2.1]
    exact ⟨vp_in_nI (by omega) (by omega), hQ⟩
  · rw [iy_y (p := i) (by omega) (by omega) (by omega)] at z
    cases z
theorem fa_c {i t n : Nat} {so fa : Nat → Nat} (h : MkC σ t n so fa) (hi : i < n) (hQ : Q (nI (fa i)) σ) : wX2_faultOf t (nI i) σ Q := by
  unfold wX2_faultOf
  have b := h.2.1
  refine ⟨h.1, hm_c h (fun j hj e _ => ?_) (fun z => ?_)⟩
  · rw [if_neg (by decide), ncl (by omega), (h.2.2.2 i hi).2.2.2]
    exact ⟨vp_in_nI (by omega) (by omega), hQ⟩
  · rw [iy_y (p := i) (by omega) (by omega) (by omega)] at z
    cases z
/-- what a row says of a node -/
theorem tell_c {t : Nat} {u : Tr} {x y : Int32} (hu : wn u) (hs : tsz u ≤ 200) (h : TrR σ t (fl u)) (hQ : Q (tel u x y) σ) : wX7_tell t x y σ Q := by
  have len := fln hu
  have e0 : (0 : Int32).toInt = 0 := by decide
  unfold wX7_tell
  refine ⟨h.1, ?_⟩
  unfold wX5_has
  by_cases z : x < 0
  · rw [if_pos z]
    dsimp only
    rw [if_pos rfl]
    rw [Int32.lt_iff_toInt_lt, e0] at z
    unfold tel at hQ
    unfold iy at hQ
    rw [if_neg (by omega)] at hQ
    exact hQ
  · rw [if_neg z, h.2.2.2.1, len]
    refine ⟨h.1, ?_⟩
    obtain ⟨i, i1, i2⟩ := nI_of z
    subst i2
    by_cases yy : tsz u ≤ i
    · rw [if_pos (nI_le yy i1)]
      dsimp only
      rw [if_pos rfl]
      have e : iy 0 ((tsz u : Int) - 1) (nI i) = none := by
        unfold iy
        rw [nI_toInt i1, if_neg (by omega)]
      unfold tel at hQ
      rw [e] at hQ
      exact hQ
    · rw [if_neg (nI_ge (by omega) (by omega))]
      dsimp only
      rw [if_neg (by decide)]
      have e : iy 0 ((tsz u : Int) - 1) (nI i) = some i := iy_y (by omega) (by omega) i1
      have hl : i < (fl u).length := by omega
      have ge : (fl u)[i]? = some (fl u)[i] := List.getElem?_eq_getElem hl
      unfold tel at hQ
      rw [e] at hQ
      by_cases y0 : y = 0
      · subst y0
        rw [if_pos rfl]
        refine kindOf_sp h (by omega) ?_
        rw [en_lt hl]
        rw [show iy 0 2 (0 : Int32) = some 0 from iy_y (p := 0) (by omega) (by omega) (by omega)] at hQ
        simpa [ge] using hQ
      rw [if_neg y0]
      by_cases y1 : y = 1
      · subst y1
        rw [if_pos rfl]
        refine numberOf_sp h (by omega) ?_
        rw [en_lt hl]
        rw [show iy 0 2 (1 : Int32) = some 1 from iy_y (p := 1) (by omega) (by omega) (by omega)] at hQ
        simpa [ge] using hQ
      rw [if_neg y1]
      by_cases y2 : y = 2
      · subst y2
        rw [if_pos rfl]
        refine sizeOf_sp h (by omega) ?_
        rw [en_lt hl]
        rw [show iy 0 2 (2 : Int32) = some 2 from iy_y (p := 2) (by omega) (by omega) (by omega)] at hQ
        simpa [ge] using hQ
      rw [if_neg y2]
      have en : iy 0 2 y = none := iy_n (by omega) (fun p a b e => by
        have p3 : p = 0 ∨ p = 1 ∨ p = 2 := by omega
        rcases p3 with rfl | rfl | rfl
        · exact y0 e
        · exact y1 e
        · exact y2 e)
      rw [en] at hQ
      exact hQ
end

/-! how many programs of a size there are; the reference's counts -/
def cnt (n : Nat) : Nat := ([0, 5, 5, 105, 430, 5105, 34755, 348380, 2924605, 28202305, 258968105, 2503103255, 23983477380, 234726648480, 2302782400430, 22833227864855] : List Nat).getD n 0
def prs (n : Nat) : Nat := ([0, 0, 25, 50, 1075, 5350, 66375, 488900, 5088300, 44418700, 440379225, 4140326500, 40823227775, 397579201550, 3948068964450, 39206443890600] : List Nat).getD n 0
def thr (n : Nat) : Nat := ([0, 0, 0, 125, 375, 8250, 48125, 620625, 4924500, 53091000, 482618250, 4919068125, 47450260000, 477738945750, 4738169606625, 47805012778250] : List Nat).getD n 0
/-- sums of f 1 .. f n -/
def sm (f : Nat → Nat) : Nat → Nat
  | 0 => 0
  | n + 1 => sm f n + f (n + 1)
theorem prs_eq : ∀ n, n < 16 → prs n = sm (fun s => cnt s * cnt (n - s)) (n - 1) := by decide +kernel
theorem thr_eq : ∀ n, n < 16 → thr n = sm (fun s => cnt s * prs (n - s)) (n - 1) := by decide +kernel
theorem cnt_eq : ∀ n, n < 14 → cnt (n + 2) = cnt (n + 1) + 4 * prs (n + 1) + thr (n + 1) := by decide +kernel
theorem cnt_lt : ∀ n, n < 16 → cnt n < 40000000000000 ∧ prs n < 400000000000000 ∧ thr n < 40000000000000000 := by decide +kernel
theorem cnt_pos : ∀ n, n < 16 → 1 ≤ n → 1 ≤ cnt n := by decide +kernel
theorem in_gen {a lo hi : Int64} {σ : Sg} {Q : Int32 → Sg → Prop} (h1 : lo ≤ a → a ≤ hi → Q 1 σ) (h0 : ¬ (lo ≤ a ∧ a ≤ hi) → Q 0 σ) : wX8_in a lo hi σ Q := by
  unfold wX8_in
  by_cases q : a < lo
  · rw [if_pos q]
    exact h0 (fun z => absurd q (Int64.not_lt.mpr z.1))
  · rw [if_neg q]
    by_cases r : hi < a
    · rw [if_pos r]
      exact h0 (fun z => absurd r (Int64.not_lt.mpr z.2))
    · rw [if_neg r]
      exact h1 (Int64.not_lt.mp q) (Int64.not_lt.mp r)
/-- an int within lo .. hi -/
theorem in_sp {x : Int32} (lo hi : Nat) {σ : Sg} {Q : Int32 → Sg → Prop} (hh : hi < 1000) (hl : lo < 1000) (h1 : ∀ p, lo ≤ p → p ≤ hi → x = nI p → Q 1 σ) (h0 : (∀ p, lo ≤ p → p ≤ hi → x ≠ nI p) → Q 0 σ) : wX8_in (Int32.toInt64 x) (lN lo) (lN hi) σ Q := by
  have e1 := pk_lT (n := lo) (by omega)
  have e2 := pk_lT (n := hi) (by omega)
  refine in_gen (fun a b => ?_) (fun a => ?_)
  · rw [Int64.le_iff_toInt_le, Int32.toInt_toInt64, e1] at a
    rw [Int64.le_iff_toInt_le, Int32.toInt_toInt64, e2] at b
    refine h1 x.toInt.toNat (by omega) (by omega) ?_
    rw [← Int32.toInt_inj, nI_toInt (by omega)]
    omega
  · refine h0 (fun p p1 p2 q => a ⟨?_, ?_⟩)
    · rw [Int64.le_iff_toInt_le, Int32.toInt_toInt64, e1, q, nI_toInt (by omega)]; omega
    · rw [Int64.le_iff_toInt_le, Int32.toInt_toInt64, e2, q, nI_toInt (by omega)]; omega
theorem isPlace_sp {x : Int32} {σ : Sg} {Q : Int32 → Sg → Prop} (h1 : ∀ p, p < 20 → x = nI p → Q 1 σ) (h0 : (∀ p, p < 20 → x ≠ nI p) → Q 0 σ) : wX8_isPlace x σ Q := by
  unfold wX8_isPlace
  refine in_sp 0 19 (by omega) (by omega) (fun p _ p2 e => ⟨by decide, h1 p (by omega) e⟩) (fun q => ⟨by decide, h0 (fun p hp => q p (by omega) (by omega))⟩)
/-- the places: what each holds -/
def PlR (σ : Sg) (pl : Nat → List En) : Prop := ∀ p, p < 20 → plR σ p (pl p)
theorem has_sp {x : Int32} {pl : Nat → List En} {σ : Sg} {Q : Int32 → Sg → Prop} (hp : PlR σ pl) (h1 : ∀ p, p < 20 → x = nI p → pl p ≠ [] → Q 1 σ) (h0 : (∀ p, p < 20 → x = nI p → pl p = []) → Q 0 σ) : wX8_has x σ Q := by
  unfold wX8_has
  refine isPlace_sp (fun p hp20 e => ?_) (fun q => ?_)
  · subst e
    obtain ⟨a, b, c⟩ := hp p hp20
    rw [if_neg (by decide)]
    refine ⟨vp_in_nI hp20 (by omega), ?_⟩
    rw [ncl (by omega), b]
    by_cases z : pl p = []
    · rw [z, if_pos (by decide)]
      refine h0 (fun p2 q2 q3 => ?_)
      have : p = p2 := (nI_eq (by omega) (by omega)).mp q3
      rw [← this]; exact z
    · have : 1 ≤ (pl p).length := by
        cases hh : pl p with
        | nil => exact absurd hh z
        | cons e l => simp
      rw [if_neg (show ¬ nI (pl p).length ≤ (0 : Int32) from nI_ge (a := 0) (by omega) (by omega))]
      exact h1 p hp20 rfl z
  · rw [if_pos (by decide)]
    exact h0 (fun p hp20 e => absurd e (q p hp20))
/-- the counts are there -/
def cnR (σ : Sg) : Prop := ∀ i, i < 16 → σ.2.1 12 i = lN (cnt i)
theorem cnR.fm {S T : List Nat} {σ τ : Sg} (h : cnR σ) (hF : Fm S T σ τ) : cnR τ := fun i hi => by rw [hF.2.2]; exact h i hi
theorem pairs_loop {n : Nat} {σ : Sg} {Q : Int64 → Sg → Prop} (hn : n < 16) (hc : ∀ i, i < n → σ.2.1 12 i = lN (cnt i)) (hQ : Q (lN (prs n)) σ) : ∀ (k s : Nat), s + k = n → 1 ≤ s → wX8_pairs_5 Q (k + 1) (nI n) (lN (sm (fun s => cnt s * cnt (n - s)) (s - 1))) (nI s) σ := by
  intro k
  induction k with
  | zero =>
    intro s hs h1
    show wX8_pairs_5_b (wX8_pairs_5 Q 0) (nI n) _ (nI s) σ Q
    unfold wX8_pairs_5_b
    rw [if_pos (nI_le (by omega) (by omega))]
    rw [prs_eq n hn] at hQ
    rw [show s - 1 = n - 1 by omega]
    exact hQ
  | succ k ih =>
    intro s hs h1
    show wX8_pairs_5_b (wX8_pairs_5 Q (k + 1)) (nI n) _ (nI s) σ Q
    unfold wX8_pairs_5_b
    rw [if_neg (nI_ge (by omega) (by omega)), pk_sub (by omega)]
    refine ⟨vp_in_nI (by omega) (by omega), vp_in_nI (by omega) (by omega), ?_⟩
    rw [ncl (by omega), ncl (by omega), hc s (by omega), hc (n - s) (by omega), lN_mul, lN_add]
    refine lt_i (fun a ea => lt_i (fun x ex => ?_))
    have ex : x = nI (s + 1) := by rw [ex]; exact nI_1 s
    rw [ex, ea]
    have := ih (s + 1) (by omega) (by omega)
    rw [show s + 1 - 1 = (s - 1) + 1 by omega, sm, show s - 1 + 1 = s by omega] at this
    exact this
theorem pairs_sp {n : Nat} {σ : Sg} {Q : Int64 → Sg → Prop} (hn : n < 16) (h1 : 1 ≤ n) (hc : cnR σ) (hQ : Q (lN (prs n)) σ) : wX8_pairs (nI n) σ Q := by
  unfold wX8_pairs
  exact ⟨(n - 1) + 1, pairs_loop hn (fun i hi => hc i (by omega)) hQ (n - 1) 1 (by omega) (by omega)⟩
theorem pairs_spK {n : Nat} {σ : Sg} {Q : Int64 → Sg → Prop} (hn : n < 16) (h1 : 1 ≤ n) (hc : ∀ i, i < n → σ.2.1 12 i = lN (cnt i)) (hQ : Q (lN (prs n)) σ) : wX8_pairs (nI n) σ Q := by
  unfold wX8_pairs
  exact ⟨(n - 1) + 1, pairs_loop hn hc hQ (n - 1) 1 (by omega) (by omega)⟩
theorem hand_sp {k : Nat} {v : Int32} {s : Nat} {xs : List En} {σ : Sg} {Q : Sg → Prop} (hl : xs.length < 400) (hh : hdR σ xs) (hQ : ∀ τ, Fm [10, 11] [17] σ τ → hdR τ (xs ++ [(k, v, s)]) → Q τ) : wX8_hand (nI k) v σ Q := by
  obtain ⟨h17, hR⟩ := hh
  unfold wX8_hand
  rw [h17, ncl (show xs.length < 2147483648 by omega)]
  refine ⟨vp_in_nI (by omega) (by omega), lt_i (fun a ea => ?_)⟩
  have a17 : a.1 0 17 = nI xs.length := by rw [ea, sI_1, up_n _ _ _ _ (by decide)]; exact h17
  rw [a17, ncl (show xs.length < 2147483648 by omega)]
  refine ⟨vp_in_nI (by omega) (by omega), lt_i (fun b eb => ?_)⟩
  have b17 : b.1 0 17 = nI xs.length := by rw [eb, sI_1, up_n _ _ _ _ (by decide)]; exact a17
  rw [b17]
  refine lt_i (fun g eg => ?_)
  have fa : Fm [10, 11] [17] σ a := by rw [ea]; exact Fm.row 10 _ (by decide) (by simp)
  have fb : Fm [10, 11] [17] a b := by rw [eb]; exact Fm.row 11 _ (by decide) (by simp)
  have fg : Fm [10, 11] [17] b g := by rw [eg]; exact Fm.put 17 _ (by simp)
  have g10 : g.1 10 = upd (σ.1 10) xs.length (nI k) := by rw [eg, sI_1, up_n _ _ _ _ (by decide), eb, sI_1, up_n _ _ _ _ (by decide), ea, sI_1, up_s]
  have g11 : g.1 11 = upd (σ.1 11) xs.length v := by rw [eg, sI_1, up_n _ _ _ _ (by decide), eb, sI_1, up_s, ea, sI_1, up_n _ _ _ _ (by decide)]
  refine hQ g ((fa.tr fb).tr fg) (hdR.snoc ?_ (Rw.congr hR (fun i h1 h2 => ?_) (fun i h1 h2 => ?_)) (by rw [g10, ud_s]) (by rw [g11, ud_s]))
  · rw [eg, sI_1, up_s, ud_s]; exact nI_1 _
  · rw [g10, ud_n _ _ _ _ (by omega)]
  · rw [g11, ud_n _ _ _ _ (by omega)]

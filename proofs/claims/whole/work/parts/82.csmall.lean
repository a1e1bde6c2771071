/-! the class's calls: shown, small -/
section
variable {A : Ab} {T : Tr} {σ : Sg} {Q : Int32 → Sg → Prop} {k m q : Nat}
theorem faulty_2 {B0 B1 : Sg → Prop} (m8 : m < 8) (hT : wf T) (hs : tsz T ≤ 200) (hk : k ≤ 6) (h : RC A σ) (hq : TrR σ q (fl T)) (hq2 : q + 4 ≤ 16 ∨ 41 ≤ q) (h1 : shB (aS A m) (aF A m) (aT A m) k T = true → ∀ τ, RC A τ → TrR τ q (fl T) → B1 τ) (h0 : shB (aS A m) (aF A m) (aT A m) k T = false → ∀ τ, RC A τ → TrR τ q (fl T) → B0 τ) : wX6_make (133 + 3 * m) q (σ.1 (133 + 3 * m) 2) σ fun r_3 σ_2 => if r_3 ≤ 0 then B0 σ_2 else wX7_showsFault q (nI k) σ_2 fun r_5 σ_4 => if r_5 = 0 then B0 σ_4 else B1 σ_4 := by
  have := faulty_in (B := fun r τ => if r = 0 then B0 τ else B1 τ) m8 hT hs hk h hq hq2 (fun τ r1 q1 => by
    cases z : shB (aS A m) (aF A m) (aT A m) k T with
    | true => rw [if_neg (by decide)]; exact h1 z τ r1 q1
    | false => rw [if_pos (by decide)]; exact h0 z τ r1 q1)
  simp only [↓reduceIte] at this
  exact this
theorem faulty_sp (m8 : m < 8) (hT : wf T) (hs : tsz T ≤ 200) (hk : k ≤ 6) (h : RC A σ) (hq : TrR σ q (fl T)) (hq2 : q + 4 ≤ 16 ∨ 41 ≤ q) (hQ : ∀ τ, RC A τ → TrR τ q (fl T) → Q (bI (shB (aS A m) (aF A m) (aT A m) k T)) τ) : wX7_isFaulty (133 + 3 * m) q (nI k) σ Q := by
  unfold wX7_isFaulty
  refine ⟨(h.2.2.1.2 m m8).1, ?_⟩
  refine faulty_2 m8 hT hs hk h hq hq2 (fun z τ r1 q1 => ?_) (fun z τ r1 q1 => ?_)
  · have := hQ τ r1 q1
    rw [z] at this
    exact this
  · have := hQ τ r1 q1
    rw [z] at this
    exact this
theorem shown_c {n w : Nat} (m8 : m < 8) (n1 : 1 ≤ n) (n5 : n ≤ 5) (k2 : k ≤ 2) (w1 : w ≤ 1) (P : Nat → Bool) (hP : P = fun i => if w = 0 then sfB k (ng n i) else shB (aS A m) (aF A m) (aT A m) k (ng n i)) (hQ : ∀ ρ, RC A ρ → Q (nI (ctB P (cnt n))) ρ) :
    ∀ (e i : Nat) (τ : Sg), i + e = cnt n → RC A τ → wX7_shown_58 Q (e + 1) (nI n) (nI k) (nI w) (133 + 3 * m) (nI (ctB P i)) (lN (cnt n)) (lN i) τ := by
  have cl := (cnt_lt n (by omega)).1
  intro e
  induction e with
  | zero =>
    intro i τ hi h
    show wX7_shown_58_b (wX7_shown_58 Q 0) (nI n) (nI k) (nI w) (133 + 3 * m) (nI (ctB P i)) (lN (cnt n)) (lN i) τ Q
    unfold wX7_shown_58_b
    rw [if_pos ((pk_lLE (by omega) (by omega)).mpr (by omega)), show i = cnt n by omega]
    exact hQ τ h
  | succ e ih =>
    intro i τ hi h
    show wX7_shown_58_b (wX7_shown_58 Q (e + 1)) (nI n) (nI k) (nI w) (133 + 3 * m) (nI (ctB P i)) (lN (cnt n)) (lN i) τ Q
    unfold wX7_shown_58_b
    rw [if_neg (fun z => absurd ((pk_lLE (by omega) (by omega)).mp z) (by omega))]
    have no : P i = false → ∀ ρ, RC A ρ → wX7_shown_117 (wX7_shown_58 Q (e + 1)) (nI n) (nI k) (nI w) (133 + 3 * m) (nI (ctB P i)) (lN (cnt n)) (lN i) ρ Q := fun q ρ hρ => by
      unfold wX7_shown_117
      refine lt_i (fun x ex => ?_)
      rw [ex, lN_1]
      have := ih (i + 1) ρ (by omega) hρ
      rw [ctB, q] at this
      exact this
    have yes : P i = true → ∀ ρ, RC A ρ → wX7_shown_114 (wX7_shown_58 Q (e + 1)) (nI n) (nI k) (nI w) (133 + 3 * m) (nI (ctB P i)) (lN (cnt n)) (lN i) ρ Q := fun q ρ hρ => by
      unfold wX7_shown_114
      refine lt_i (fun x ex => ?_)
      rw [ex, nI_1]
      unfold wX7_shown_117
      refine lt_i (fun x ex => ?_)
      rw [ex, lN_1]
      have := ih (i + 1) ρ (by omega) hρ
      rw [ctB, q] at this
      exact this
    obtain ⟨w1', w2'⟩ := ng_ok (n := n) (i := i) n1 (by omega) (by omega)
    refine unfold_sp (by omega) n1 (by omega) (by omega) yc27.2.2.1 h.2.2.2.2.2.1 (fun ρ g h2 => ?_)
    have r1 := un_sc h rfl g
    by_cases qw : w = 0
    · rw [if_pos (show nI w = (0 : Int32) by rw [qw]; rfl)]
      refine safe_st w1' (by omega) (by omega) r1 h2 (by omega) (fun ξ r2 => ?_)
      have eP : P i = sfB k (ng n i) := by rw [hP]; dsimp only; rw [if_pos qw]
      cases z : sfB k (ng n i) with
      | true => rw [if_neg (by decide)]; exact yes (by rw [eP, z]) ξ r2
      | false => rw [if_pos (by decide)]; exact no (by rw [eP, z]) ξ r2
    · rw [if_neg (show ¬ nI w = (0 : Int32) from ni_k (c := 0) (by omega) (by omega) (by omega))]
      refine faulty_sp m8 w1' (by omega) (by omega) r1 h2 (by omega) (fun ξ r2 _ => ?_)
      have eP : P i = shB (aS A m) (aF A m) (aT A m) k (ng n i) := by rw [hP]; dsimp only; rw [if_neg qw]
      cases z : shB (aS A m) (aF A m) (aT A m) k (ng n i) with
      | true => rw [if_neg (by decide)]; exact yes (by rw [eP, z]) ξ r2
      | false => rw [if_pos (by decide)]; exact no (by rw [eP, z]) ξ r2
theorem c_shown {x n k w : Int32} (ok : okA A) (h : RC A σ) (hQ : ∀ τ, RC A τ → Q (xShown x n k w A) τ) : wX7_shown x n k w σ Q := by
  have bad : xShown x n k w A = -1 → Q (-1) σ := fun e => by rw [e] at hQ; exact hQ σ h
  unfold wX7_shown
  refine mk_c ok h (fun m m8 hm e g1 hM => opt_s ?_) (fun g1 => opt_n ?_)
  rotate_left
  · exact bad (by simp only [xShown, g1])
  refine wi 1 5 1 5 rfl rfl (by omega) (by omega) (fun n n1 n2 e2 g2 => ?_) (fun g2 => ?_)
  rotate_left
  · rw [if_pos rfl]
    exact bad (by simp only [xShown, g1, g2])
  rw [if_neg (by decide)]
  refine wi 0 2 0 2 rfl rfl (by omega) (by omega) (fun k k1 k2 e3 g3 => ?_) (fun g3 => ?_)
  rotate_left
  · rw [if_pos rfl]
    exact bad (by simp only [xShown, g1, g2, g3])
  rw [if_neg (by decide)]
  refine wi 0 1 0 1 rfl rfl (by omega) (by omega) (fun w w1 w2 e4 g4 => ?_) (fun g4 => ?_)
  rotate_left
  · rw [if_pos rfl]
    exact bad (by simp only [xShown, g1, g2, g3, g4])
  rw [if_neg (by decide), e2, e3, e4]
  refine many_sp h.2.2.2.2.2.1 (by omega) ⟨cnt n + 1, ?_⟩
  refine shown_c m8 n1 n2 k2 w2 _ rfl (fun ρ hρ => ?_) (cnt n) 0 σ (by omega) h
  have := hQ ρ hρ
  simpa only [xShown, g1, g2, g3, g4] using this
/-- where part w of a node begins -/
def pof (s : Tr) (w : Nat) : Nat := if w = 0 then 1 else if w = 1 then 1 + tsz (p1 s) else if w = 2 then 1 + tsz (p1 s) + tsz (p2 s) else 1 + tsz (p1 s) + tsz (p2 s) + tsz (p3 s)
theorem pof_s {s : Tr} {w : Nat} (hw : w < 3) : pof s (w + 1) = pof s w + tsz (pa s w) := by
  have w3 : w = 0 ∨ w = 1 ∨ w = 2 := by omega
  rcases w3 with rfl | rfl | rfl <;> rfl
theorem pof_a {s : Tr} (hs : wf s) : pof s (ary (kd s)) = tsz s := by
  obtain ⟨-, -, -, n1, n2, n3⟩ := wf_p hs
  have ts := tsz_p hs
  have a3 := ary_3 (kd s)
  have w4 : ary (kd s) = 0 ∨ ary (kd s) = 1 ∨ ary (kd s) = 2 ∨ ary (kd s) = 3 := by omega
  rcases w4 with e | e | e | e
  · rw [n1 (by omega), n2 (by omega), n3 (by omega), tsz_nl] at ts
    rw [e, ts]; rfl
  · rw [n2 (by omega), n3 (by omega), tsz_nl] at ts
    rw [e, ts]; rfl
  · rw [n3 (by omega), tsz_nl] at ts
    rw [e, ts]; rfl
  · rw [e, ts]; rfl
theorem pof_le {s : Tr} (hs : wf s) {w : Nat} (hw : w ≤ ary (kd s)) : pof s w ≤ tsz s := by
  have ts := tsz_p hs
  unfold pof
  split
  · omega
  · split
    · omega
    · split <;> omega
theorem su_pa {t : Tr} {i w : Nat} (ht : wf t) (hi : i < tsz t) (hs : wf (su t i)) (hw : w < ary (kd (su t i))) : su t (i + pof (su t i) w) = pa (su t i) w ∧ i + pof (su t i) w < tsz t := by
  have a3 := ary_3 (kd (su t i))
  obtain ⟨w1, w2, w3, -, -, -⟩ := wf_p hs
  have ww : w = 0 ∨ w = 1 ∨ w = 2 := by omega
  rcases ww with rfl | rfl | rfl
  · exact su_part (b := 1) ht hi (w1 (by omega)) (dc1 hs) rfl
  · exact su_part (b := 1 + tsz (p1 (su t i))) ht hi (w2 (by omega)) (dc2 hs) (h2L hs)
  · exact su_part (b := 1 + tsz (p1 (su t i)) + tsz (p2 (su t i))) ht hi (w3 (by omega)) (dc3 hs) (h3L hs)
theorem nx1_sk {P : Tr → Bool} {t : Tr} {i : Nat} : ∀ n w, w + n = 3 → ary (kd (su t i)) ≤ w → nx1 P t i (n + 1) w = nx1 P t i 1 3
  | 0, w, hw, _ => by rw [show w = 3 by omega]
  | n + 1, w, hw, ha => by
    have e : stp t i w = none := by
      unfold stp
      rw [if_neg (by omega), if_neg (by omega)]
    rw [nx1, e]
    exact nx1_sk n (w + 1) (by omega) (by omega)
variable {p : Nat}
/-- one step is tried: the candidate is there, and it shows a fault or not -/
theorem try_c {c : Tr} {x5 x6 x7 : Int32} {i : Nat} {K3 : Nat → Nat → Int32 → Int32 → Sg → Prop} {K32 : Nat → Nat → Int32 → Int32 → Int32 → Int32 → Int32 → Sg → Prop} {s3 : Nat} {s4 : Int32} (m8 : m < 8) (hk : k ≤ 6) (hc : wf c) (hs : tsz c ≤ 60) (h : RC A σ)
    (hj : ∀ S : Sg → Prop, (∀ τ, Gm (fun i => 45 ≤ i ∧ i < 45 + 4) σ τ → TrR τ 45 (fl c) → S τ) → wX5_join 45 (53 + 4 * p) (nI i) s3 s4 σ S)
    (h1 : shB (aS A m) (aF A m) (aT A m) k c = true → ∀ τ, RC A τ → TrR τ 45 (fl c) → Q 1 τ) (h0 : shB (aS A m) (aF A m) (aT A m) k c = false → ∀ τ, RC A τ → wX7_shrink_138 K3 K32 (133 + 3 * m) (53 + 4 * p) (nI k) (nI i) x5 x6 x7 τ Q) :
    wX7_shrink_102 K3 K32 (133 + 3 * m) (53 + 4 * p) (nI k) (nI i) x5 x6 x7 45 (53 + 4 * p) (nI i) s3 s4 σ Q := by
  unfold wX7_shrink_102
  refine ⟨yc27.2.2.1, hj _ (fun τ g h2 => ?_)⟩
  have r1 : RC A τ := h.s2 g (fun i e => by unfold Sc; omega) (by omega)
  refine ⟨(r1.2.2.1.2 m m8).1, ?_⟩
  exact faulty_2 m8 hc (by omega) hk r1 h2 (by omega) (fun z ρ r2 q2 => h1 z ρ r2 q2) (fun z ρ r2 q2 => h0 z ρ r2)
theorem shr_in {i : Nat} {t : Tr} {K : Nat → Nat → Int32 → Int32 → Sg → Prop} (m8 : m < 8) (hk : k ≤ 6) (hp : p < 20) (et : aP A p = t) (ht : wf t) (hs : tsz t ≤ 60) (hi : i < tsz t) (P : Tr → Bool) (hP : P = shB (aS A m) (aF A m) (aT A m) k)
    (hK : nx1 P t i 4 0 = none → ∀ τ, RC A τ → K (133 + 3 * m) (53 + 4 * p) (nI k) (nI (i + 1)) τ) (hQ : ∀ u, nx1 P t i 4 0 = some u → ∀ τ, RC A τ → TrR τ 45 (fl u) → Q 1 τ) :
    ∀ (n w : Nat) (x6 : Int32) (τ : Sg), w + n = ary (kd (su t i)) + 1 → (w ≤ ary (kd (su t i)) → x6 = nI (i + pof (su t i) w)) → (w ≤ ary (kd (su t i)) → nx1 P t i 4 0 = nx1 P t i (4 - w) w) → (ary (kd (su t i)) < w → nx1 P t i 4 0 = none) → RC A τ → wX7_shrink_32 K Q (n + 1) (133 + 3 * m) (53 + 4 * p) (nI k) (nI i) (nI (ary (kd (su t i)))) x6 (nI w) τ := by
  have len := fl_len t ht
  obtain ⟨-, -, -, -, e3, e4, e5⟩ := fl_su ht (i := i) (by omega)
  have a3 := ary_3 (kd (su t i))
  intro n
  induction n with
  | zero =>
    intro w x6 τ hw hx6 hn1 hn0 h
    show wX7_shrink_32_b K (wX7_shrink_32 K Q 0) (133 + 3 * m) (53 + 4 * p) (nI k) (nI i) _ x6 (nI w) τ Q
    unfold wX7_shrink_32_b
    rw [if_pos (nI_lt (by omega) (by omega))]
    refine lt_i (fun x ex => ?_)
    rw [ex, nI_1]
    exact hK (hn0 (by omega)) τ h
  | succ n ih =>
    intro w x6 τ hw hx6 hn1 hn0 h
    have hT : TrR τ (53 + 4 * p) (fl t) := by have := h.1 p hp; rw [et] at this; exact this
    have x6e := hx6 (by omega)
    have nE := hn1 (by omega)
    have hpo := pof_le e3 (w := w) (by omega)
    show wX7_shrink_32_b K (wX7_shrink_32 K Q (n + 1)) (133 + 3 * m) (53 + 4 * p) (nI k) (nI i) _ x6 (nI w) τ Q
    unfold wX7_shrink_32_b
    rw [if_neg (nI_nlt (by omega) (by omega))]
    by_cases z : w = ary (kd (su t i))
    · rw [if_pos (by rw [z])]
      have nS : nx1 P t i 4 0 = nx1 P t i 1 3 := by
        rw [nE, show 4 - w = (3 - w) + 1 by omega]
        exact nx1_sk (3 - w) w (by omega) (by omega)
      have nxt : nx1 P t i 4 0 = none → ∀ x6' ρ, RC A ρ → wX7_shrink_146 K (wX7_shrink_32 K Q (n + 1)) (133 + 3 * m) (53 + 4 * p) (nI k) (nI i) (nI (ary (kd (su t i)))) x6' (nI w) ρ Q := fun e x6' ρ hρ => by
        unfold wX7_shrink_146
        refine lt_i (fun x ex => ?_)
        rw [ex, nI_1]
        exact ih (w + 1) x6' ρ (by omega) (fun z => by omega) (fun z => by omega) (fun _ => e) hρ
      unfold wX7_shrink_51
      rw [if_neg (by decide)]
      refine ⟨hT.1, isN hT (by omega) (by rw [en_lt (by omega)]; exact e4) ?_⟩
      by_cases nz : nu (su t i) = some 0
      · rw [if_pos nz, if_neg (by decide)]
        have e3' : stp t i 3 = none := by unfold stp; rw [if_pos rfl, if_pos nz]
        exact nxt (by rw [nS, nx1, e3', nx1]) x6 τ h
      · rw [if_neg nz, if_pos rfl]
        have e3' : stp t i 3 = some (sb (nm 0) t i) := by unfold stp; rw [if_pos rfl, if_neg nz]
        obtain ⟨c1, c2, c3⟩ := stp_ok ht hi (by omega) e3'
        have eS : nx1 P t i 4 0 = if P (sb (nm 0) t i) then some (sb (nm 0) t i) else none := by
          rw [nS, nx1, e3']
          dsimp only
          rw [nx1]
        unfold wX7_shrink_71
        rw [if_neg (by decide)]
        unfold wX7_shrink_91
        rw [if_neg (by decide)]
        have s0 : su (nm 0) 0 = nm 0 := by unfold nm; rw [su_nd, if_pos rfl]
        refine try_c (c := sb (nm 0) t i) m8 hk c1 (by omega) h (fun S hS => ?_) (fun y ρ r2 q2 => ?_) (fun y ρ r2 => ?_)
        · have := join_sp (σ := τ) (R := S) (t := 45) (q := 53 + 4 * p) (q2 := 49) (i := i) (j := 0) (a := t) (b := nm 0) yc27.2.2.1 ht (wf_nm 0) hT h.2.2.2.2.2.2.1 hi (by rw [tsz_nm]; omega) (by omega) (by omega) (by rw [s0]; omega) (by rw [s0]; exact hS)
          exact this
        · rw [← hP] at y
          rw [y, if_pos rfl] at eS
          exact hQ _ eS ρ r2 q2
        · rw [← hP] at y
          rw [y, if_neg (by decide)] at eS
          have hT2 : TrR ρ (53 + 4 * p) (fl t) := by have := r2.1 p hp; rw [et] at this; exact this
          unfold wX7_shrink_138
          refine ⟨hT2.1, ?_⟩
          rw [x6e]
          by_cases bi : i + pof (su t i) w < (fl t).length
          · exact behind_sp hT2 bi (nxt eS _ ρ r2)
          · exact behind_out hT2 (by omega) (by omega) (nxt eS _ ρ r2)
    · rw [if_neg (fun y => z ((nI_eq (by omega) (by omega)).mp y))]
      have hwa : w < ary (kd (su t i)) := by omega
      have e3' : stp t i w = some (sb (pa (su t i) w) t i) := by
        unfold stp
        rw [if_neg (by omega), if_pos hwa]
      obtain ⟨c1, c2, c3⟩ := stp_ok ht hi (by omega) e3'
      obtain ⟨sp1, sp2⟩ := su_pa ht hi e3 hwa
      have wpa := wf_pa e3 hwa (by omega)
      have eS : nx1 P t i 4 0 = if P (sb (pa (su t i) w) t i) then some (sb (pa (su t i) w) t i) else nx1 P t i (4 - (w + 1)) (w + 1) := by
        rw [nE, show 4 - w = (4 - (w + 1)) + 1 by omega, nx1, e3']
      unfold wX7_shrink_51
      rw [if_pos rfl]
      unfold wX7_shrink_71
      rw [if_pos rfl]
      unfold wX7_shrink_91
      rw [if_pos rfl, x6e]
      refine try_c (c := sb (pa (su t i) w) t i) m8 hk c1 (by omega) h (fun S hS => ?_) (fun y ρ r2 q2 => ?_) (fun y ρ r2 => ?_)
      · have := join_sp (σ := τ) (R := S) (t := 45) (q := 53 + 4 * p) (q2 := 53 + 4 * p) (i := i) (j := i + pof (su t i) w) (a := t) (b := t) yc27.2.2.1 ht ht hT hT hi sp2 (by omega) (by omega) (by rw [sp1]; omega) (by rw [sp1]; exact hS)
        exact this
      · rw [← hP] at y
        rw [y, if_pos rfl] at eS
        exact hQ _ eS ρ r2 q2
      · rw [← hP] at y
        rw [y, if_neg (by decide)] at eS
        have hT2 : TrR ρ (53 + 4 * p) (fl t) := by have := r2.1 p hp; rw [et] at this; exact this
        obtain ⟨-, -, -, -, -, f4, -⟩ := fl_su ht (i := i + pof (su t i) w) (by omega)
        unfold wX7_shrink_138
        refine ⟨hT2.1, behind_sp hT2 (by omega) ?_⟩
        rw [en_lt (by omega), f4, sp1]
        unfold wX7_shrink_146
        refine lt_i (fun x ex => ?_)
        rw [ex, nI_1]
        refine ih (w + 1) _ ρ (by omega) (fun _ => ?_) (fun _ => eS) (fun y => by omega) r2
        rw [pof_s (by omega), Nat.add_assoc]
theorem shr_out {t : Tr} (m8 : m < 8) (hk : k ≤ 6) (hp : p < 20) (et : aP A p = t) (ht : wf t) (hs : tsz t ≤ 60) (P : Tr → Bool) (hP : P = shB (aS A m) (aF A m) (aT A m) k)
    (h0 : nx P t = none → ∀ τ, RC A τ → Q 0 τ) (h1 : ∀ u, nx P t = some u → ∀ τ, RC A τ → TrR τ 45 (fl u) → Q 1 τ) :
    ∀ (n i : Nat) (τ : Sg), i + n = tsz t → nx P t = nx2 P t n i → RC A τ → wX7_shrink_3 Q (n + 1) (133 + 3 * m) (53 + 4 * p) (nI k) (nI i) τ := by
  have len := fl_len t ht
  intro n
  induction n with
  | zero =>
    intro i τ hi he h
    have hT : TrR τ (53 + 4 * p) (fl t) := by have := h.1 p hp; rw [et] at this; exact this
    show wX7_shrink_3_b (wX7_shrink_3 Q 0) (133 + 3 * m) (53 + 4 * p) (nI k) (nI i) τ Q
    unfold wX7_shrink_3_b
    rw [hT.2.2.2.1, len, if_pos (nI_le (by omega) (by omega))]
    exact ⟨hT.1, h0 (by rw [he, nx2]) τ h⟩
  | succ n ih =>
    intro i τ hi he h
    have hT : TrR τ (53 + 4 * p) (fl t) := by have := h.1 p hp; rw [et] at this; exact this
    obtain ⟨-, -, -, -, e3, e4, e5⟩ := fl_su ht (i := i) (by omega)
    have k8 := wf_kd e3
    show wX7_shrink_3_b (wX7_shrink_3 Q (n + 1)) (133 + 3 * m) (53 + 4 * p) (nI k) (nI i) τ Q
    unfold wX7_shrink_3_b
    rw [hT.2.2.2.1, len, if_neg (nI_ge (by omega) (by omega))]
    refine ⟨hT.1, kindOf_sp hT (by omega) ?_⟩
    rw [en_lt (by omega), e4]
    refine pO_sp k8 ?_
    rw [nI_1]
    refine lt_i (fun x ex => ⟨ary (kd (su t i)) + 1 + 1, ?_⟩)
    conv at he => rhs; rw [nx2]
    refine shr_in m8 hk hp et ht hs (by omega) P hP (fun z ρ hρ => ?_) (fun u z ρ hρ q2 => ?_) (ary (kd (su t i)) + 1) 0 x τ (by omega) (fun _ => ex) (fun _ => rfl) (fun z => by omega) h
    · rw [z] at he
      exact ih (i + 1) ρ (by omega) he hρ
    · rw [z] at he
      exact h1 u he ρ hρ q2
theorem sP_sP (A : Ab) (p : Nat) (t u : Tr) : sP (sP A p t) p u = sP A p u := by
  unfold sP
  congr 1
  funext q
  by_cases e : q = p
  · rw [if_pos e, if_pos e]
  · rw [if_neg e, if_neg e]
    show (if q = p then t else aP A q) = _
    rw [if_neg e]
theorem sP_at (A : Ab) (p : Nat) (t : Tr) : aP (sP A p t) p = t := by
  show (if p = p then t else aP A p) = t
  rw [if_pos rfl]
theorem sP_id (A : Ab) (p : Nat) : sP A p (aP A p) = A := by
  unfold sP
  have : (fun q => if q = p then aP A p else aP A q) = aP A := by
    funext q
    by_cases e : q = p
    · rw [if_pos e, e]
    · rw [if_neg e]
  rw [this]
theorem small_c {A0 : Ab} (m8 : m < 8) (hk : k ≤ 6) (hp : p < 20) (P : Tr → Bool) (hP : P = shB (aS A0 m) (aF A0 m) (aT A0 m) k) :
    ∀ (e : Nat) (t : Tr) (c : Nat) (τ : Sg), c + e = 120 → wf t → tsz t ≤ 60 → RC (sP A0 p t) τ → (∀ ρ, RC (sD (sP A0 p (sml P e t).1) (nI (c + (sml P e t).2))) ρ → Q (nI (tsz (sml P e t).1)) ρ) → wX7_small_58 Q (e + 1) (nI k) (133 + 3 * m) (53 + 4 * p) (nI c) 120 τ := by
  have fin : ∀ (t : Tr) (c : Nat) (τ : Sg), wf t → tsz t ≤ 60 → RC (sP A0 p t) τ → (∀ ρ, RC (sD (sP A0 p t) (nI c)) ρ → Q (nI (tsz t)) ρ) → wX7_small_92 (53 + 4 * p) (nI c) τ Q := fun t c τ ht hs h hQ => by
    unfold wX7_small_92
    refine lt_i (fun ρ eρ => ?_)
    have g : Gm (fun i => i = 0) τ ρ := by rw [eρ]; exact Gm.i 0 _ rfl
    have hT : TrR τ (53 + 4 * p) (fl t) := by have := h.1 p hp; rw [sP_at] at this; exact this
    have hT2 := hT.gm g (fun i x y => by omega)
    rw [hT2.2.2.2.1, fl_len t ht]
    exact ⟨hT.1, hQ ρ (h.stp eρ)⟩
  intro e
  induction e with
  | zero =>
    intro t c τ hc ht hs h hQ
    show wX7_small_58_b (wX7_small_58 Q 0) (nI k) (133 + 3 * m) (53 + 4 * p) (nI c) 120 τ Q
    unfold wX7_small_58_b
    rw [if_pos (show (120 : Int32) ≤ nI c from nI_le (a := 120) (by omega) (by omega))]
    exact fin t c τ ht hs h hQ
  | succ e ih =>
    intro t c τ hc ht hs h hQ
    show wX7_small_58_b (wX7_small_58 Q (e + 1)) (nI k) (133 + 3 * m) (53 + 4 * p) (nI c) 120 τ Q
    unfold wX7_small_58_b
    rw [if_neg (show ¬ (120 : Int32) ≤ nI c from nI_ge (b := 120) (by omega) (by omega))]
    unfold wX7_shrink
    refine ⟨tsz t + 1, shr_out (A := sP A0 p t) m8 hk hp (sP_at A0 p t) ht hs P hP (fun z ρ hρ => ?_) (fun u z ρ hρ q2 => ?_) (tsz t) 0 τ (by omega) rfl h⟩
    · rw [if_pos rfl]
      rw [sml, z] at hQ
      exact fin t c ρ ht hs hρ hQ
    · rw [if_neg (by decide)]
      obtain ⟨u1, u2, u3⟩ := nx_ok ht z
      refine ⟨ycT p hp, become_sp (ycT p hp) q2 (by omega) (fun ξ g3 h3 => lt_i (fun x ex => ?_))⟩
      rw [ex, nI_1]
      have r3 := hρ.pl hp g3 h3
      rw [sP_sP] at r3
      rw [sml, z] at hQ
      dsimp only at hQ
      refine ih u (c + 1) ξ (by omega) u1 (by omega) r3 (fun ζ hζ => hQ ζ ?_)
      rw [show c + ((sml P e u).2 + 1) = c + 1 + (sml P e u).2 by omega]
      exact hζ
theorem c_small {x y z : Int32} (ok : okA A) (h : RC A σ) (hQ : ∀ τ, RC (xSmall x y z A).2 τ → Q (xSmall x y z A).1 τ) : wX7_small x y z σ Q := by
  have bad : xSmall x y z A = (-1, A) → Q (-1) σ := fun e => by rw [e] at hQ; exact hQ σ h
  unfold wX7_small
  refine mk_c ok h (fun m m8 hm e g1 hM => ?_) (fun g1 => ?_)
  rotate_left
  · have bb := bad (by simp only [xSmall, g1])
    exact pg_c ok h (fun _ _ _ _ _ _ => opt_n bb) (fun _ => opt_n bb)
  refine pg_c ok h (fun p hp e2 w s g2 => ?_) (fun g2 => ?_)
  rotate_left
  · exact opt_s (opt_n (bad (by simp only [xSmall, g1, g2])))
  refine opt_s (opt_s ?_)
  refine wi 0 6 0 6 rfl rfl (by omega) (by omega) (fun k k1 k2 e3 g3 => ?_) (fun g3 => ?_)
  rotate_left
  · rw [if_pos rfl]
    exact bad (by simp only [xSmall, g1, g2, g3])
  rw [if_neg (by decide), e3]
  rw [e3] at g3 hQ
  refine faulty_sp m8 w (by omega) k2 h (h.1 p hp) (by omega) (fun τ r1 _ => ?_)
  obtain ⟨P, hP⟩ : ∃ P, P = shB (aS A m) (aF A m) (aT A m) k := ⟨_, rfl⟩
  cases q : shB (aS A m) (aF A m) (aT A m) k (aP A p) with
  | true =>
    rw [if_neg (by decide)]
    have e : xSmall x y (nI k) A = (nI (tsz (sml P 120 (aP A p)).1), sD (sP A p (sml P 120 (aP A p)).1) (nI (sml P 120 (aP A p)).2)) := by simp only [xSmall, g1, g2, g3, if_pos q, hP]
    rw [e] at hQ
    refine ⟨120 + 1, small_c (A0 := A) m8 k2 hp P hP 120 (aP A p) 0 τ (by omega) w s (by rw [sP_id]; exact r1) (fun ρ hρ => ?_)⟩
    rw [Nat.zero_add] at hρ
    exact hQ ρ hρ
  | false =>
    rw [if_pos (by decide)]
    have e : xSmall x y (nI k) A = (-2, A) := by simp only [xSmall, g1, g2, g3, if_neg (show ¬ shB (aS A m) (aF A m) (aT A m) k (aP A p) = true by rw [q]; decide)]
    rw [e] at hQ
    exact hQ τ r1
end

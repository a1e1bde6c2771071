/-! the reference: a turn over a tree, and the turns of a maker -/
theorem nI_shift {a b c : Nat} (h : c ≤ a) : nI a + (nI b - nI c) = nI (a - c + b) := by
  have e : nI a = nI (a - c) + nI c := by rw [nI_add]; congr 1; omega
  rw [e, ← nI_add]
  grind
/-- what a turn comes to -/
def tP (s f : Nat) (t : Tr) (w fi N : Nat) (σ : Sg) (r : Int32) (τ : Sg) : Prop := ∃ M, N ≤ M ∧ M ≤ N + 2 * tsz t ∧ Fm [1, 2, 3, 4, 5, 6] [1, 10, 11] σ τ ∧ Ex σ τ N ∧ τ.1 0 1 = nI M ∧ τ.1 0 11 = nI (tn s f t w).2.2 ∧ τ.1 0 10 = nI (fi + (tn s f t w).2.1) ∧ rx τ (tn s f t w).1 r M
def tI (s f d : Nat) (t : Tr) (e : Nat) : Prop := ∀ (σ : Sg) (n N w fi : Nat) (Q : Int32 → Sg → Prop), N + 2 * tsz t ≤ 9000 → n < N → σ.1 0 1 = nI N → σ.1 0 11 = nI w → σ.1 0 10 = nI fi → tsz t ≤ w → w ≤ 200 → rx σ t (nI n) N → (∀ r τ, tP s f t w fi N σ r τ → Q r τ) → wX8_turned d e (nI n) (nI s) (nI f) σ Q
theorem turned_part {s f d e : Nat} {x : Tr} {c : Int32} {σ : Sg} {n N w fi : Nat} {B : Int32 → Sg → Prop} (hx : wn x) (ih : wf x → tI s f d x e) (hN : N + 2 * tsz x ≤ 9000) (hn : n < N) (h1 : σ.1 0 1 = nI N) (h11 : σ.1 0 11 = nI w) (h10 : σ.1 0 10 = nI fi) (hw : tsz x ≤ w) (h2 : w ≤ 200) (hr : rx σ x c n)
    (hB : ∀ r τ, tP s f x w fi N σ r τ → B r τ) : if 0 ≤ c then wX8_turned d e c (nI s) (nI f) σ B else B (-1) σ := by
  rcases hx with hx | rfl
  · obtain ⟨j, j1, rfl, -⟩ := kid hx hr
    rw [if_pos (nI_pos' (by omega))]
    exact ih hx σ j N w fi B hN (by omega) h1 h11 h10 hw h2 (rx_le hx hr (by omega)) hB
  · rw [rx_nl] at hr
    subst hr
    rw [if_neg (by decide)]
    refine hB _ _ ⟨N, by omega, by omega, Fm.rf, Ex.rf, h1, ?_, ?_, ?_⟩
    · rw [tn_nl]; exact h11
    · rw [tn_nl]; exact h10
    · rw [tn_nl, rx_nl]
theorem turned_140 {F : Int32 → Int32 → Int32 → Sg → (Int32 → Sg → Prop) → Prop} {s f d : Nat} {t : Tr} {σ : Sg} {m N w fi : Nat} {Q : Int32 → Sg → Prop} (hs : s ≤ 6) (hf : f ≤ 2) (hd : 200 ≤ d) (ht : wf t) (hm : m < N) (hN : N < 9000) (h1 : σ.1 0 1 = nI N) (h11 : σ.1 0 11 = nI w) (h10 : σ.1 0 10 = nI fi) (hw : tsz t ≤ w) (h2 : w ≤ 200) (hr : rx σ t (nI m) N)
    (hn : ru s f w t = none → ∀ r τ, Fm [1, 2, 3, 4, 5, 6] [1, 10, 11] σ τ → Ex σ τ N → τ.1 0 1 = nI N → τ.1 0 11 = nI w → τ.1 0 10 = nI fi → rx τ t r N → Q r τ)
    (hy : ∀ u, ru s f w t = some u → ∀ r τ M, N ≤ M → M ≤ N + 1 → Fm [1, 2, 3, 4, 5, 6] [1, 10, 11] σ τ → Ex σ τ N → τ.1 0 1 = nI M → τ.1 0 11 = nI (w - tsz t + tsz u) → τ.1 0 10 = nI (fi + 1) → rx τ u r M → Q r τ) : wX8_turned_140 F d (nI s) (nI f) (nI m) σ Q := by
  unfold wX8_turned_140
  refine becomes_sp ht hm hN hs hf hw h2 hd h1 h11 hr (fun r τ hp => ?_)
  rcases hp with ⟨e, rfl, rfl⟩ | ⟨u, e, hne, hF, hE, M, M1, M2, ht1, hru⟩
  · rw [if_pos rfl]
    exact hn e _ _ Fm.rf Ex.rf h1 h11 h10 hr
  · rw [if_neg hne]
    obtain ⟨u1, u2⟩ := ru_ok ht hw h2 e
    obtain ⟨j, j1, rfl, -, -, j5, -⟩ := kid u1 hru
    obtain ⟨o1, o2, o3, -⟩ := own ht hN hm hr
    have f1 : Fm [1, 2, 3, 4, 5, 6] [1, 10, 11] τ (sI τ 0 (upd (τ.1 0) 10 ((τ.1 0 10) + 1))) := Fm.put 10 _ (by simp)
    refine lt_i (fun a ea => ?_)
    rw [← ea] at f1
    have a6 : a.1 6 = τ.1 6 := by rw [ea, sI_1, up_n _ _ _ _ (by decide)]
    have a11 : a.1 0 11 = nI w := by rw [ea, sI_1, up_s, ud_n _ _ _ _ (by decide), hF.2.1 11 (by simp)]; exact h11
    have a10 : a.1 0 10 = nI (fi + 1) := by rw [ea, sI_1, up_s, ud_s, hF.2.1 10 (by simp), h10]; exact nI_1 fi
    have a1 : a.1 0 1 = nI M := by rw [ea, sI_1, up_s, ud_n _ _ _ _ (by decide)]; exact ht1
    refine ⟨vp_in_nI (by omega) (by omega), vp_in_nI (by omega) (by omega), ?_⟩
    rw [ncl (by omega), ncl (by omega), a6, a11, j5, hE 6 (by omega) (by omega) m (by omega), o3, nI_shift hw]
    have f2 : Fm [1, 2, 3, 4, 5, 6] [1, 10, 11] a (sI a 0 (upd (a.1 0) 11 (nI (w - tsz t + tsz u)))) := Fm.put 11 _ (by simp)
    refine lt_i (fun b eb => ?_)
    rw [← eb] at f2
    have ext : ∀ N, Ex τ b N := fun N r r1 r2 i _ => by
      rw [eb, sI_1, up_n _ _ _ _ (by omega), ea, sI_1, up_n _ _ _ _ (by omega)]
    refine hy u e _ b M M1 M2 (((hF.wk (fun _ q => q) (by simp)).tr f1).tr f2) (hE.tr (ext M) M1) ?_ ?_ ?_ ?_
    · rw [eb, sI_1, up_s, ud_n _ _ _ _ (by decide)]; exact a1
    · rw [eb, sI_1, up_s, ud_s]
    · rw [eb, sI_1, up_s, ud_n _ _ _ _ (by decide)]; exact a10
    · exact rx_ex u u1 _ M M hru (ext M) (Nat.le_refl _)
theorem turned_sp (s f d : Nat) (hs : s ≤ 6) (hf : f ≤ 2) (hd : 200 ≤ d) : ∀ t, wn t → wf t → ∀ e, tsz t ≤ e → tI s f d t e := by
  apply wf_gen
  · intro h
    exact absurd h wf_nl
  · intro k v x y z hw ix iy iz _ e he σ n N w fi Q hN hn h1 h11 h10 hww h2 hr hQ
    have hkd := wf_kd hw
    rw [kd_nd] at hkd
    obtain ⟨nx, ny, nz⟩ := wf_parts hw
    rw [tsz_nd] at he hN hww
    cases e with
    | zero => omega
    | succ e =>
      have hin : vp_in (nI n) 9000 := vp_in_nI (by omega) (by omega)
      have hc : (nI n).toNatClampNeg = n := ncl (by omega)
      have hr0 := hr
      rw [rx_nd] at hr
      obtain ⟨j, j1, je, r1, r2, r6, r3, r4, r5⟩ := hr
      have je : n = j := (nI_eq (by omega) (by omega)).mp je
      subst je
      show wX8_turned_b (wX8_turned d e) d (nI n) (nI s) (nI f) σ Q
      unfold wX8_turned_b
      refine ⟨hin, ?_⟩
      rw [hc]
      refine turned_part nx (fun q => ix q e (by omega)) (by omega) hn h1 h11 h10 (by omega) h2 r3 (fun c1 σ1 hp1 => ?_)
      obtain ⟨M1, a1, a2, aF, aE, at1, a11, a10, arx⟩ := hp1
      obtain ⟨k1, k2, k3⟩ := tn_ok s f x nx w (by omega) h2
      unfold wX8_turned_25
      refine ⟨hin, ?_⟩
      rw [hc, aE 4 (by omega) (by omega) n hn]
      refine turned_part ny (fun q => iy q e (by omega)) (N := M1) (by omega) (by omega) at1 a11 a10 (by omega) k3 (rxn_ex ny r4 aE (by omega)) (fun c2 σ2 hp2 => ?_)
      obtain ⟨M2, b1, b2, bF, bE, bt1, b11, b10, brx⟩ := hp2
      obtain ⟨l1, l2, l3⟩ := tn_ok s f y ny (tn s f x w).2.2 (by omega) k3
      have abE : Ex σ σ2 N := aE.tr bE (by omega)
      unfold wX8_turned_52
      refine ⟨hin, ?_⟩
      rw [hc, abE 5 (by omega) (by omega) n hn]
      refine turned_part nz (fun q => iz q e (by omega)) (N := M2) (by omega) (by omega) bt1 b11 b10 (by omega) l3 (rxn_ex nz r5 abE (by omega)) (fun c3 σ3 hp3 => ?_)
      obtain ⟨M3, d1, d2, dF, dE, dt1, d11, d10, drx⟩ := hp3
      obtain ⟨m1, m2, m3⟩ := tn_ok s f z nz (tn s f y (tn s f x w).2.2).2.2 (by omega) l3
      have acE : Ex σ σ3 N := abE.tr dE (by omega)
      have hw2 := wf_same hw k1 l1 m1
      have tnq := tn_nd s f w k v x y z
      have fF : Fm [1, 2, 3, 4, 5, 6] [1, 10, 11] σ σ3 := (aF.tr bF).tr dF
      have w1 := (tw_wn k1).2
      have w2 := (tw_wn l1).2
      have w3 := (tw_wn m1).2
      have rx1 : rx σ3 (tn s f x w).1 c1 M3 := rxn_le w1 (rxn_ex w1 arx (bE.tr dE (by omega)) (by omega)) (by omega)
      have rx2 : rx σ3 (tn s f y (tn s f x w).2.2).1 c2 M3 := rxn_le w2 (rxn_ex w2 brx dE (by omega)) (by omega)
      have rx3 : rx σ3 (tn s f z (tn s f y (tn s f x w).2.2).2.2).1 c3 M3 := drx
      have o3 : rx σ3 x (σ.1 3 n) n := rxn_ex nx r3 acE (by omega)
      have o4 : rx σ3 y (σ.1 4 n) n := rxn_ex ny r4 acE (by omega)
      have o5 : rx σ3 z (σ.1 5 n) n := rxn_ex nz r5 acE (by omega)
      have k0 : (nd k v x y z) = nd k v x y z := rfl
      generalize hA : (tn s f x w) = A at *
      generalize hB : (tn s f y A.2.2) = B at *
      generalize hCc : (tn s f z B.2.2) = C at *
      have hsz : tsz (nd k v A.1 B.1 C.1) ≤ C.2.2 := by rw [tsz_nd]; omega
      have fin : ∀ (m N' : Nat) (σ' : Sg), m < N' → M3 ≤ N' → N' ≤ M3 + 1 → Fm [1, 2, 3, 4, 5, 6] [1, 10, 11] σ3 σ' → Ex σ3 σ' M3 → σ'.1 0 1 = nI N' → σ'.1 0 11 = nI C.2.2 → σ'.1 0 10 = nI (fi + A.2.1 + B.2.1 + C.2.1) → rx σ' (nd k v A.1 B.1 C.1) (nI m) N' → wX8_turned_140 (wX8_turned d e) d (nI s) (nI f) (nI m) σ' Q := by
        intro m N' σ' q1 q2 q3 q4 q5 q6 q7 q8 q9
        refine turned_140 hs hf hd hw2 q1 (by omega) q6 q7 q8 hsz m3 q9 ?_ ?_
        · intro er r τ p1 p2 p3 p4 p5 p6
          rw [er] at tnq
          refine hQ r τ ⟨N', by omega, by rw [tsz_nd]; omega, (fF.tr q4).tr p1, ?_, p3, ?_, ?_, ?_⟩
          · exact (acE.tr q5 (by omega)).tr p2 (by omega)
          · rw [tnq]; exact p4
          · rw [tnq]
            show τ.1 0 10 = nI (fi + (A.2.1 + B.2.1 + C.2.1))
            rw [p5]
            congr 1
            omega
          · rw [tnq]; exact p6
        · intro u er r τ M p0 p00 p1 p2 p3 p4 p5 p6
          rw [er] at tnq
          refine hQ r τ ⟨M, by omega, by rw [tsz_nd]; omega, (fF.tr q4).tr p1, ?_, p3, ?_, ?_, ?_⟩
          · exact (acE.tr q5 (by omega)).tr p2 (by omega)
          · rw [tnq]; exact p4
          · rw [tnq]
            show τ.1 0 10 = nI (fi + (A.2.1 + B.2.1 + C.2.1 + 1))
            rw [p5]
            congr 1
            omega
          · rw [tnq]; exact p6
      have mk : wX8_turned_118 (wX8_turned d e) d (nI n) (nI s) (nI f) c1 c2 c3 σ3 Q := by
        unfold wX8_turned_118
        refine ⟨hin, ?_⟩
        rw [hc, acE 1 (by omega) (by omega) n hn, acE 2 (by omega) (by omega) n hn, r1, r2]
        refine make_sp w1 w2 w3 (N := M3) (by omega) dt1 rx1 rx2 rx3 (fun r τ hm => ?_)
        obtain ⟨g1, g2, g3, g4, g5⟩ := hm
        rw [g1]
        refine fin M3 (M3 + 1) τ (by omega) (by omega) (by omega) (g2.wk (fun _ q => q) (by simp)) g3 g4 ?_ ?_ g5
        · rw [g2.2.1 11 (by simp)]; exact d11
        · rw [g2.2.1 10 (by simp)]; exact d10
      unfold wX8_turned_79
      refine ⟨hin, ?_⟩
      rw [hc, acE 3 (by omega) (by omega) n hn, acE 4 (by omega) (by omega) n hn, acE 5 (by omega) (by omega) n hn]
      by_cases e1 : c1 = σ.1 3 n
      · rw [if_pos e1]
        by_cases e2 : c2 = σ.1 4 n
        · rw [if_pos e2]
          by_cases e3 : c3 = σ.1 5 n
          · rw [if_pos e3]
            rw [e1] at rx1
            rw [e2] at rx2
            rw [e3] at rx3
            have u1 := rx_un _ w1 _ _ M3 n nx (by omega) (by omega) rx1 o3
            have u2 := rx_un _ w2 _ _ M3 n ny (by omega) (by omega) rx2 o4
            have u3 := rx_un _ w3 _ _ M3 n nz (by omega) (by omega) rx3 o5
            refine fin n M3 σ3 (by omega) (by omega) (by omega) Fm.rf Ex.rf dt1 d11 d10 ?_
            rw [u1, u2, u3]
            exact rx_le hw (rx_ex _ hw _ N N hr0 acE (Nat.le_refl _)) (by omega)
          · rw [if_neg e3]
            exact mk
        · rw [if_neg e2]
          exact mk
      · rw [if_neg e1]
        exact mk

/-! the reference: making nodes, comparing trees -/
def wn (t : Tr) : Prop := wf t ∨ t = nl
theorem wf_parts {k : Nat} {v : Int32} {x y z : Tr} (h : wf (nd k v x y z)) : wn x ∧ wn y ∧ wn z := by
  rw [wf_nd] at h
  obtain ⟨-, -, h3, h4, h5⟩ := h
  refine ⟨?_, ?_, ?_⟩
  · by_cases q : 1 ≤ ary k
    · rw [if_pos q] at h3; exact Or.inl h3
    · rw [if_neg q] at h3; exact Or.inr h3
  · by_cases q : 2 ≤ ary k
    · rw [if_pos q] at h4; exact Or.inl h4
    · rw [if_neg q] at h4; exact Or.inr h4
  · by_cases q : 3 ≤ ary k
    · rw [if_pos q] at h5; exact Or.inl h5
    · rw [if_neg q] at h5; exact Or.inr h5
/-- parts of two nodes of one kind: both there, or both not -/
def tw (x y : Tr) : Prop := (wf x ∧ wf y) ∨ (x = nl ∧ y = nl)
theorem wf_twin {k : Nat} {v v2 : Int32} {x y z x2 y2 z2 : Tr} (h : wf (nd k v x y z)) (g : wf (nd k v2 x2 y2 z2)) : tw x x2 ∧ tw y y2 ∧ tw z z2 := by
  rw [wf_nd] at h g
  obtain ⟨-, -, h3, h4, h5⟩ := h
  obtain ⟨-, -, g3, g4, g5⟩ := g
  refine ⟨?_, ?_, ?_⟩
  · by_cases q : 1 ≤ ary k
    · rw [if_pos q] at h3 g3; exact Or.inl ⟨h3, g3⟩
    · rw [if_neg q] at h3 g3; exact Or.inr ⟨h3, g3⟩
  · by_cases q : 2 ≤ ary k
    · rw [if_pos q] at h4 g4; exact Or.inl ⟨h4, g4⟩
    · rw [if_neg q] at h4 g4; exact Or.inr ⟨h4, g4⟩
  · by_cases q : 3 ≤ ary k
    · rw [if_pos q] at h5 g5; exact Or.inl ⟨h5, g5⟩
    · rw [if_neg q] at h5 g5; exact Or.inr ⟨h5, g5⟩
theorem wf_gen {P : Tr → Prop} (h0 : P nl) (h1 : ∀ k v x y z, wf (nd k v x y z) → P x → P y → P z → P (nd k v x y z)) : ∀ t, wn t → P t := by
  have key : ∀ n t, tsz t ≤ n → wn t → P t := by
    intro n
    induction n with
    | zero =>
      intro t h hw
      rcases hw with hw | rfl
      · have := wf_pos hw
        omega
      · exact h0
    | succ n ih =>
      intro t h hw
      rcases hw with hw | rfl
      · obtain ⟨k, v, x, y, z, rfl⟩ := wf_shape t hw
        rw [tsz_nd] at h
        obtain ⟨a, b, c⟩ := wf_parts hw
        exact h1 k v x y z hw (ih x (by omega) a) (ih y (by omega) b) (ih z (by omega) c)
      · exact h0
  exact fun t h => key (tsz t) t (Nat.le_refl _) h
theorem tw_pre {x y : Tr} {r s : List En} (ht : tw x y) (h : fl x ++ r = fl y ++ s) : fl x = fl y ∧ r = s := by
  rcases ht with ⟨hx, hy⟩ | ⟨rfl, rfl⟩
  · exact fl_pre hx hy h
  · exact ⟨rfl, by simpa [fl_nl] using h⟩
theorem tw_wn {x y : Tr} (h : tw x y) : wn x ∧ wn y := by
  rcases h with ⟨a, b⟩ | ⟨a, b⟩
  · exact ⟨Or.inl a, Or.inl b⟩
  · exact ⟨Or.inr a, Or.inr b⟩
theorem wf_kd {t : Tr} (h : wf t) : kd t ≤ 8 := by
  obtain ⟨k, v, x, y, z, rfl⟩ := wf_shape t h
  rw [wf_nd] at h
  rw [kd_nd]
  exact h.1
theorem fl_ne {t : Tr} (h : wf t) : fl t ≠ [] := by
  rw [fl_head h]
  simp
/-- equal rows: by tops and parts -/
theorem fl_iff {k k2 : Nat} {v v2 : Int32} {x y z x2 y2 z2 : Tr} (h : wf (nd k v x y z)) (g : wf (nd k2 v2 x2 y2 z2)) : fl (nd k v x y z) = fl (nd k2 v2 x2 y2 z2) ↔ (k = k2 ∧ v = v2 ∧ 1 + tsz x + tsz y + tsz z = 1 + tsz x2 + tsz y2 + tsz z2 ∧ fl x = fl x2 ∧ fl y = fl y2 ∧ fl z = fl z2) := by
  rw [fl_nd, fl_nd]
  constructor
  · intro q
    simp only [List.cons.injEq, Prod.mk.injEq] at q
    obtain ⟨⟨rfl, q2, q3⟩, q4⟩ := q
    obtain ⟨t1, t2, t3⟩ := wf_twin h g
    obtain ⟨a1, a2⟩ := tw_pre t1 q4
    obtain ⟨b1, b2⟩ := tw_pre t2 a2
    exact ⟨rfl, q2, q3, a1, b1, b2⟩
  · rintro ⟨rfl, rfl, q3, q4, q5, q6⟩
    rw [q3, q4, q5, q6]
theorem rx_wn {σ : Sg} {t : Tr} {c : Int32} {N : Nat} (ht : wn t) (h : rx σ t c N) (hN : N ≤ 9000) : (wf t ∧ ∃ j, j < N ∧ c = nI j ∧ σ.1 6 j = nI (tsz t)) ∨ (t = nl ∧ c = -1) := by
  rcases ht with ht | rfl
  · obtain ⟨k, v, x, y, z, rfl⟩ := wf_shape t ht
    rw [rx_nd] at h
    obtain ⟨j, h1, h2, -, -, h5, -⟩ := h
    exact Or.inl ⟨ht, j, h1, h2, by rw [h5, tsz_nd]⟩
  · rw [rx_nl] at h
    exact Or.inr ⟨rfl, h⟩
theorem rxn_ex {σ τ : Sg} {t : Tr} (ht : wn t) {c : Int32} {N M : Nat} (h : rx σ t c N) (he : Ex σ τ M) (hN : N ≤ M) : rx τ t c N := by
  rcases ht with ht | rfl
  · exact rx_ex t ht c N M h he hN
  · rw [rx_nl] at h ⊢; exact h
theorem rxn_le {σ : Sg} {t : Tr} (ht : wn t) {c : Int32} {N M : Nat} (h : rx σ t c N) (hN : N ≤ M) : rx σ t c M := by
  rcases ht with ht | rfl
  · exact rx_le ht h hN
  · rw [rx_nl] at h ⊢; exact h
/-- what make() comes to: a new node at N -/
def mkP (t : Tr) (N : Nat) (σ : Sg) (r : Int32) (τ : Sg) : Prop := r = nI N ∧ Fm [1, 2, 3, 4, 5, 6] [1] σ τ ∧ Ex σ τ N ∧ τ.1 0 1 = nI (N + 1) ∧ rx τ t (nI N) (N + 1)
theorem lt_i {α : Type} {a : α} {f : α → Prop} (h : ∀ x, x = a → f x) : lt a f := h a rfl
theorem mk_if {x : Tr} {c : Int32} {σ τ : Sg} {N : Nat} {A : Int32 → Prop} (hx : wn x) (hN : N ≤ 9000) (hr : rx σ x c N) (h6 : ∀ j, j < N → τ.1 6 j = σ.1 6 j) (h : A (nI (tsz x))) : if 0 ≤ c then (vp_in c 9000 ∧ A (τ.1 6 (Int32.toNatClampNeg c))) else A 0 := by
  rcases rx_wn hx hr hN with ⟨-, j, h1, rfl, h2⟩ | ⟨rfl, rfl⟩
  · rw [if_pos (nI_pos' (by omega))]
    refine ⟨vp_in_nI (by omega) (by omega), ?_⟩
    rw [ncl (by omega), h6 j h1, h2]
    exact h
  · rw [if_neg (by decide)]
    rw [tsz_nl] at h
    exact h
theorem make_sp {k : Nat} {v : Int32} {x y z : Tr} {c1 c2 c3 : Int32} {σ : Sg} {N : Nat} {Q : Int32 → Sg → Prop} (hx : wn x) (hy : wn y) (hz : wn z) (hN : N < 9000) (htop : σ.1 0 1 = nI N)
    (r1 : rx σ x c1 N) (r2 : rx σ y c2 N) (r3 : rx σ z c3 N) (hQ : ∀ r τ, mkP (nd k v x y z) N σ r τ → Q r τ) : wX8_make (nI k) v c1 c2 c3 σ Q := by
  have hin : vp_in (nI N) 9000 := vp_in_nI hN (by omega)
  have hc : (nI N).toNatClampNeg = N := ncl (by omega)
  unfold wX8_make
  rw [htop, hc]
  refine ⟨hin, lt_i (fun a ea => ?_)⟩
  have ta : a.1 0 1 = nI N := by rw [ea, sI_1, up_n _ _ _ _ (by decide)]; exact htop
  rw [ta, hc]
  refine ⟨hin, lt_i (fun b eb => ?_)⟩
  have tb : b.1 0 1 = nI N := by rw [eb, sI_1, up_n _ _ _ _ (by decide)]; exact ta
  rw [tb, hc]
  refine ⟨hin, lt_i (fun c ec => ?_)⟩
  have tc : c.1 0 1 = nI N := by rw [ec, sI_1, up_n _ _ _ _ (by decide)]; exact tb
  rw [tc, hc]
  refine ⟨hin, lt_i (fun d ed => ?_)⟩
  have td : d.1 0 1 = nI N := by rw [ed, sI_1, up_n _ _ _ _ (by decide)]; exact tc
  rw [td, hc]
  refine ⟨hin, lt_i (fun e ee => ?_)⟩
  have te : e.1 0 1 = nI N := by rw [ee, sI_1, up_n _ _ _ _ (by decide)]; exact td
  rw [te]
  have h6 : ∀ j, j < N → e.1 6 j = σ.1 6 j := fun j _ => by
    rw [ee, sI_1, up_n _ _ _ _ (by decide), ed, sI_1, up_n _ _ _ _ (by decide), ec, sI_1, up_n _ _ _ _ (by decide), eb, sI_1, up_n _ _ _ _ (by decide), ea, sI_1, up_n _ _ _ _ (by decide)]
  refine mk_if (A := fun q => wX8_make_75 c2 c3 (nI N) 1 q e Q) hx (by omega) r1 h6 ?_
  unfold wX8_make_75
  refine mk_if (A := fun q => wX8_make_92 c3 (nI N) (1 + nI (tsz x)) q e Q) hy (by omega) r2 h6 ?_
  unfold wX8_make_92
  refine mk_if (A := fun q => wX8_make_109 (nI N) (1 + nI (tsz x) + nI (tsz y)) q e Q) hz (by omega) r3 h6 ?_
  unfold wX8_make_109
  rw [hc]
  refine ⟨hin, lt_i (fun f ef => lt_i (fun g eg => ?_))⟩
  have tf : f.1 0 1 = nI N := by rw [ef, sI_1, up_n _ _ _ _ (by decide)]; exact te
  have tg : g.1 0 1 = nI (N + 1) := by rw [eg, sI_1, up_s, ud_s, tf]; exact nI_1 N
  have g1 : g.1 1 = upd (σ.1 1) N (nI k) := by simp [eg, ef, ee, ed, ec, eb, ea, sI, va_up]
  have g2 : g.1 2 = upd (σ.1 2) N v := by simp [eg, ef, ee, ed, ec, eb, ea, sI, va_up]
  have g3 : g.1 3 = upd (σ.1 3) N c1 := by simp [eg, ef, ee, ed, ec, eb, ea, sI, va_up]
  have g4 : g.1 4 = upd (σ.1 4) N c2 := by simp [eg, ef, ee, ed, ec, eb, ea, sI, va_up]
  have g5 : g.1 5 = upd (σ.1 5) N c3 := by simp [eg, ef, ee, ed, ec, eb, ea, sI, va_up]
  have g6 : g.1 6 = upd (σ.1 6) N (1 + nI (tsz x) + nI (tsz y) + nI (tsz z)) := by simp [eg, ef, ee, ed, ec, eb, ea, sI, va_up]
  have hF : Fm [1, 2, 3, 4, 5, 6] [1] σ g := by
    have q1 : Fm [1, 2, 3, 4, 5, 6] [1] σ a := by rw [ea]; exact Fm.row 1 _ (by decide) (by simp)
    have q2 : Fm [1, 2, 3, 4, 5, 6] [1] a b := by rw [eb]; exact Fm.row 2 _ (by decide) (by simp)
    have q3 : Fm [1, 2, 3, 4, 5, 6] [1] b c := by rw [ec]; exact Fm.row 3 _ (by decide) (by simp)
    have q4 : Fm [1, 2, 3, 4, 5, 6] [1] c d := by rw [ed]; exact Fm.row 4 _ (by decide) (by simp)
    have q5 : Fm [1, 2, 3, 4, 5, 6] [1] d e := by rw [ee]; exact Fm.row 5 _ (by decide) (by simp)
    have q6 : Fm [1, 2, 3, 4, 5, 6] [1] e f := by rw [ef]; exact Fm.row 6 _ (by decide) (by simp)
    have q7 : Fm [1, 2, 3, 4, 5, 6] [1] f g := by rw [eg]; exact Fm.put 1 _ (by simp)
    exact (((((q1.tr q2).tr q3).tr q4).tr q5).tr q6).tr q7
  have hE : Ex σ g N := by
    intro r hr1 hr2 j hj
    have hne : j ≠ N := by omega
    rcases (show r = 1 ∨ r = 2 ∨ r = 3 ∨ r = 4 ∨ r = 5 ∨ r = 6 by omega) with rfl | rfl | rfl | rfl | rfl | rfl
    · rw [g1, ud_n _ _ _ _ hne]
    · rw [g2, ud_n _ _ _ _ hne]
    · rw [g3, ud_n _ _ _ _ hne]
    · rw [g4, ud_n _ _ _ _ hne]
    · rw [g5, ud_n _ _ _ _ hne]
    · rw [g6, ud_n _ _ _ _ hne]
  refine hQ _ _ ⟨?_, hF, hE, tg, ?_⟩
  · rw [tg]; exact nI_pred N
  · rw [rx_nd]
    refine ⟨N, by omega, rfl, by rw [g1, ud_s], by rw [g2, ud_s], ?_, ?_, ?_, ?_⟩
    · rw [g6, ud_s, show (1 : Int32) = nI 1 from rfl]
      simp only [nI_add]
    · rw [g3, ud_s]; exact rxn_ex hx r1 hE (Nat.le_refl _)
    · rw [g4, ud_s]; exact rxn_ex hy r2 hE (Nat.le_refl _)
    · rw [g5, ud_s]; exact rxn_ex hz r3 hE (Nat.le_refl _)
theorem wn_nl : wn nl := Or.inr rfl
theorem rx_m1 (σ : Sg) (N : Nat) : rx σ nl (-1) N := by rw [rx_nl]
theorem numeral_sp {v : Int32} {σ : Sg} {N : Nat} {Q : Int32 → Sg → Prop} (hN : N < 9000) (htop : σ.1 0 1 = nI N) (hQ : ∀ r τ, mkP (nm v) N σ r τ → Q r τ) : wX8_numeral v σ Q := by
  unfold wX8_numeral
  exact make_sp (k := 0) wn_nl wn_nl wn_nl hN htop (rx_m1 σ N) (rx_m1 σ N) (rx_m1 σ N) hQ
theorem pair_sp {k : Nat} {x y : Tr} {c1 c2 : Int32} {σ : Sg} {N : Nat} {Q : Int32 → Sg → Prop} (hx : wn x) (hy : wn y) (hN : N < 9000) (htop : σ.1 0 1 = nI N) (r1 : rx σ x c1 N) (r2 : rx σ y c2 N) (hQ : ∀ r τ, mkP (nd k 0 x y nl) N σ r τ → Q r τ) : wX8_pair (nI k) c1 c2 σ Q := by
  unfold wX8_pair
  exact make_sp hx hy wn_nl hN htop r1 r2 (rx_m1 σ N) hQ
/-- one index, one tree -/
theorem rx_un {σ : Sg} : ∀ x, wn x → ∀ (y : Tr) (c : Int32) (N M : Nat), wn y → N ≤ 9000 → M ≤ 9000 → rx σ x c N → rx σ y c M → x = y := by
  apply wf_gen
  · intro y c N M hy hN hM hx hr
    rw [rx_nl] at hx
    rcases rx_wn hy hr hM with ⟨-, j, h1, h2, -⟩ | ⟨rfl, -⟩
    · rw [hx] at h2
      exact absurd h2.symm (by rw [m1_ne j (by omega)]; exact not_false)
    · rfl
  · intro k v x1 x2 x3 hw i1 i2 i3 y c N M hy hN hM hx hr
    rcases hy with hy | rfl
    · obtain ⟨k2, v2, y1, y2, y3, rfl⟩ := wf_shape y hy
      rw [rx_nd] at hx hr
      obtain ⟨j, a1, a2, a3, a4, a5, a6, a7, a8⟩ := hx
      obtain ⟨j2, b1, b2, b3, b4, b5, b6, b7, b8⟩ := hr
      have ej : j = j2 := (nI_eq (by omega) (by omega)).mp (a2.symm.trans b2)
      subst ej
      have ek : k = k2 := by
        have q1 := wf_kd hw
        have q2 := wf_kd hy
        rw [kd_nd] at q1 q2
        exact (nI_eq (by omega) (by omega)).mp (a3.symm.trans b3)
      subst ek
      have e4 : v = v2 := a4.symm.trans b4
      subst e4
      obtain ⟨t1, t2, t3⟩ := wf_twin hw hy
      rw [i1 y1 _ j j (tw_wn t1).2 (by omega) (by omega) a6 b6, i2 y2 _ j j (tw_wn t2).2 (by omega) (by omega) a7 b7, i3 y3 _ j j (tw_wn t3).2 (by omega) (by omega) a8 b8]
    · rw [rx_nd] at hx
      rw [rx_nl] at hr
      obtain ⟨j, a1, a2, -⟩ := hx
      rw [hr] at a2
      exact absurd a2.symm (by rw [m1_ne j (by omega)]; exact not_false)
theorem same_sp {σ : Sg} : ∀ x, wn x → ∀ (y : Tr), wn y → ∀ (e : Nat), tsz x + 1 ≤ e → ∀ (c1 c2 : Int32) (N M : Nat) (Q : Int32 → Sg → Prop), N ≤ 9000 → M ≤ 9000 → rx σ x c1 N → rx σ y c2 M → Q (if fl x = fl y then 1 else 0) σ → wX8_areSame e c1 c2 σ Q := by
  apply wf_gen
  · intro y hy e he c1 c2 N M Q hN hM hx hr hQ
    cases e with
    | zero => omega
    | succ e =>
      show wX8_areSame_b (wX8_areSame e) c1 c2 σ Q
      unfold wX8_areSame_b
      rw [rx_nl] at hx
      subst hx
      rcases rx_wn hy hr hM with ⟨hw, j, h1, rfl, -⟩ | ⟨rfl, rfl⟩
      · rw [if_neg (by rw [m1_ne' j (by omega)]; exact not_false), if_pos (by decide)]
        rw [if_neg (by rw [fl_nl]; exact fun q => fl_ne hw q.symm)] at hQ
        exact hQ
      · rw [if_pos rfl]
        rw [if_pos rfl] at hQ
        exact hQ
  · intro k v x1 x2 x3 hw i1 i2 i3 y hy e he c1 c2 N M Q hN hM hx hr hQ
    rw [tsz_nd] at he
    cases e with
    | zero => omega
    | succ e =>
      show wX8_areSame_b (wX8_areSame e) c1 c2 σ Q
      unfold wX8_areSame_b
      by_cases hc : c1 = c2
      · rw [if_pos hc]
        subst hc
        have := rx_un _ (Or.inl hw) y c1 N M hy hN hM hx hr
        rw [if_pos (by rw [this])] at hQ
        exact hQ
      · rw [if_neg hc]
        rcases hy with hy | rfl
        · obtain ⟨k2, v2, y1, y2, y3, rfl⟩ := wf_shape y hy
          rw [rx_nd] at hx hr
          obtain ⟨j, a1, rfl, a3, a4, a5, a6, a7, a8⟩ := hx
          obtain ⟨j2, b1, rfl, b3, b4, b5, b6, b7, b8⟩ := hr
          rw [if_neg (nI_pos (by omega)), if_neg (nI_pos (by omega))]
          refine ⟨vp_in_nI (by omega) (by omega), vp_in_nI (by omega) (by omega), ?_⟩
          rw [ncl (by omega), ncl (by omega), a3, b3, a4, b4, a5, b5]
          have q1 := wf_kd hw
          have q2 := wf_kd hy
          rw [kd_nd] at q1 q2
          have iff := fl_iff hw hy
          have no : ¬ fl (nd k v x1 x2 x3) = fl (nd k2 v2 y1 y2 y3) → Q 0 σ := fun q => by rw [if_neg q] at hQ; exact hQ
          by_cases ek : k = k2
          · subst ek
            rw [if_pos rfl]
            by_cases ev : v = v2
            · rw [if_pos ev]
              by_cases es : nI (1 + tsz x1 + tsz x2 + tsz x3) = nI (1 + tsz y1 + tsz y2 + tsz y3)
              · rw [if_pos es]
                obtain ⟨t1, t2, t3⟩ := wf_twin hw hy
                refine i1 y1 (tw_wn t1).2 e (by omega) _ _ j j2 _ (by omega) (by omega) a6 b6 ?_
                by_cases f1 : fl x1 = fl y1
                · rw [if_pos f1, if_neg (by decide)]
                  refine i2 y2 (tw_wn t2).2 e (by omega) _ _ j j2 _ (by omega) (by omega) a7 b7 ?_
                  by_cases f2 : fl x2 = fl y2
                  · rw [if_pos f2, if_neg (by decide)]
                    refine i3 y3 (tw_wn t3).2 e (by omega) _ _ j j2 _ (by omega) (by omega) a8 b8 ?_
                    by_cases f3 : fl x3 = fl y3
                    · rw [if_pos f3, if_neg (by decide)]
                      have sz : ∀ {p q : Tr}, tw p q → fl p = fl q → tsz p = tsz q := by
                        intro p q hpq hf
                        rcases hpq with ⟨hp, hq⟩ | ⟨rfl, rfl⟩
                        · rw [← fl_len p hp, ← fl_len q hq, hf]
                        · rfl
                      rw [if_pos (iff.mpr ⟨rfl, ev, by rw [sz t1 f1, sz t2 f2, sz t3 f3], f1, f2, f3⟩)] at hQ
                      exact hQ
                    · rw [if_neg f3, if_pos rfl]
                      exact no (fun q => f3 (iff.mp q).2.2.2.2.2)
                  · rw [if_neg f2, if_pos rfl]
                    exact no (fun q => f2 (iff.mp q).2.2.2.2.1)
                · rw [if_neg f1, if_pos rfl]
                  exact no (fun q => f1 (iff.mp q).2.2.2.1)
              · rw [if_neg es]
                exact no (fun q => es (by rw [(iff.mp q).2.2.1]))
            · rw [if_neg ev]
              exact no (fun q => ev (iff.mp q).2.1)
          · rw [if_neg (fun q => ek ((nI_eq (by omega) (by omega)).mp q))]
            exact no (fun q => ek (iff.mp q).1)
        · rw [rx_nd] at hx
          rw [rx_nl] at hr
          subst hr
          obtain ⟨j, a1, rfl, -⟩ := hx
          rw [if_neg (nI_pos (by omega)), if_pos (by decide)]
          rw [if_neg (by rw [fl_nl]; exact fl_ne hw)] at hQ
          exact hQ
theorem isNumber_sp {x : Tr} {v : Int32} {c : Int32} {σ : Sg} {N : Nat} {Q : Int32 → Sg → Prop} (hx : wf x) (hN : N ≤ 9000) (hr : rx σ x c N) (hQ : Q (if nu x = some v then 1 else 0) σ) : wX8_isNumber c v σ Q := by
  obtain ⟨k, w, x1, x2, x3, rfl⟩ := wf_shape x hx
  have q1 := wf_kd hx
  rw [kd_nd] at q1
  rw [rx_nd] at hr
  obtain ⟨j, a1, rfl, a3, a4, -⟩ := hr
  unfold wX8_isNumber
  refine ⟨vp_in_nI (by omega) (by omega), ?_⟩
  rw [ncl (by omega), a3, a4]
  unfold nu at hQ
  rw [kd_nd, vv_nd] at hQ
  by_cases hk : k = 0
  · subst hk
    rw [if_pos (show nI 0 = (0 : Int32) from rfl)]
    simp only [if_true] at hQ
    by_cases hv : w = v
    · rw [if_pos hv]
      rw [if_pos (by rw [hv])] at hQ
      exact hQ
    · rw [if_neg hv]
      rw [if_neg (fun q => hv (Option.some.inj q))] at hQ
      exact hQ
  · rw [if_neg (show ¬ nI k = (0 : Int32) from fun q => hk ((nI_eq (b := 0) (by omega) (by omega)).mp q))]
    rw [if_neg (by rw [if_neg hk]; exact fun q => nomatch q)] at hQ
    exact hQ

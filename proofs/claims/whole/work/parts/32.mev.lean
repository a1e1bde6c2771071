/-! the reference: values -/
theorem div_m1 (x : Int32) : x / (-1) = -x := by
  have e : (-1 : Int32).toInt = -1 := by decide
  rw [← Int32.toInt_inj, Int32.toInt_div, e, Int32.toInt_neg, Int.tdiv_neg, Int.tdiv_one]
theorem both_sp {k : Nat} {x y : Int32} {σ : Sg} {Q : Int32 → Sg → Prop} (h1 : 4 ≤ k) (h2 : k < 8) (h7 : k = 7 → y ≠ 0) (h : Q (bo k x y) σ) : wX8_both (nI k) x y σ Q := by
  unfold wX8_both bo at *
  rcases (show k = 4 ∨ k = 5 ∨ k = 6 ∨ k = 7 by omega) with rfl | rfl | rfl | rfl
  · rw [if_pos (by decide)]
    simpa using h
  · rw [if_neg (by decide), if_pos (by decide)]
    simpa using h
  · rw [if_neg (by decide), if_neg (by decide), if_pos (by decide)]
    simpa using h
  · rw [if_neg (by decide), if_neg (by decide), if_neg (by decide)]
    have h : Q (x / y) σ := by simpa using h
    by_cases q : y = -1
    · rw [if_pos q]
      rw [q, div_m1] at h
      exact h
    · rw [if_neg q]
      exact ⟨h7 rfl, h⟩
/-- what works() comes to -/
def wkP (a b : Int32) (t : Tr) (σ : Sg) (r : Int32) (τ : Sg) : Prop := Fm [] [8, 9] σ τ ∧ τ.1 0 9 = σ.1 0 9 + nI (ev a b t).2 ∧ ((ev a b t).1 = none → τ.1 0 8 = 1) ∧ (∀ v, (ev a b t).1 = some v → τ.1 0 8 = 0 ∧ r = v)
theorem fm_row {S T : List Nat} {σ τ : Sg} (h : Fm S T σ τ) (i : Nat) (h0 : i ≠ 0) (hi : i ∉ S) : τ.1 i = σ.1 i := h.1 i h0 hi
theorem rx_fm {T : List Nat} {σ τ : Sg} {t : Tr} {c : Int32} {N : Nat} (ht : wf t) (h : rx σ t c N) (hf : Fm [] T σ τ) : rx τ t c N := rx_ex t ht c N N h (Ex.fm hf (fun _ _ _ => by simp)) (Nat.le_refl _)
theorem works_sp (a b : Int32) : ∀ t, wf t → ∀ (e : Nat), tsz t ≤ e → ∀ (σ : Sg) (c : Int32) (N : Nat) (Q : Int32 → Sg → Prop), N ≤ 9000 → rx σ t c N → σ.1 0 8 = 0 → (∀ r τ, wkP a b t σ r τ → Q r τ) → wX8_works e c a b σ Q := by
  apply wf_ind
  · intro k v hk hv e he σ c N Q hN hr h8 hQ
    rw [rx_nd] at hr
    obtain ⟨j, h1, rfl, h3, h4, h5, -, -, -⟩ := hr
    cases e with
    | zero => rw [tsz_nd] at he; omega
    | succ e =>
      show wX8_works_b (wX8_works e) (nI j) a b σ Q
      unfold wX8_works_b
      rw [if_pos h8]
      refine ⟨vp_in_nI (by omega) (by omega), ?_⟩
      rw [ncl (by omega), h3, if_neg (by rw [lit]; exact nI_ge (by omega) (by omega))]
      have hf : Fm [] [8, 9] σ (sI σ 0 (upd (σ.1 0) 9 ((σ.1 0 9) + 1))) := Fm.put 9 _ (by simp)
      dsimp only [lt]
      rw [fm_row hf 1 (by omega) (by simp), fm_row hf 2 (by omega) (by simp), h3, h4]
      have e9 : (sI σ 0 (upd (σ.1 0) 9 ((σ.1 0 9) + 1))).1 0 9 = σ.1 0 9 + 1 := by rw [sI_1, up_s, ud_s]
      have e8 : (sI σ 0 (upd (σ.1 0) 9 ((σ.1 0 9) + 1))).1 0 8 = 0 := by rw [sI_1, up_s, ud_n _ _ _ _ (by decide), h8]
      rcases (show k = 0 ∨ k = 1 ∨ k = 2 by omega) with rfl | rfl | rfl
      · rw [if_pos (by decide)]
        refine hQ _ _ ⟨hf, ?_, ?_, ?_⟩
        · rw [e9, ev_nd]; rfl
        · intro q; rw [ev_nd] at q; simp at q
        · intro w q
          rw [ev_nd] at q
          simp at q
          exact ⟨e8, q⟩
      · rw [if_neg (by decide), if_pos (by decide)]
        refine hQ _ _ ⟨hf, ?_, ?_, ?_⟩
        · rw [e9, ev_nd]; rfl
        · intro q; rw [ev_nd] at q; simp at q
        · intro w q
          rw [ev_nd] at q
          simp at q
          exact ⟨e8, q⟩
      · rw [if_neg (by decide), if_neg (by decide)]
        refine hQ _ _ ⟨hf, ?_, ?_, ?_⟩
        · rw [e9, ev_nd]; rfl
        · intro q; rw [ev_nd] at q; simp at q
        · intro w q
          rw [ev_nd] at q
          simp at q
          exact ⟨e8, q⟩
  · intro x hx ix e he σ c N Q hN hr h8 hQ
    rw [rx_nd] at hr
    obtain ⟨j, h1, rfl, h3, h4, h5, rx1, -, -⟩ := hr
    cases e with
    | zero => rw [tsz_nd] at he; omega
    | succ e =>
      rw [tsz_nd] at he
      show wX8_works_b (wX8_works e) (nI j) a b σ Q
      unfold wX8_works_b
      rw [if_pos h8]
      refine ⟨vp_in_nI (by omega) (by omega), ?_⟩
      rw [ncl (by omega), h3, if_pos (by decide)]
      refine ix e (by omega) σ _ j _ (by omega) rx1 h8 (fun p τ hp => ?_)
      obtain ⟨f1, f2, f3, f4⟩ := hp
      cases hv : (ev a b x).1 with
      | none =>
        rw [if_neg (by rw [f3 hv]; decide)]
        refine hQ _ _ ⟨f1, ?_, ?_, ?_⟩
        · rw [f2, ev_nd, hv]; simp
        · intro _; exact f3 hv
        · intro w q
          rw [ev_nd, hv] at q
          simp at q
      | some v =>
        obtain ⟨g1, g2⟩ := f4 v hv
        rw [if_pos g1, fm_row f1 1 (by omega) (by simp), h3, if_pos (by decide)]
        have hf : Fm [] [8, 9] τ (sI τ 0 (upd (τ.1 0) 9 ((τ.1 0 9) + 1))) := Fm.put 9 _ (by simp)
        refine hQ _ _ ⟨f1.tr hf, ?_, ?_, ?_⟩
        · rw [sI_1, up_s, ud_s, f2, ev_nd, hv]
          simp only [Nat.reduceEqDiff, ↓reduceIte, if_true, if_false]
          rw [← nI_add, Int32.add_assoc]
          rfl
        · intro q
          rw [ev_nd, hv] at q
          simp at q
        · intro w q
          rw [ev_nd, hv] at q
          simp at q
          exact ⟨by rw [sI_1, up_s, ud_n _ _ _ _ (by decide), g1], by rw [g2, q]⟩
  · intro k x y hk1 hk2 hx hy ix iy e he σ c N Q hN hr h8 hQ
    rw [rx_nd] at hr
    obtain ⟨j, h1, rfl, h3, h4, h5, rx1, rx2, -⟩ := hr
    cases e with
    | zero => rw [tsz_nd] at he; omega
    | succ e =>
      rw [tsz_nd] at he
      show wX8_works_b (wX8_works e) (nI j) a b σ Q
      have n0 : ¬ k = 0 := by omega
      have n1 : ¬ k = 1 := by omega
      have n2 : ¬ k = 2 := by omega
      have n3 : ¬ k = 3 := by omega
      have n8 : ¬ k = 8 := by omega
      unfold wX8_works_b
      rw [if_pos h8]
      refine ⟨vp_in_nI (by omega) (by omega), ?_⟩
      rw [ncl (by omega), h3, if_pos (show (3 : Int32) ≤ nI k from nI_le (a := 3) (by omega) (by omega))]
      refine ix e (by omega) σ _ j _ (by omega) rx1 h8 (fun p τ hp => ?_)
      obtain ⟨f1, f2, f3, f4⟩ := hp
      cases hv : (ev a b x).1 with
      | none =>
        rw [if_neg (by rw [f3 hv]; decide)]
        refine hQ _ _ ⟨f1, ?_, ?_, ?_⟩
        · rw [f2, ev_nd, hv]; simp [n0, n1, n2]
        · intro _; exact f3 hv
        · intro w q
          rw [ev_nd, hv] at q
          simp [n0, n1, n2] at q
      | some v =>
        obtain ⟨g1, g2⟩ := f4 v hv
        have r1 : τ.1 1 j = nI k := by rw [fm_row f1 1 (by omega) (by simp)]; exact h3
        have r4 : τ.1 4 j = σ.1 4 j := by rw [fm_row f1 4 (by omega) (by simp)]
        rw [if_pos g1, r1, if_neg (show ¬ nI k = (3 : Int32) from fun q => n3 ((nI_eq (b := 3) (by omega) (by omega)).mp q)), if_neg (show ¬ nI k = (8 : Int32) from fun q => n8 ((nI_eq (b := 8) (by omega) (by omega)).mp q)), r4]
        refine iy e (by omega) τ _ j _ (by omega) (rx_fm hy rx2 f1) g1 (fun p2 τ2 hp2 => ?_)
        obtain ⟨k1, k2, k3, k4⟩ := hp2
        cases hw : (ev a b y).1 with
        | none =>
          rw [if_neg (by rw [k3 hw]; decide)]
          refine hQ _ _ ⟨f1.tr k1, ?_, ?_, ?_⟩
          · rw [k2, f2, ev_nd, hv, hw]
            simp [n0, n1, n2, n3, n8]
            rw [← nI_add, Int32.add_assoc]
          · intro _; exact k3 hw
          · intro w q
            rw [ev_nd, hv, hw] at q
            simp [n0, n1, n2, n3, n8] at q
        | some w =>
          obtain ⟨m1, m2⟩ := k4 w hw
          rw [if_pos m1]
          have hf : Fm [] [8, 9] τ2 (sI τ2 0 (upd (τ2.1 0) 9 ((τ2.1 0 9) + 1))) := Fm.put 9 _ (by simp)
          have e9 : (sI τ2 0 (upd (τ2.1 0) 9 ((τ2.1 0 9) + 1))).1 0 9 = σ.1 0 9 + nI ((ev a b x).2 + (ev a b y).2 + 1) := by
            rw [sI_1, up_s, ud_s, k2, f2, ← nI_add, ← nI_add, ← Int32.add_assoc, ← Int32.add_assoc]
            rfl
          have e1 : (sI τ2 0 (upd (τ2.1 0) 9 ((τ2.1 0 9) + 1))).1 1 j = nI k := by rw [fm_row hf 1 (by omega) (by simp), fm_row k1 1 (by omega) (by simp)]; exact r1
          dsimp only [lt]
          rw [e1]
          generalize sI τ2 0 (upd (τ2.1 0) 9 ((τ2.1 0 9) + 1)) = ρ at hf e9 e1
          have fin : ∀ (fr : Int32), (fr = 1 ∧ k = 7 ∧ w = 0) ∨ (fr = 0 ∧ ¬ (k = 7 ∧ w = 0)) → wX8_works_242 (wX8_works e) (nI j) p p2 fr ρ Q := by
            intro fr hfr
            unfold wX8_works_242
            refine ⟨by rcases hfr with ⟨q, -⟩ | ⟨q, -⟩ <;> simp [q], ?_⟩
            have hf2 : Fm [] [8, 9] ρ (sI ρ 0 (upd (ρ.1 0) 8 fr)) := Fm.put 8 _ (by simp)
            have q8 : (sI ρ 0 (upd (ρ.1 0) 8 fr)).1 0 8 = fr := by rw [sI_1, up_s, ud_s]
            have q9 : (sI ρ 0 (upd (ρ.1 0) 8 fr)).1 0 9 = ρ.1 0 9 := by rw [sI_1, up_s, ud_n _ _ _ _ (by decide)]
            have q1 : (sI ρ 0 (upd (ρ.1 0) 8 fr)).1 1 j = nI k := by rw [fm_row hf2 1 (by omega) (by simp)]; exact e1
            dsimp only [lt]
            rw [q8]
            rcases hfr with ⟨rfl, rfl, rfl⟩ | ⟨rfl, hn⟩
            · rw [if_neg (by decide)]
              refine hQ _ _ ⟨((f1.tr k1).tr hf).tr hf2, ?_, ?_, ?_⟩
              · rw [q9, e9, ev_nd, hv, hw]; simp
              · intro _; exact q8
              · intro w2 q
                rw [ev_nd, hv, hw] at q
                simp at q
            · rw [if_pos rfl]
              refine ⟨vp_in_nI (by omega) (by omega), ?_⟩
              rw [ncl (by omega), q1]
              refine both_sp hk1 hk2 (fun q z => hn ⟨q, by rw [← m2]; exact z⟩) ?_
              refine hQ _ _ ⟨((f1.tr k1).tr hf).tr hf2, ?_, ?_, ?_⟩
              · rw [q9, e9, ev_nd, hv, hw]; simp [n0, n1, n2, n3, n8, hn]
              · intro q
                rw [ev_nd, hv, hw] at q
                simp [n0, n1, n2, n3, n8, hn] at q
              · intro w2 q
                rw [ev_nd, hv, hw] at q
                simp [n0, n1, n2, n3, n8, hn] at q
                exact ⟨q8, by rw [g2, m2]; exact q⟩
          by_cases h7 : k = 7
          · rw [if_pos (by rw [h7]; decide), m2]
            by_cases hz : w = 0
            · rw [if_pos hz, ← m2]
              exact fin 1 (Or.inl ⟨rfl, h7, hz⟩)
            · rw [if_neg hz, ← m2]
              exact fin 0 (Or.inr ⟨rfl, fun q => hz q.2⟩)
          · rw [if_neg (show ¬ nI k = (7 : Int32) from fun q => h7 ((nI_eq (b := 7) (by omega) (by omega)).mp q))]
            exact fin 0 (Or.inr ⟨rfl, fun q => h7 q.1⟩)
  · intro x y z hx hy hz ix iy iz e he σ c N Q hN hr h8 hQ
    rw [rx_nd] at hr
    obtain ⟨j, h1, rfl, h3, h4, h5, rx1, rx2, rx3⟩ := hr
    cases e with
    | zero => rw [tsz_nd] at he; omega
    | succ e =>
      rw [tsz_nd] at he
      show wX8_works_b (wX8_works e) (nI j) a b σ Q
      unfold wX8_works_b
      rw [if_pos h8]
      refine ⟨vp_in_nI (by omega) (by omega), ?_⟩
      rw [ncl (by omega), h3, if_pos (by decide)]
      refine ix e (by omega) σ _ j _ (by omega) rx1 h8 (fun p τ hp => ?_)
      obtain ⟨f1, f2, f3, f4⟩ := hp
      cases hv : (ev a b x).1 with
      | none =>
        rw [if_neg (by rw [f3 hv]; decide)]
        refine hQ _ _ ⟨f1, ?_, ?_, ?_⟩
        · rw [f2, ev_nd, hv]; simp
        · intro _; exact f3 hv
        · intro w q
          rw [ev_nd, hv] at q
          simp at q
      | some v =>
        obtain ⟨g1, g2⟩ := f4 v hv
        have r1 : τ.1 1 j = nI 8 := by rw [fm_row f1 1 (by omega) (by simp)]; exact h3
        rw [if_pos g1, r1, if_neg (by decide), if_pos (by decide)]
        have hf : Fm [] [8, 9] τ (sI τ 0 (upd (τ.1 0) 9 ((τ.1 0 9) + 1))) := Fm.put 9 _ (by simp)
        have e9 : (sI τ 0 (upd (τ.1 0) 9 ((τ.1 0 9) + 1))).1 0 9 = σ.1 0 9 + nI ((ev a b x).2 + 1) := by
          rw [sI_1, up_s, ud_s, f2, ← nI_add, ← Int32.add_assoc]
          rfl
        have e8 : (sI τ 0 (upd (τ.1 0) 9 ((τ.1 0 9) + 1))).1 0 8 = 0 := by rw [sI_1, up_s, ud_n _ _ _ _ (by decide), g1]
        have r4 : (sI τ 0 (upd (τ.1 0) 9 ((τ.1 0 9) + 1))).1 4 j = σ.1 4 j := by rw [fm_row hf 4 (by omega) (by simp), fm_row f1 4 (by omega) (by simp)]
        have r5 : (sI τ 0 (upd (τ.1 0) 9 ((τ.1 0 9) + 1))).1 5 j = σ.1 5 j := by rw [fm_row hf 5 (by omega) (by simp), fm_row f1 5 (by omega) (by simp)]
        dsimp only [lt]
        rw [r4, r5]
        generalize sI τ 0 (upd (τ.1 0) 9 ((τ.1 0 9) + 1)) = ρ at hf e9 e8
        by_cases hp0 : p = 0
        · rw [if_pos hp0]
          refine iz e (by omega) ρ _ j _ (by omega) (rx_fm hz rx3 (f1.tr hf)) e8 (fun r τ2 hp2 => ?_)
          obtain ⟨k1, k2, k3, k4⟩ := hp2
          have hv0 : v = 0 := by rw [← g2]; exact hp0
          refine hQ _ _ ⟨(f1.tr hf).tr k1, ?_, ?_, ?_⟩
          · rw [k2, e9, ev_nd, hv]
            simp [hv0]
            rw [← nI_add _ (ev a b z).2, Int32.add_assoc]
          · intro q
            rw [ev_nd, hv] at q
            simp [hv0] at q
            exact k3 q
          · intro w q
            rw [ev_nd, hv] at q
            simp [hv0] at q
            exact k4 w q
        · rw [if_neg hp0]
          refine iy e (by omega) ρ _ j _ (by omega) (rx_fm hy rx2 (f1.tr hf)) e8 (fun r τ2 hp2 => ?_)
          obtain ⟨k1, k2, k3, k4⟩ := hp2
          have hv0 : ¬ v = 0 := by rw [← g2]; exact hp0
          cases hw : (ev a b y).1 with
          | none =>
            rw [if_neg (by rw [k3 hw]; decide)]
            unfold wX8_works_180
            dsimp only [lt]
            have hf2 : Fm [] [8, 9] τ2 (sI τ2 0 (upd (τ2.1 0) 9 ((τ2.1 0 9) + 0))) := Fm.put 9 _ (by simp)
            refine hQ _ _ ⟨((f1.tr hf).tr k1).tr hf2, ?_, ?_, ?_⟩
            · rw [sI_1, up_s, ud_s, Int32.add_zero, k2, e9, ev_nd, hv]
              simp [hv0, hw]
              rw [← nI_add _ (ev a b y).2, Int32.add_assoc]
            · intro _
              rw [sI_1, up_s, ud_n _ _ _ _ (by decide)]
              exact k3 hw
            · intro w q
              rw [ev_nd, hv] at q
              simp [hv0, hw] at q
          | some w =>
            obtain ⟨m1, m2⟩ := k4 w hw
            rw [if_pos m1]
            unfold wX8_works_180
            dsimp only [lt]
            have hf2 : Fm [] [8, 9] τ2 (sI τ2 0 (upd (τ2.1 0) 9 ((τ2.1 0 9) + 1))) := Fm.put 9 _ (by simp)
            refine hQ _ _ ⟨((f1.tr hf).tr k1).tr hf2, ?_, ?_, ?_⟩
            · rw [sI_1, up_s, ud_s, k2, e9, ev_nd, hv]
              simp [hv0, hw]
              rw [show (1 : Int32) = nI 1 from rfl]
              simp only [← nI_add, Int32.add_assoc]
            · intro q
              rw [ev_nd, hv] at q
              simp [hv0, hw] at q
            · intro w2 q
              rw [ev_nd, hv] at q
              simp [hv0, hw] at q
              exact ⟨by rw [sI_1, up_s, ud_n _ _ _ _ (by decide), m1], by rw [m2, q]⟩
theorem value_sp {a b : Int32} {t : Tr} {d : Nat} {σ : Sg} {c : Int32} {N : Nat} {Q : Int32 → Sg → Prop} (ht : wf t) (hd : tsz t ≤ d) (hN : N ≤ 9000) (hr : rx σ t c N)
    (hQ : ∀ r τ, Fm [] [8, 9] σ τ → τ.1 0 9 = nI (ev a b t).2 → ((ev a b t).1 = none → τ.1 0 8 = 1) → (∀ v, (ev a b t).1 = some v → τ.1 0 8 = 0 ∧ r = v) → Q r τ) : wX8_valueOf d c a b σ Q := by
  unfold wX8_valueOf
  dsimp only [lt]
  have h1 : Fm [] [8, 9] σ (sI σ 0 (upd (σ.1 0) 8 0)) := Fm.put 8 _ (by simp)
  generalize e1 : sI σ 0 (upd (σ.1 0) 8 0) = ρ at h1
  have h2 : Fm [] [8, 9] ρ (sI ρ 0 (upd (ρ.1 0) 9 0)) := Fm.put 9 _ (by simp)
  have q8 : (sI ρ 0 (upd (ρ.1 0) 9 0)).1 0 8 = 0 := by rw [sI_1, up_s, ud_n _ _ _ _ (by decide), ← e1, sI_1, up_s, ud_s]
  have q9 : (sI ρ 0 (upd (ρ.1 0) 9 0)).1 0 9 = 0 := by rw [sI_1, up_s, ud_s]
  refine works_sp a b t ht d hd _ c N _ hN (rx_fm ht hr (h1.tr h2)) q8 (fun r τ hp => ?_)
  obtain ⟨f1, f2, f3, f4⟩ := hp
  exact hQ r τ ((h1.tr h2).tr f1) (by rw [f2, q9, Int32.zero_add]) f3 f4

/-! programs by number: the tree of a size and a number -/
def sr (f : Nat → Nat) : Nat → Nat → Nat
  | 0, _ => 0
  | k + 1, s => f s + sr f k (s + 1)
def sp (f : Nat → Nat) : Nat → Nat → Nat → Nat × Nat
  | 0, s, l => (s, l)
  | e + 1, s, l => if l < f s then (s, l) else sp f e (s + 1) (l - f s)
theorem sp_ok (f : Nat → Nat) : ∀ e s l, l < sr f e s → s ≤ (sp f e s l).1 ∧ (sp f e s l).1 < s + e ∧ (sp f e s l).2 < f (sp f e s l).1 := by
  intro e
  induction e with
  | zero => intro s l h; simp [sr] at h
  | succ e ih =>
    intro s l h
    unfold sp
    split
    · next q => exact ⟨Nat.le_refl _, by omega, q⟩
    · next q =>
      rw [sr] at h
      obtain ⟨a, b, c⟩ := ih (s + 1) (l - f s) (by omega)
      exact ⟨by omega, by omega, c⟩
def f2 (n s : Nat) : Nat := cnt s * cnt (n - s)
def f3 (n s : Nat) : Nat := cnt s * prs (n - s)
def sp2 (n l : Nat) : Nat × Nat := sp (f2 n) (n - 1) 1 l
def sp3 (n l : Nat) : Nat × Nat := sp (f3 n) (n - 1) 1 l
theorem prs_sr : ∀ n, n < 16 → prs n = sr (f2 n) (n - 1) 1 := by decide +kernel
theorem thr_sr : ∀ n, n < 16 → thr n = sr (f3 n) (n - 1) 1 := by decide +kernel
def pt (g : Nat → Nat → Tr) (n l : Nat) : Tr × Tr := (g (sp2 n l).1 ((sp2 n l).2 / cnt (n - (sp2 n l).1)), g (n - (sp2 n l).1) ((sp2 n l).2 % cnt (n - (sp2 n l).1)))
def nt : Nat → Nat → Nat → Tr
  | 0 => fun _ _ => nl
  | e + 1 => fun n i =>
    if n ≤ 1 then (if i < 3 then nm (nI i) else nd (i - 2) 0 nl nl nl)
    else if i < cnt (n - 1) then nd 3 0 (nt e (n - 1) i) nl nl
    else if i - cnt (n - 1) < 4 * prs (n - 1) then nd (4 + (i - cnt (n - 1)) / prs (n - 1)) 0 (pt (nt e) (n - 1) ((i - cnt (n - 1)) % prs (n - 1))).1 (pt (nt e) (n - 1) ((i - cnt (n - 1)) % prs (n - 1))).2 nl
    else nd 8 0 (nt e (sp3 (n - 1) (i - cnt (n - 1) - 4 * prs (n - 1))).1 ((sp3 (n - 1) (i - cnt (n - 1) - 4 * prs (n - 1))).2 / prs (n - 1 - (sp3 (n - 1) (i - cnt (n - 1) - 4 * prs (n - 1))).1))) (pt (nt e) (n - 1 - (sp3 (n - 1) (i - cnt (n - 1) - 4 * prs (n - 1))).1) ((sp3 (n - 1) (i - cnt (n - 1) - 4 * prs (n - 1))).2 % prs (n - 1 - (sp3 (n - 1) (i - cnt (n - 1) - 4 * prs (n - 1))).1))).1 (pt (nt e) (n - 1 - (sp3 (n - 1) (i - cnt (n - 1) - 4 * prs (n - 1))).1) ((sp3 (n - 1) (i - cnt (n - 1) - 4 * prs (n - 1))).2 % prs (n - 1 - (sp3 (n - 1) (i - cnt (n - 1) - 4 * prs (n - 1))).1))).2
theorem prs_0 : prs 0 = 0 ∧ prs 1 = 0 := by decide +kernel
theorem mul_pos_lt {a b c : Nat} (h : a < b * c) : 0 < b ∧ 0 < c := by
  constructor
  · rcases Nat.eq_zero_or_pos b with rfl | q
    · simp at h
    · exact q
  · rcases Nat.eq_zero_or_pos c with rfl | q
    · simp at h
    · exact q
/-- the numbers of two parts, and their trees -/
theorem sp2_ok {n l : Nat} (hn : n < 16) (h : l < prs n) : 1 ≤ (sp2 n l).1 ∧ (sp2 n l).1 < n ∧ (sp2 n l).2 < cnt (sp2 n l).1 * cnt (n - (sp2 n l).1) := by
  rw [prs_sr n hn] at h
  obtain ⟨a, b, c⟩ := sp_ok (f2 n) (n - 1) 1 l h
  exact ⟨a, by unfold sp2; omega, c⟩
theorem sp3_ok {n l : Nat} (hn : n < 16) (h : l < thr n) : 1 ≤ (sp3 n l).1 ∧ (sp3 n l).1 < n ∧ (sp3 n l).2 < cnt (sp3 n l).1 * prs (n - (sp3 n l).1) := by
  rw [thr_sr n hn] at h
  obtain ⟨a, b, c⟩ := sp_ok (f3 n) (n - 1) 1 l h
  exact ⟨a, by unfold sp3; omega, c⟩
theorem pt_ok {g : Nat → Nat → Tr} {n l : Nat} (hn : n < 16) (h : l < prs n) (hg : ∀ m i, 1 ≤ m → m < n → i < cnt m → wf (g m i) ∧ tsz (g m i) = m) : wf (pt g n l).1 ∧ wf (pt g n l).2 ∧ tsz (pt g n l).1 + tsz (pt g n l).2 = n := by
  obtain ⟨a, b, c⟩ := sp2_ok hn h
  obtain ⟨p1, p2⟩ := mul_pos_lt c
  unfold pt
  generalize sp2 n l = q at *
  obtain ⟨h1, h2⟩ := hg q.1 (q.2 / cnt (n - q.1)) a b (Nat.div_lt_of_lt_mul (by rw [Nat.mul_comm]; exact c))
  obtain ⟨h3, h4⟩ := hg (n - q.1) (q.2 % cnt (n - q.1)) (by omega) (by omega) (Nat.mod_lt _ p2)
  exact ⟨h1, h3, by dsimp only; omega⟩
theorem nt_ok : ∀ e n i, n ≤ e → 1 ≤ n → n < 16 → i < cnt n → wf (nt e n i) ∧ tsz (nt e n i) = n := by
  intro e
  induction e with
  | zero => intro n i h1 h2; omega
  | succ e ih =>
    intro n i h1 h2 h3 h4
    unfold nt
    split
    · next q =>
      have : n = 1 := by omega
      subst this
      have c1 : cnt 1 = 5 := by decide +kernel
      split
      · exact ⟨wf_nm _, tsz_nm _⟩
      · next r => exact ⟨wf_0 (by omega) (fun _ => rfl), by rw [tsz_nd, tsz_nl]⟩
    · next q =>
      have ce := cnt_eq (n - 2) (by omega)
      rw [show n - 2 + 2 = n by omega, show n - 2 + 1 = n - 1 by omega] at ce
      split
      · next r =>
        obtain ⟨a, b⟩ := ih (n - 1) i (by omega) (by omega) (by omega) r
        exact ⟨wf_1 a, by rw [tsz_nd, tsz_nl]; omega⟩
      · next r =>
        split
        · next t =>
          have pp : 0 < prs (n - 1) := by omega
          obtain ⟨a, b, c⟩ := pt_ok (g := nt e) (n := n - 1) (l := (i - cnt (n - 1)) % prs (n - 1)) (by omega) (Nat.mod_lt _ pp) (fun m j m1 m2 m3 => ih m j (by omega) m1 (by omega) m3)
          have dv : (i - cnt (n - 1)) / prs (n - 1) < 4 := Nat.div_lt_of_lt_mul (by rw [Nat.mul_comm]; exact t)
          exact ⟨wf_2 (Nat.le_add_right 4 _) (by omega) a b, by rw [tsz_nd, tsz_nl]; omega⟩
        · next t =>
          obtain ⟨a, b, c⟩ := sp3_ok (n := n - 1) (l := i - cnt (n - 1) - 4 * prs (n - 1)) (by omega) (by omega)
          generalize sp3 (n - 1) (i - cnt (n - 1) - 4 * prs (n - 1)) = z at *
          obtain ⟨p1, p2⟩ := mul_pos_lt c
          obtain ⟨x1, x2⟩ := ih z.1 (z.2 / prs (n - 1 - z.1)) (by omega) a (by omega) (Nat.div_lt_of_lt_mul (by rw [Nat.mul_comm]; exact c))
          obtain ⟨y1, y2, y3⟩ := pt_ok (g := nt e) (n := n - 1 - z.1) (l := z.2 % prs (n - 1 - z.1)) (by omega) (Nat.mod_lt _ p2) (fun m j m1 m2 m3 => ih m j (by omega) m1 (by omega) m3)
          exact ⟨wf_3 x1 y1 y2, by rw [tsz_nd]; omega⟩
/-- the reference: nthPair(), nth() itself -/
def nI0 (e : Nat) : Prop := ∀ (n i : Nat) (σ : Sg) (xs : List En) (Q : Sg → Prop), n ≤ e → 1 ≤ n → n < 16 → i < cnt n → xs.length + n ≤ 400 → cnR σ → hdR σ xs → (∀ τ, Fm [10, 11] [17] σ τ → hdR τ (xs ++ fl (nt e n i)) → Q τ) → wX8_nth0 e (nI n) (lN i) σ Q
theorem lN_lt' {a b : Nat} (ha : a < 4611686018427387904) (hb : b < 4611686018427387904) : (lN a < lN b) = (a < b) := propext (pk_lLT (by omega) (by omega))
theorem lN_le' {a b : Nat} (ha : a < 4611686018427387904) (hb : b < 4611686018427387904) : (lN a ≤ lN b) = (a ≤ b) := propext (pk_lLE (by omega) (by omega))
theorem sr_le {f : Nat → Nat} {k s : Nat} : f s ≤ sr f (k + 1) s := by rw [sr]; omega
theorem pair_loop {e n : Nat} {xs : List En} {Q : Sg → Prop} {σ : Sg} (ih : nI0 e) (hn : n < 16) (he : n ≤ e) (hx : xs.length + n ≤ 400) (hc : cnR σ) (hh : hdR σ xs) :
    ∀ (k s l : Nat), s + k = n → 1 ≤ s → l < sr (f2 n) k s → sr (f2 n) k s < 1000000000000000 → (∀ τ, Fm [10, 11] [17] σ τ → hdR τ (xs ++ (fl (nt e (sp (f2 n) k s l).1 ((sp (f2 n) k s l).2 / cnt (n - (sp (f2 n) k s l).1))) ++ fl (nt e (n - (sp (f2 n) k s l).1) ((sp (f2 n) k s l).2 % cnt (n - (sp (f2 n) k s l).1))))) → Q τ) →
    wX8_nthPair_6 (wX8_nth0 e) Q k (nI n) (lN l) (nI s) σ := by
  intro k
  induction k with
  | zero => intro s l h1 h2 h3; simp [sr] at h3
  | succ k ihk =>
    intro s l h1 h2 h3 h4 hQ
    have hsr := sr_le (f := f2 n) (k := k) (s := s)
    have h3' := h3
    rw [sr] at h3'
    show wX8_nthPair_6_b (wX8_nth0 e) (wX8_nthPair_6 (wX8_nth0 e) Q k) (nI n) (lN l) (nI s) σ Q
    unfold wX8_nthPair_6_b
    rw [pk_sub (by omega)]
    refine ⟨vp_in_nI (by omega) (by omega), vp_in_nI (by omega) (by omega), ?_⟩
    have c1 := (cnt_lt s (by omega)).1
    have c2 := (cnt_lt (n - s) (by omega)).1
    rw [ncl (by omega), ncl (by omega), hc s (by omega), hc (n - s) (by omega), lN_mul]
    show if lN l < lN (f2 n s) then _ else _
    rw [sp] at hQ
    by_cases q : l < f2 n s
    · rw [if_pos (by rw [lN_lt' (by omega) (by omega)]; exact q)]
      rw [if_pos q] at hQ
      obtain ⟨p1, p2⟩ := mul_pos_lt (b := cnt s) (c := cnt (n - s)) q
      have ne : ¬ lN (cnt (n - s)) = 0 := fun z => absurd ((pk_lEQ (b := 0) (by omega) (by omega)).mp z) (by omega)
      refine ⟨ne, ?_⟩
      rw [pk_lDiv (by omega) p2 (by omega)]
      refine ih s (l / cnt (n - s)) σ xs _ (by omega) h2 (by omega) (Nat.div_lt_of_lt_mul (by rw [Nat.mul_comm]; exact q)) (by omega) hc hh (fun τ q1 q2 => ?_)
      have hc2 := hc.fm q1
      rw [hc2 (n - s) (by omega)]
      refine ⟨ne, ?_⟩
      rw [pk_lRem (by omega) p2 (by omega)]
      obtain ⟨w1, w2⟩ := nt_ok e s (l / cnt (n - s)) (by omega) h2 (by omega) (Nat.div_lt_of_lt_mul (by rw [Nat.mul_comm]; exact q))
      refine ih (n - s) (l % cnt (n - s)) τ _ _ (by omega) (by omega) (by omega) (Nat.mod_lt _ p2) (by rw [List.length_append, fl_len _ w1, w2]; omega) hc2 q2 (fun τ2 q3 q4 => ?_)
      exact hQ τ2 (q1.tr q3) (by rw [List.append_assoc] at q4; exact q4)
    · rw [if_neg (by rw [lN_lt' (by omega) (by omega)]; exact q)]
      rw [if_neg q] at hQ
      rw [show cnt s * cnt (n - s) = f2 n s from rfl, lN_sub (show f2 n s ≤ l by omega)]
      refine lt_i (fun a ea => lt_i (fun x ex => ?_))
      have ex : x = nI (s + 1) := by rw [ex]; exact nI_1 s
      rw [ex, ea]
      exact ihk (s + 1) (l - f2 n s) (by omega) (by omega) (by omega) (by rw [sr] at h4; omega) hQ
theorem pair_nth {e n l : Nat} {xs : List En} {Q : Sg → Prop} {σ : Sg} (ih : nI0 e) (hn : n < 16) (he : n ≤ e) (hl : l < prs n) (hx : xs.length + n ≤ 400) (hc : cnR σ) (hh : hdR σ xs) (hQ : ∀ τ, Fm [10, 11] [17] σ τ → hdR τ (xs ++ (fl (pt (nt e) n l).1 ++ fl (pt (nt e) n l).2)) → Q τ) : wX8_nthPair (wX8_nth0 e) (nI n) (lN l) σ Q := by
  unfold wX8_nthPair
  have h2 := (cnt_lt n hn).2.1
  have h3 := prs_sr n hn
  have h0 : 1 ≤ n := by
    rcases Nat.eq_zero_or_pos n with rfl | q
    · rw [prs_0.1] at hl; omega
    · exact q
  exact ⟨n - 1, pair_loop ih hn he hx hc hh (n - 1) 1 l (by omega) (by omega) (by rw [← h3]; exact hl) (by rw [← h3]; omega) hQ⟩
theorem lN_rem' (l p : Nat) : lN l - lN (l / p) * lN p = lN (l % p) := by
  have h := Nat.div_add_mod l p
  rw [Nat.mul_comm] at h
  rw [lN_mul, lN_sub (by omega)]
  congr 1
  omega
theorem three_loop {e n : Nat} {xs : List En} {Q : Sg → Prop} {σ : Sg} (ih : nI0 e) (hn : n < 15) (he : n ≤ e) (hx : xs.length + n ≤ 400) (hc : cnR σ) (hh : hdR σ xs) :
    ∀ (k s l : Nat), s + k = n → 1 ≤ s → l < sr (f3 n) k s → sr (f3 n) k s < 100000000000000000 → (∀ τ, Fm [10, 11] [17] σ τ → hdR τ (xs ++ (fl (nt e (sp (f3 n) k s l).1 ((sp (f3 n) k s l).2 / prs (n - (sp (f3 n) k s l).1))) ++ (fl (pt (nt e) (n - (sp (f3 n) k s l).1) ((sp (f3 n) k s l).2 % prs (n - (sp (f3 n) k s l).1))).1 ++ fl (pt (nt e) (n - (sp (f3 n) k s l).1) ((sp (f3 n) k s l).2 % prs (n - (sp (f3 n) k s l).1))).2))) → Q τ) →
    wX8_nth0_153 (wX8_nth0 e) Q k (nI (n + 1)) (lN l) (nI s) σ := by
  intro k
  induction k with
  | zero => intro s l h1 h2 h3; simp [sr] at h3
  | succ k ihk =>
    intro s l h1 h2 h3 h4 hQ
    have hsr := sr_le (f := f3 n) (k := k) (s := s)
    have h3' := h3
    rw [sr] at h3'
    show wX8_nth0_153_b (wX8_nth0 e) (wX8_nth0_153 (wX8_nth0 e) Q k) (nI (n + 1)) (lN l) (nI s) σ Q
    unfold wX8_nth0_153_b
    rw [show nI (n + 1) - 1 = nI n from nI_pred n, pk_sub (show s ≤ n by omega)]
    refine ⟨vp_in_nI (by omega) (by omega), ?_⟩
    have c1 := (cnt_lt s (by omega)).1
    have c2 := (cnt_lt (n - s) (by omega)).2.1
    refine pairs_sp (by omega) (by omega) hc ?_
    rw [ncl (by omega), hc s (by omega), lN_mul, show cnt s * prs (n - s) = f3 n s from rfl]
    rw [sp] at hQ
    by_cases q : l < f3 n s
    · rw [if_pos (by rw [lN_lt' (by omega) (by omega)]; exact q)]
      rw [if_pos q] at hQ
      obtain ⟨p1, p2⟩ := mul_pos_lt (b := cnt s) (c := prs (n - s)) q
      have ne : ¬ lN (prs (n - s)) = 0 := fun z => absurd ((pk_lEQ (b := 0) (by omega) (by omega)).mp z) (by omega)
      refine pairs_sp (by omega) (by omega) hc ⟨ne, ?_⟩
      rw [pk_lDiv (by omega) p2 (by omega)]
      have dl : l / prs (n - s) < cnt s := Nat.div_lt_of_lt_mul (by rw [Nat.mul_comm]; exact q)
      refine ih s (l / prs (n - s)) σ xs _ (by omega) h2 (by omega) dl (by omega) hc hh (fun τ q1 q2 => ?_)
      have hc2 := hc.fm q1
      rw [lN_rem']
      obtain ⟨w1, w2⟩ := nt_ok e s (l / prs (n - s)) (by omega) h2 (by omega) dl
      refine pair_nth ih (by omega) (by omega) (Nat.mod_lt _ p2) (by rw [List.length_append, fl_len _ w1, w2]; omega) hc2 q2 (fun τ2 q3 q4 => ?_)
      exact hQ τ2 (q1.tr q3) (by rw [List.append_assoc] at q4; exact q4)
    · rw [if_neg (by rw [lN_lt' (by omega) (by omega)]; exact q)]
      rw [if_neg q] at hQ
      refine pairs_sp (by omega) (by omega) hc ?_
      rw [lN_mul, show cnt s * prs (n - s) = f3 n s from rfl, lN_sub (show f3 n s ≤ l by omega)]
      refine lt_i (fun a ea => lt_i (fun x ex => ?_))
      have ex : x = nI (s + 1) := by rw [ex]; exact nI_1 s
      rw [ex, ea]
      exact ihk (s + 1) (l - f3 n s) (by omega) (by omega) (by omega) (by rw [sr] at h4; omega) hQ
theorem nth_98 {e n l P : Nat} {Q : Sg → Prop} {σ : Sg} (hP : P = prs n) (hP2 : P < 400000000000000) (hl : l < 100000000000000000)
    (h2 : ∀ j, j < 4 → j * P ≤ l → l < (j + 1) * P → wX8_hand (nI (4 + j)) 0 σ (fun τ => wX8_nthPair (wX8_nth0 e) (nI (n + 1) - 1) (lN (l - j * P)) τ (fun τ => Q τ)))
    (h3 : 4 * P ≤ l → wX8_hand 8 0 σ (fun τ => ∃ nn, wX8_nth0_153 (wX8_nth0 e) Q nn (nI (n + 1)) (lN (l - 4 * P)) 1 τ)) :
    ∀ (m j : Nat), j + m = 4 → j * P ≤ l → wX8_nth0_98 (wX8_nth0 e) Q (m + 1) (nI (n + 1)) (lN (l - j * P)) (lN P) (nI (4 + j)) σ := by
  intro m
  induction m with
  | zero =>
    intro j hj hl2
    have : j = 4 := by omega
    subst this
    show wX8_nth0_98_b (wX8_nth0 e) (wX8_nth0_98 (wX8_nth0 e) Q 0) (nI (n + 1)) _ (lN P) (nI (4 + 4)) σ Q
    unfold wX8_nth0_98_b
    rw [if_pos (by decide)]
    exact h3 hl2
  | succ m ih =>
    intro j hj hl2
    show wX8_nth0_98_b (wX8_nth0 e) (wX8_nth0_98 (wX8_nth0 e) Q (m + 1)) (nI (n + 1)) _ (lN P) (nI (4 + j)) σ Q
    unfold wX8_nth0_98_b
    rw [if_neg (show ¬ (7 : Int32) < nI (4 + j) from nI_nlt (a := 7) (by omega) (by omega))]
    have e1 : (j + 1) * P = j * P + P := Nat.succ_mul j P
    by_cases q : P ≤ l - j * P
    · rw [if_pos (by rw [lN_le' (by omega) (by omega)]; exact q), lN_sub q]
      refine lt_i (fun a ea => lt_i (fun x ex => ?_))
      have ex : x = nI (4 + (j + 1)) := by rw [ex]; exact nI_1 (4 + j)
      rw [ex, ea, show l - j * P - P = l - (j + 1) * P by omega]
      exact ih (j + 1) (by omega) (by omega)
    · rw [if_neg (by rw [lN_le' (by omega) (by omega)]; exact q)]
      exact h2 j (by omega) hl2 (by omega)
theorem nth0_sp : ∀ e, nI0 e := by
  intro e
  induction e with
  | zero => intro n i σ xs Q h1 h2; omega
  | succ e ih =>
    intro n i σ xs Q h1 h2 h3 h4 h5 hc hh hQ
    have cl := cnt_lt n h3
    show wX8_nth0_b (wX8_nth0 e) (nI n) (lN i) σ Q
    unfold wX8_nth0_b
    by_cases n1 : n = 1
    · subst n1
      have c1 : cnt 1 = 5 := by decide +kernel
      rw [if_pos (by decide)]
      have fin : ∀ k v, fl (nt (e + 1) 1 i) = [(k, v, 1)] → wX8_nth0_36 (wX8_nth0 e) (nI k) v σ Q := by
        intro k v hf
        unfold wX8_nth0_36
        exact hand_sp (s := 1) (by omega) hh (fun τ q1 q2 => hQ τ q1 (by rw [hf]; exact q2))
      unfold wX8_nth0_22
      rcases (show i = 0 ∨ i = 1 ∨ i = 2 ∨ i = 3 ∨ i = 4 by omega) with rfl | rfl | rfl | rfl | rfl
      · rw [if_neg (by decide), if_neg (by decide)]
        exact fin 0 _ (by simp [nt, nm, fl_nd, fl_nl, tsz_nl]; rfl)
      · rw [if_neg (by decide), if_neg (by decide)]
        exact fin 0 _ (by simp [nt, nm, fl_nd, fl_nl, tsz_nl]; rfl)
      · rw [if_neg (by decide), if_neg (by decide)]
        exact fin 0 _ (by simp [nt, nm, fl_nd, fl_nl, tsz_nl]; rfl)
      · rw [if_pos (by decide), if_pos (by decide)]
        exact fin 1 0 (by simp [nt, fl_nd, fl_nl, tsz_nl])
      · rw [if_pos (by decide), if_pos (by decide)]
        exact fin 2 0 (by simp [nt, fl_nd, fl_nl, tsz_nl])
    · obtain ⟨m, rfl⟩ : ∃ m, n = m + 1 := ⟨n - 1, by omega⟩
      rw [if_neg (show ¬ nI (m + 1) = (1 : Int32) from ni_k (c := 1) (by omega) (by omega) n1), show nI (m + 1) - 1 = nI m from nI_pred m]
      refine ⟨vp_in_nI (by omega) (by omega), ?_⟩
      rw [ncl (by omega), hc m (by omega)]
      have ce := cnt_eq (m - 1) (by omega)
      rw [show m - 1 + 2 = m + 1 by omega, show m - 1 + 1 = m by omega] at ce
      have cm := cnt_lt m (by omega)
      have nte : nt (e + 1) (m + 1) i = if i < cnt m then nd 3 0 (nt e m i) nl nl
        else if i - cnt m < 4 * prs m then nd (4 + (i - cnt m) / prs m) 0 (pt (nt e) m ((i - cnt m) % prs m)).1 (pt (nt e) m ((i - cnt m) % prs m)).2 nl
        else nd 8 0 (nt e (sp3 m (i - cnt m - 4 * prs m)).1 ((sp3 m (i - cnt m - 4 * prs m)).2 / prs (m - (sp3 m (i - cnt m - 4 * prs m)).1))) (pt (nt e) (m - (sp3 m (i - cnt m - 4 * prs m)).1) ((sp3 m (i - cnt m - 4 * prs m)).2 % prs (m - (sp3 m (i - cnt m - 4 * prs m)).1))).1 (pt (nt e) (m - (sp3 m (i - cnt m - 4 * prs m)).1) ((sp3 m (i - cnt m - 4 * prs m)).2 % prs (m - (sp3 m (i - cnt m - 4 * prs m)).1))).2 := by
        rw [nt]
        dsimp only
        rw [if_neg (show ¬ m + 1 ≤ 1 by omega), Nat.add_sub_cancel]
      by_cases q : i < cnt m
      · rw [if_neg (by rw [lN_le' (by omega) (by omega)]; omega)]
        rw [if_pos q] at nte
        refine hand_sp (k := 3) (s := 1 + tsz (nt e m i) + tsz nl + tsz nl) (by omega) hh (fun τ q1 q2 => ?_)
        refine ih m i τ _ _ (by omega) (by omega) (by omega) q (by rw [List.length_append, List.length_singleton]; omega) (hc.fm q1) q2 (fun τ2 q3 q4 => hQ τ2 (q1.tr q3) ?_)
        rw [nte, fl_nd, fl_nl]
        simpa [List.append_assoc] using q4
      · rw [if_pos (by rw [lN_le' (by omega) (by omega)]; omega), lN_sub (show cnt m ≤ i by omega)]
        rw [if_neg q] at nte
        refine lt_i (fun a ea => ?_)
        rw [ea]
        refine pairs_sp (by omega) (by omega) hc ⟨5, ?_⟩
        generalize hL : i - cnt m = l at *
        have key : ∀ j0, j0 = 0 → wX8_nth0_98 (wX8_nth0 e) Q (4 + 1) (nI (m + 1)) (lN (l - j0 * prs m)) (lN (prs m)) (nI (4 + j0)) σ := fun j0 hj0 => nth_98 (P := prs m) rfl (by omega) (by omega) ?_ ?_ 4 j0 (by omega) (by rw [hj0, Nat.zero_mul]; omega)
        · have k2 := key 0 rfl
          rw [Nat.zero_mul, Nat.sub_zero] at k2
          exact k2
        · intro j hj j1 j2
          have ep : (j + 1) * prs m = j * prs m + prs m := Nat.succ_mul j (prs m)
          have pp : 0 < prs m := by omega
          have l4 : l < 4 * prs m := Nat.lt_of_lt_of_le j2 (Nat.mul_le_mul_right _ (by omega))
          have ed : l / prs m = j := by
            apply Nat.div_eq_of_lt_le
            · exact j1
            · exact j2
          have em : l % prs m = l - j * prs m := by
            have := Nat.div_add_mod l (prs m)
            rw [ed, Nat.mul_comm] at this
            omega
          rw [if_pos l4, ed, em] at nte
          refine hand_sp (s := 1 + tsz (pt (nt e) m (l - j * prs m)).1 + tsz (pt (nt e) m (l - j * prs m)).2 + tsz nl) (by omega) hh (fun τ q1 q2 => ?_)
          rw [show nI (m + 1) - 1 = nI m from nI_pred m]
          refine pair_nth ih (by omega) (by omega) (by omega) (by rw [List.length_append, List.length_singleton]; omega) (hc.fm q1) q2 (fun τ2 q3 q4 => hQ τ2 (q1.tr q3) ?_)
          rw [nte, fl_nd, fl_nl]
          simpa [List.append_assoc] using q4
        · intro l4
          rw [if_neg (by omega)] at nte
          have lt3 : l - 4 * prs m < thr m := by omega
          have ts := thr_sr m (by omega)
          generalize hz : sp3 m (l - 4 * prs m) = z at *
          refine hand_sp (k := 8) (s := 1 + tsz (nt e z.1 (z.2 / prs (m - z.1))) + tsz (pt (nt e) (m - z.1) (z.2 % prs (m - z.1))).1 + tsz (pt (nt e) (m - z.1) (z.2 % prs (m - z.1))).2) (by omega) hh (fun τ q1 q2 => ⟨m - 1, ?_⟩)
          refine three_loop ih (by omega) (by omega) (by rw [List.length_append, List.length_singleton]; omega) (hc.fm q1) q2 (m - 1) 1 (l - 4 * prs m) (by omega) (by omega) (by rw [← ts]; exact lt3) (by rw [← ts]; omega) (fun τ2 q3 q4 => hQ τ2 (q1.tr q3) ?_)
          rw [show sp (f3 m) (m - 1) 1 (l - 4 * prs m) = z from hz] at q4
          rw [nte, fl_nd]
          simpa [List.append_assoc] using q4

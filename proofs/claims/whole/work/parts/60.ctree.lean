/-! the class: rows of trees -/
/-- which objects may differ -/
def Gm (S : Nat → Prop) (σ τ : Sg) : Prop := (∀ i, ¬ S i → τ.1 i = σ.1 i) ∧ (∀ i, ¬ S i → τ.2.1 i = σ.2.1 i) ∧ (∀ i, ¬ S i → τ.2.2 i = σ.2.2 i)
theorem Gm.rf {S : Nat → Prop} {σ : Sg} : Gm S σ σ := ⟨fun _ _ => rfl, fun _ _ => rfl, fun _ _ => rfl⟩
theorem Gm.tr {S : Nat → Prop} {a b c : Sg} (h : Gm S a b) (g : Gm S b c) : Gm S a c := ⟨fun i hi => (g.1 i hi).trans (h.1 i hi), fun i hi => (g.2.1 i hi).trans (h.2.1 i hi), fun i hi => (g.2.2 i hi).trans (h.2.2 i hi)⟩
theorem Gm.wk {S S2 : Nat → Prop} {a b : Sg} (h : Gm S a b) (hS : ∀ i, S i → S2 i) : Gm S2 a b := ⟨fun i hi => h.1 i (fun q => hi (hS i q)), fun i hi => h.2.1 i (fun q => hi (hS i q)), fun i hi => h.2.2 i (fun q => hi (hS i q))⟩
theorem Gm.i {S : Nat → Prop} {a : Sg} (i : Nat) (f : Nat → Int32) (hi : S i) : Gm S a (sI a i f) := ⟨fun j hj => by rw [sI_1, up_n _ _ _ _ (fun e : j = i => hj (by rw [e]; exact hi))], fun _ _ => rfl, fun _ _ => rfl⟩
/-- a tree's rows: kinds, numbers, sizes -/
def Ro (σ : Sg) (t off : Nat) (xs : List En) : Prop := ∀ i e, xs[i]? = some e → σ.1 (t + 1) (off + i) = nI e.1 ∧ σ.1 (t + 2) (off + i) = e.2.1 ∧ σ.1 (t + 3) (off + i) = nI e.2.2
theorem Ro.nil {σ : Sg} {t off : Nat} : Ro σ t off [] := fun i e h => by simp at h
theorem Ro.cons {σ : Sg} {t off : Nat} {e : En} {xs : List En} : Ro σ t off (e :: xs) ↔ (σ.1 (t + 1) off = nI e.1 ∧ σ.1 (t + 2) off = e.2.1 ∧ σ.1 (t + 3) off = nI e.2.2) ∧ Ro σ t (off + 1) xs := by
  constructor
  · intro h
    refine ⟨h 0 e rfl, fun i x hx => ?_⟩
    have := h (i + 1) x hx
    rw [show off + (i + 1) = off + 1 + i by omega] at this
    exact this
  · rintro ⟨h1, h2⟩ i x hx
    cases i with
    | zero =>
      have e2 : e = x := by simpa using hx
      rw [← e2]; exact h1
    | succ i =>
      have := h2 i x (by simpa using hx)
      rw [show off + 1 + i = off + (i + 1) by omega] at this
      exact this
theorem Ro.app {σ : Sg} {t off : Nat} {xs ys : List En} : Ro σ t off (xs ++ ys) ↔ Ro σ t off xs ∧ Ro σ t (off + xs.length) ys := by
  induction xs generalizing off with
  | nil => simp [Ro.nil]
  | cons e xs ih =>
    rw [List.cons_append, Ro.cons, Ro.cons, ih, List.length_cons, show off + 1 + xs.length = off + (xs.length + 1) by omega]
    exact and_assoc.symm
theorem Ro.at {σ : Sg} {t off i : Nat} {xs : List En} (h : Ro σ t off xs) (hi : i < xs.length) : σ.1 (t + 1) (off + i) = nI (xs[i]).1 ∧ σ.1 (t + 2) (off + i) = (xs[i]).2.1 ∧ σ.1 (t + 3) (off + i) = nI (xs[i]).2.2 := h i _ (List.getElem?_eq_getElem hi)
/-- the same rows where the list stands -/
theorem Ro.cg {σ τ : Sg} {t off : Nat} {xs : List En} (h : Ro σ t off xs) (h1 : ∀ i, off ≤ i → i < off + xs.length → τ.1 (t + 1) i = σ.1 (t + 1) i ∧ τ.1 (t + 2) i = σ.1 (t + 2) i ∧ τ.1 (t + 3) i = σ.1 (t + 3) i) : Ro τ t off xs := by
  intro i e he
  obtain ⟨hi, -⟩ := List.getElem?_eq_some_iff.mp he
  obtain ⟨a, b, c⟩ := h1 (off + i) (by omega) (by omega)
  rw [a, b, c]
  exact h i e he
def wr (xs : List En) : Prop := ∀ e, e ∈ xs → e.1 ≤ 8 ∧ e.2.2 ≤ 200
theorem wr_app {xs ys : List En} : wr (xs ++ ys) ↔ wr xs ∧ wr ys := by
  unfold wr
  refine ⟨fun h => ⟨fun e he => h e (List.mem_append_left _ he), fun e he => h e (List.mem_append_right _ he)⟩, fun h e he => ?_⟩
  rcases List.mem_append.mp he with q | q
  · exact h.1 e q
  · exact h.2 e q
theorem wr_cons {x : En} {xs : List En} : wr (x :: xs) ↔ (x.1 ≤ 8 ∧ x.2.2 ≤ 200) ∧ wr xs := by
  unfold wr
  refine ⟨fun h => ⟨h x (by simp), fun e he => h e (by simp [he])⟩, fun h e he => ?_⟩
  rcases List.mem_cons.mp he with q | q
  · rw [q]; exact h.1
  · exact h.2 e q
theorem wr_nil : wr [] := fun e he => by cases he
/-- a tree object at position t -/
def TrR (σ : Sg) (t : Nat) (xs : List En) : Prop := YC.2.1 t = 4 ∧ wr xs ∧ xs.length ≤ 200 ∧ σ.1 t 3 = nI xs.length ∧ Ro σ t 0 xs
theorem TrR.gm {S : Nat → Prop} {σ τ : Sg} {t : Nat} {xs : List En} (h : TrR σ t xs) (f : Gm S σ τ) (h0 : ∀ i, t ≤ i → i < t + 4 → ¬ S i) : TrR τ t xs := by
  obtain ⟨a, b, c, d, e⟩ := h
  refine ⟨a, b, c, by rw [f.1 t (h0 t (by omega) (by omega))]; exact d, ?_⟩
  refine Ro.cg e (fun i _ _ => ?_)
  rw [f.1 _ (h0 (t + 1) (by omega) (by omega)), f.1 _ (h0 (t + 2) (by omega) (by omega)), f.1 _ (h0 (t + 3) (by omega) (by omega))]
  exact ⟨rfl, rfl, rfl⟩
/-- the entry at an index: behind the row's end a number 0 of no size -/
def en (xs : List En) (i : Nat) : En := (xs[i]?).getD (0, 0, 0)
theorem en_lt {xs : List En} {i : Nat} (h : i < xs.length) : en xs i = xs[i] := by
  unfold en
  rw [List.getElem?_eq_getElem h]
  rfl
theorem en_ge {xs : List En} {i : Nat} (h : xs.length ≤ i) : en xs i = (0, 0, 0) := by
  unfold en
  rw [List.getElem?_eq_none h]
  rfl
theorem en_app {xs ys : List En} {i : Nat} (h : i = xs.length) : en (xs ++ ys) i = en ys 0 := by
  unfold en
  rw [List.getElem?_append_right (by omega), h, Nat.sub_self]
theorem en_wr {xs : List En} (h : wr xs) (i : Nat) : (en xs i).1 ≤ 8 ∧ (en xs i).2.2 ≤ 200 := by
  by_cases q : i < xs.length
  · rw [en_lt q]
    exact h _ (List.getElem_mem q)
  · rw [en_ge (by omega)]
    exact ⟨by simp, by simp⟩
section
variable {σ : Sg} {t q i : Nat} {xs ys : List En} {Q : Int32 → Sg → Prop} {R : Sg → Prop}
theorem kindOf_sp (h : TrR σ t xs) (hi : i < 2147483648) (hQ : Q (nI (en xs i).1) σ) : wX5_kindOf t (nI i) σ Q := by
  obtain ⟨a, b, c, d, e⟩ := h
  unfold wX5_kindOf
  rw [if_neg (nI_pos hi), d]
  refine ⟨a, ?_⟩
  by_cases z : xs.length ≤ i
  · rw [if_pos (nI_le z hi)]
    rw [en_ge z] at hQ
    exact hQ
  · rw [if_neg (nI_ge (by omega) (by omega))]
    refine ⟨vp_in_nI (by omega) (by omega), ?_⟩
    rw [ncl hi, ← Nat.zero_add i, (e.at (by omega)).1]
    rw [en_lt (by omega)] at hQ
    exact hQ
theorem numberOf_sp (h : TrR σ t xs) (hi : i < 2147483648) (hQ : Q (en xs i).2.1 σ) : wX5_numberOf t (nI i) σ Q := by
  obtain ⟨a, b, c, d, e⟩ := h
  unfold wX5_numberOf
  rw [if_neg (nI_pos hi), d]
  refine ⟨a, ?_⟩
  by_cases z : xs.length ≤ i
  · rw [if_pos (nI_le z hi)]
    rw [en_ge z] at hQ
    exact hQ
  · rw [if_neg (nI_ge (by omega) (by omega))]
    refine ⟨vp_in_nI (by omega) (by omega), ?_⟩
    rw [ncl hi, ← Nat.zero_add i, (e.at (by omega)).2.1]
    rw [en_lt (by omega)] at hQ
    exact hQ
theorem sizeOf_sp (h : TrR σ t xs) (hi : i < 2147483648) (hQ : Q (nI (en xs i).2.2) σ) : wX5_sizeOf t (nI i) σ Q := by
  obtain ⟨a, b, c, d, e⟩ := h
  unfold wX5_sizeOf
  rw [if_neg (nI_pos hi), d]
  refine ⟨a, ?_⟩
  by_cases z : xs.length ≤ i
  · rw [if_pos (nI_le z hi)]
    rw [en_ge z] at hQ
    exact hQ
  · rw [if_neg (nI_ge (by omega) (by omega))]
    refine ⟨vp_in_nI (by omega) (by omega), ?_⟩
    rw [ncl hi, ← Nat.zero_add i, (e.at (by omega)).2.2]
    rw [en_lt (by omega)] at hQ
    exact hQ
theorem behind_sp (h : TrR σ t xs) (hi : i < xs.length) (hQ : Q (nI (i + (en xs i).2.2)) σ) : wX5_behind t (nI i) σ Q := by
  obtain ⟨a, b, c, d, e⟩ := h
  unfold wX5_behind
  rw [if_neg (nI_pos (by omega)), d]
  refine ⟨a, ?_⟩
  rw [if_neg (nI_ge (by omega) (by omega))]
  refine ⟨vp_in_nI (by omega) (by omega), ?_⟩
  have e3 := (e.at hi).2.2
  rw [Nat.zero_add] at e3
  rw [ncl (by omega), e3, nI_add]
  rw [en_lt (by omega)] at hQ
  exact hQ
theorem behind_out (h : TrR σ t xs) (hi : xs.length ≤ i) (h2 : i < 2147483648) (hQ : Q (nI xs.length) σ) : wX5_behind t (nI i) σ Q := by
  obtain ⟨a, b, c, d, e⟩ := h
  unfold wX5_behind
  rw [if_neg (nI_pos (by omega)), d]
  refine ⟨a, ?_⟩
  rw [if_pos (nI_le hi h2)]
  exact hQ
theorem hasT_sp (h : TrR σ t xs) (hi : i < 2147483648) (hQ : Q (if i < xs.length then 1 else 0) σ) : wX5_has t (nI i) σ Q := by
  obtain ⟨a, b, c, d, e⟩ := h
  unfold wX5_has
  rw [if_neg (nI_pos hi), d]
  refine ⟨a, ?_⟩
  by_cases z : xs.length ≤ i
  · rw [if_pos (nI_le z hi)]
    rw [if_neg (by omega)] at hQ
    exact hQ
  · rw [if_neg (nI_ge (by omega) (by omega))]
    rw [if_pos (by omega)] at hQ
    exact hQ
theorem isNumberT_sp {v : Int32} (h : TrR σ t xs) (hi : i < 2147483648) (hQ : Q (if i < xs.length ∧ (en xs i).1 = 0 ∧ (en xs i).2.1 = v then 1 else 0) σ) : wX5_isNumber t (nI i) v σ Q := by
  obtain ⟨a, b, c, d, e⟩ := h
  unfold wX5_isNumber
  rw [if_neg (nI_pos hi), d]
  refine ⟨a, ?_⟩
  by_cases z : xs.length ≤ i
  · rw [if_pos (nI_le z hi)]
    rw [if_neg (fun w => by omega)] at hQ
    exact hQ
  · rw [if_neg (nI_ge (by omega) (by omega))]
    refine ⟨vp_in_nI (by omega) (by omega), ?_⟩
    have hl : i < xs.length := by omega
    obtain ⟨e1, e2, -⟩ := e.at hl
    rw [Nat.zero_add] at e1 e2
    have k8 := (b _ (List.getElem_mem hl)).1
    rw [ncl hi, e1, e2]
    rw [en_lt hl] at hQ
    by_cases z1 : (xs[i]).1 = 0
    · rw [z1, if_pos (by decide)]
      by_cases z2 : (xs[i]).2.1 = v
      · rw [if_pos z2]
        rw [if_pos ⟨hl, z1, z2⟩] at hQ
        exact hQ
      · rw [if_neg z2]
        rw [if_neg (fun w => z2 w.2.2)] at hQ
        exact hQ
    · rw [if_neg (show ¬ nI (xs[i]).1 = (0 : Int32) from ni_k (c := 0) (by omega) (by omega) (by omega))]
      rw [if_neg (fun w => z1 w.2.1)] at hQ
      exact hQ
/-- rows i .. i + n - 1 and j .. j + n - 1 have the same kinds and numbers -/
theorem isSame_lp {j n : Nat} (h : TrR σ t xs) (hi : i + n ≤ xs.length) (hj : j + n ≤ xs.length) (h1 : (∀ m, m < n → (en xs (i + m)).1 = (en xs (j + m)).1 ∧ (en xs (i + m)).2.1 = (en xs (j + m)).2.1) → Q 1 σ) (h0 : ¬ (∀ m, m < n → (en xs (i + m)).1 = (en xs (j + m)).1 ∧ (en xs (i + m)).2.1 = (en xs (j + m)).2.1) → Q 0 σ) :
    ∀ (k m : Nat), m + k = n → (∀ m', m' < m → (en xs (i + m')).1 = (en xs (j + m')).1 ∧ (en xs (i + m')).2.1 = (en xs (j + m')).2.1) → wX5_isSame_20 Q (k + 1) t (nI i) (nI j) (nI n) (nI m) σ := by
  have hl := h.2.2.1
  intro k
  induction k with
  | zero =>
    intro m hm hall
    show wX5_isSame_20_b (wX5_isSame_20 Q 0) t (nI i) (nI j) (nI n) (nI m) σ Q
    unfold wX5_isSame_20_b
    rw [if_pos (nI_le (by omega) (by omega))]
    exact h1 (fun m' hm' => hall m' (by omega))
  | succ k ih =>
    intro m hm hall
    show wX5_isSame_20_b (wX5_isSame_20 Q (k + 1)) t (nI i) (nI j) (nI n) (nI m) σ Q
    unfold wX5_isSame_20_b
    rw [if_neg (nI_ge (by omega) (by omega)), nI_add, nI_add]
    refine ⟨h.1, kindOf_sp h (by omega) (kindOf_sp h (by omega) ?_)⟩
    have k1 := (en_wr h.2.1 (i + m)).1
    have k2 := (en_wr h.2.1 (j + m)).1
    by_cases z1 : (en xs (i + m)).1 = (en xs (j + m)).1
    · rw [if_pos (by rw [z1])]
      refine numberOf_sp h (by omega) (numberOf_sp h (by omega) ?_)
      by_cases z2 : (en xs (i + m)).2.1 = (en xs (j + m)).2.1
      · rw [if_pos z2]
        refine lt_i (fun x ex => ?_)
        rw [ex, nI_1]
        refine ih (m + 1) (by omega) (fun m' hm' => ?_)
        by_cases e : m' = m
        · subst e; exact ⟨z1, z2⟩
        · exact hall m' (by omega)
      · rw [if_neg z2]
        exact h0 (fun w => z2 (w m (by omega)).2)
    · rw [if_neg (fun w => z1 ((nI_eq (by omega) (by omega)).mp w))]
      exact h0 (fun w => z1 (w m (by omega)).1)
theorem clear_sp (h : YC.2.1 t = 4) (hR : ∀ τ, Gm (fun i => t ≤ i ∧ i < t + 4) σ τ → TrR τ t [] → R τ) : wX5_clear t σ R := by
  unfold wX5_clear
  refine ⟨h, lt_i (fun τ eτ => hR τ ?_ ?_)⟩
  · rw [eτ]; exact Gm.i t _ ⟨by omega, by omega⟩
  · exact ⟨h, wr_nil, by simp, by rw [eτ, sI_1, up_s, ud_s]; rfl, Ro.nil⟩
theorem append_sp {k : Nat} {v : Int32} (h : TrR σ t xs) (hl : xs.length < 200) (hk : k ≤ 8) (hR : ∀ τ, Gm (fun i => t ≤ i ∧ i < t + 4) σ τ → TrR τ t (xs ++ [(k, v, 1)]) → R τ) : wX5_append t (nI k) v σ R := by
  obtain ⟨a, b, c, d, e⟩ := h
  unfold wX5_append
  rw [d, if_neg (nI_pos (by omega)), if_neg (show ¬ (200 : Int32) ≤ nI xs.length from nI_ge (b := 200) hl (by omega)), ncl (by omega)]
  refine ⟨a, vp_in_nI hl (by omega), lt_i (fun p ep => ?_)⟩
  have p3 : p.1 t 3 = nI xs.length := by rw [ep, sI_1, up_n _ _ _ _ (by omega)]; exact d
  rw [p3, ncl (by omega)]
  refine ⟨vp_in_nI hl (by omega), lt_i (fun u eu => ?_)⟩
  have u3 : u.1 t 3 = nI xs.length := by rw [eu, sI_1, up_n _ _ _ _ (by omega)]; exact p3
  rw [u3, ncl (by omega)]
  refine ⟨vp_in_nI hl (by omega), lt_i (fun w ew => ?_)⟩
  have w3 : w.1 t 3 = nI xs.length := by rw [ew, sI_1, up_n _ _ _ _ (by omega)]; exact u3
  rw [w3, nI_1]
  refine lt_i (fun z ez => ?_)
  have z1 : z.1 (t + 1) = upd (σ.1 (t + 1)) xs.length (nI k) := by rw [ez, sI_1, up_n _ _ _ _ (by omega), ew, sI_1, up_n _ _ _ _ (by omega), eu, sI_1, up_n _ _ _ _ (by omega), ep, sI_1, up_s]
  have z2 : z.1 (t + 2) = upd (σ.1 (t + 2)) xs.length v := by rw [ez, sI_1, up_n _ _ _ _ (by omega), ew, sI_1, up_n _ _ _ _ (by omega), eu, sI_1, up_s, ep, sI_1, up_n _ _ _ _ (by omega)]
  have z3 : z.1 (t + 3) = upd (σ.1 (t + 3)) xs.length 1 := by rw [ez, sI_1, up_n _ _ _ _ (by omega), ew, sI_1, up_s, eu, sI_1, up_n _ _ _ _ (by omega), ep, sI_1, up_n _ _ _ _ (by omega)]
  refine hR z ?_ ⟨a, wr_app.mpr ⟨b, wr_cons.mpr ⟨⟨hk, by simp⟩, wr_nil⟩⟩, by simp; omega, ?_, Ro.app.mpr ⟨?_, Ro.cons.mpr ⟨?_, Ro.nil⟩⟩⟩
  · refine (((Gm.rf.tr (c := p) ?_).tr (c := u) ?_).tr (c := w) ?_).tr ?_
    · rw [ep]; exact Gm.i _ _ ⟨by omega, by omega⟩
    · rw [eu]; exact Gm.i _ _ ⟨by omega, by omega⟩
    · rw [ew]; exact Gm.i _ _ ⟨by omega, by omega⟩
    · rw [ez]; exact Gm.i _ _ ⟨by omega, by omega⟩
  · rw [ez, sI_1, up_s, ud_s, List.length_append]; rfl
  · refine e.cg (fun i _ hi => ?_)
    rw [z1, z2, z3, ud_n _ _ _ _ (by omega), ud_n _ _ _ _ (by omega), ud_n _ _ _ _ (by omega)]
    exact ⟨rfl, rfl, rfl⟩
  · rw [z1, z2, z3, Nat.zero_add, ud_s, ud_s, ud_s]
    exact ⟨rfl, rfl, rfl⟩
/-- what three copies leave -/
theorem cp_in {τ : Sg} {sp dp n : Nat} (h1 : τ.1 (t + 1) = va_cpy (σ.1 (q + 1)) (σ.1 (t + 1)) sp dp n) (h2 : τ.1 (t + 2) = va_cpy (σ.1 (q + 2)) (σ.1 (t + 2)) sp dp n) (h3 : τ.1 (t + 3) = va_cpy (σ.1 (q + 3)) (σ.1 (t + 3)) sp dp n) (hB : Ro σ q sp ys) (hn : ys.length ≤ n) : Ro τ t dp ys := by
  intro i e he
  obtain ⟨hi, -⟩ := List.getElem?_eq_some_iff.mp he
  rw [h1, h2, h3, pk_cpy_in (by omega) (by omega), pk_cpy_in (by omega) (by omega), pk_cpy_in (by omega) (by omega), Nat.add_sub_cancel_left]
  exact hB i e he
theorem cp_lo {τ : Sg} {sp dp n off : Nat} (h1 : τ.1 (t + 1) = va_cpy (σ.1 (q + 1)) (σ.1 (t + 1)) sp dp n) (h2 : τ.1 (t + 2) = va_cpy (σ.1 (q + 2)) (σ.1 (t + 2)) sp dp n) (h3 : τ.1 (t + 3) = va_cpy (σ.1 (q + 3)) (σ.1 (t + 3)) sp dp n) (hB : Ro σ t off ys) (hn : off + ys.length ≤ dp) : Ro τ t off ys := by
  refine hB.cg (fun i a b => ?_)
  rw [h1, h2, h3, pk_cpy_out (by omega), pk_cpy_out (by omega), pk_cpy_out (by omega)]
  exact ⟨rfl, rfl, rfl⟩
theorem appendRun_sp {A B C : List En} (h : TrR σ t xs) (g : TrR σ q (A ++ (B ++ C))) (hl : xs.length + B.length ≤ 200) (hq : q = t ∨ q + 4 ≤ t ∨ t + 4 ≤ q) (hR : ∀ τ, Gm (fun i => t ≤ i ∧ i < t + 4) σ τ → TrR τ t (xs ++ B) → R τ) : wX5_appendRun t q (nI A.length) (nI B.length) σ R := by
  obtain ⟨a, b, c, d, e⟩ := h
  obtain ⟨a2, b2, c2, d2, e2⟩ := g
  rw [List.length_append, List.length_append] at c2
  rw [List.length_append, List.length_append] at d2
  rw [Ro.app, Ro.app, Nat.zero_add] at e2
  unfold wX5_appendRun
  rw [if_neg (nI_pos (by omega)), if_neg (nI_pos (by omega)), d2, d, pk_sub (by omega), if_neg (nI_nlt (by omega) (by omega)), show (200 : Int32) - nI B.length = nI (200 - B.length) from pk_sub (a := 200) (by omega), if_pos (nI_le (by omega) (by omega)), ncl (by omega), ncl (by omega), ncl (by omega)]
  have cond : (¬ nI A.length < 0) ∧ (¬ nI xs.length < 0) ∧ (¬ nI B.length < 0) ∧ A.length + B.length ≤ 200 ∧ xs.length + B.length ≤ 200 := ⟨nI_pos (by omega), nI_pos (by omega), nI_pos (by omega), by omega, hl⟩
  refine ⟨a2, a, cond, lt_i (fun p ep => ?_)⟩
  have p3 : p.1 t 3 = nI xs.length := by rw [ep, sI_1, up_n _ _ _ _ (by omega)]; exact d
  have pq : p.1 (q + 2) = σ.1 (q + 2) := by rw [ep, sI_1, up_n _ _ _ _ (by omega)]
  rw [p3, pq, ncl (by omega)]
  refine ⟨cond, lt_i (fun u eu => ?_)⟩
  have u3 : u.1 t 3 = nI xs.length := by rw [eu, sI_1, up_n _ _ _ _ (by omega)]; exact p3
  have uq : u.1 (q + 3) = σ.1 (q + 3) := by rw [eu, sI_1, up_n _ _ _ _ (by omega), ep, sI_1, up_n _ _ _ _ (by omega)]
  rw [u3, uq, ncl (by omega)]
  refine ⟨cond, lt_i (fun w ew => ?_)⟩
  have w3 : w.1 t 3 = nI xs.length := by rw [ew, sI_1, up_n _ _ _ _ (by omega)]; exact u3
  rw [w3, nI_add]
  refine lt_i (fun z ez => ?_)
  have z1 : z.1 (t + 1) = va_cpy (σ.1 (q + 1)) (σ.1 (t + 1)) A.length xs.length B.length := by rw [ez, sI_1, up_n _ _ _ _ (by omega), ew, sI_1, up_n _ _ _ _ (by omega), eu, sI_1, up_n _ _ _ _ (by omega), ep, sI_1, up_s]
  have z2 : z.1 (t + 2) = va_cpy (σ.1 (q + 2)) (σ.1 (t + 2)) A.length xs.length B.length := by rw [ez, sI_1, up_n _ _ _ _ (by omega), ew, sI_1, up_n _ _ _ _ (by omega), eu, sI_1, up_s, ep, sI_1, up_n _ _ _ _ (by omega)]
  have z3 : z.1 (t + 3) = va_cpy (σ.1 (q + 3)) (σ.1 (t + 3)) A.length xs.length B.length := by rw [ez, sI_1, up_n _ _ _ _ (by omega), ew, sI_1, up_s, eu, sI_1, up_n _ _ _ _ (by omega), ep, sI_1, up_n _ _ _ _ (by omega)]
  refine hR z ?_ ⟨a, wr_app.mpr ⟨b, (wr_app.mp (wr_app.mp b2).2).1⟩, by rw [List.length_append]; omega, ?_, Ro.app.mpr ⟨?_, ?_⟩⟩
  · refine (((Gm.rf.tr (c := p) ?_).tr (c := u) ?_).tr (c := w) ?_).tr ?_
    · rw [ep]; exact Gm.i _ _ ⟨by omega, by omega⟩
    · rw [eu]; exact Gm.i _ _ ⟨by omega, by omega⟩
    · rw [ew]; exact Gm.i _ _ ⟨by omega, by omega⟩
    · rw [ez]; exact Gm.i _ _ ⟨by omega, by omega⟩
  · rw [ez, sI_1, up_s, ud_s, List.length_append]
  · exact cp_lo z1 z2 z3 e (by omega)
  · rw [Nat.zero_add]
    exact cp_in z1 z2 z3 e2.2.1 (Nat.le_refl _)
theorem become_sp (h : YC.2.1 t = 4) (g : TrR σ q ys) (hq : q + 4 ≤ t ∨ t + 4 ≤ q) (hR : ∀ τ, Gm (fun i => t ≤ i ∧ i < t + 4) σ τ → TrR τ t ys → R τ) : wX5_become t q σ R := by
  unfold wX5_become
  refine ⟨h, lt_i (fun p ep => ⟨g.1, ?_⟩)⟩
  have f : Gm (fun i => t ≤ i ∧ i < t + 4) σ p := by rw [ep]; exact Gm.i t _ ⟨by omega, by omega⟩
  have g2 : TrR p q ys := g.gm f (fun i a b => by omega)
  rw [g2.2.2.2.1]
  have hl := g.2.2.1
  exact appendRun_sp (A := []) (B := ys) (C := []) (xs := []) ⟨h, wr_nil, by simp, by rw [ep, sI_1, up_s, ud_s]; rfl, Ro.nil⟩ (by simpa using g2) (by simpa using hl) (Or.inr hq) (fun τ f2 h2 => hR τ (f.tr f2) h2)
/-- a node gets what has been appended since -/
theorem close_sp {A B : List En} {k s : Nat} {v : Int32} (h : TrR σ t (A ++ ((k, v, s) :: B))) (hR : ∀ τ, Gm (fun i => t ≤ i ∧ i < t + 4) σ τ → TrR τ t (A ++ ((k, v, 1 + B.length) :: B)) → R τ) : wX5_close t (nI A.length) σ R := by
  have h' := h
  obtain ⟨a, b, c, d, e⟩ := h'
  rw [List.length_append, List.length_cons] at c
  unfold wX5_close
  refine ⟨a, hasT_sp h (by omega) ?_⟩
  rw [if_pos (show A.length < (A ++ ((k, v, s) :: B)).length by rw [List.length_append, List.length_cons]; omega), if_neg (by decide), ncl (by omega), d]
  refine ⟨vp_in_nI (by omega) (by omega), lt_i (fun z ez => ?_)⟩
  rw [List.length_append, List.length_cons, pk_sub (by omega), show A.length + (B.length + 1) - A.length = 1 + B.length by omega] at ez
  have z3 : z.1 (t + 3) = upd (σ.1 (t + 3)) A.length (nI (1 + B.length)) := by rw [ez, sI_1, up_s]
  have zo : ∀ j, j ≠ t + 3 → z.1 j = σ.1 j := fun j hj => by rw [ez, sI_1, up_n _ _ _ _ hj]
  rw [wr_app, wr_cons] at b
  rw [Ro.app, Ro.cons, Nat.zero_add] at e
  refine hR z (by rw [ez]; exact Gm.i _ _ ⟨by omega, by omega⟩) ⟨a, wr_app.mpr ⟨b.1, wr_cons.mpr ⟨⟨b.2.1.1, by dsimp only; omega⟩, b.2.2⟩⟩, by rw [List.length_append, List.length_cons]; omega, ?_, Ro.app.mpr ⟨?_, Ro.cons.mpr ⟨?_, ?_⟩⟩⟩
  · rw [zo t (by omega), d, List.length_append, List.length_append, List.length_cons, List.length_cons]
  · refine e.1.cg (fun i _ hi => ?_)
    rw [zo _ (by omega), zo _ (by omega), z3, ud_n _ _ _ _ (by omega)]
    exact ⟨rfl, rfl, rfl⟩
  · rw [Nat.zero_add, zo _ (by omega), zo _ (by omega), z3, ud_s]
    exact ⟨e.2.1.1, e.2.1.2.1, rfl⟩
  · rw [Nat.zero_add]
    refine e.2.2.cg (fun i hi _ => ?_)
    rw [zo _ (by omega), zo _ (by omega), z3, ud_n _ _ _ _ (by omega)]
    exact ⟨rfl, rfl, rfl⟩
theorem rename_sp {A B : List En} {k s k2 : Nat} {v : Int32} (hk : k2 ≤ 8) (h : TrR σ t (A ++ ((k, v, s) :: B))) (hR : ∀ τ, Gm (fun i => t ≤ i ∧ i < t + 4) σ τ → TrR τ t (A ++ ((k2, 0, 1 + B.length) :: B)) → R τ) : wX5_rename t (nI A.length) (nI k2) σ R := by
  have h' := h
  obtain ⟨a, b, c, d, e⟩ := h'
  rw [List.length_append, List.length_cons] at c
  unfold wX5_rename
  refine ⟨a, hasT_sp h (by omega) ?_⟩
  rw [if_pos (show A.length < (A ++ ((k, v, s) :: B)).length by rw [List.length_append, List.length_cons]; omega), if_neg (by decide), ncl (by omega)]
  refine ⟨vp_in_nI (by omega) (by omega), lt_i (fun p ep => lt_i (fun u eu => ?_))⟩
  have u3 : u.1 t 3 = nI (A ++ ((k, v, s) :: B)).length := by rw [eu, sI_1, up_n _ _ _ _ (by omega), ep, sI_1, up_n _ _ _ _ (by omega)]; exact d
  rw [u3, List.length_append, List.length_cons, pk_sub (by omega), show A.length + (B.length + 1) - A.length = 1 + B.length by omega]
  refine lt_i (fun z ez => ?_)
  have z1 : z.1 (t + 1) = upd (σ.1 (t + 1)) A.length (nI k2) := by rw [ez, sI_1, up_n _ _ _ _ (by omega), eu, sI_1, up_n _ _ _ _ (by omega), ep, sI_1, up_s]
  have z2 : z.1 (t + 2) = upd (σ.1 (t + 2)) A.length 0 := by rw [ez, sI_1, up_n _ _ _ _ (by omega), eu, sI_1, up_s, ep, sI_1, up_n _ _ _ _ (by omega)]
  have z3 : z.1 (t + 3) = upd (σ.1 (t + 3)) A.length (nI (1 + B.length)) := by rw [ez, sI_1, up_s, eu, sI_1, up_n _ _ _ _ (by omega), ep, sI_1, up_n _ _ _ _ (by omega)]
  rw [wr_app, wr_cons] at b
  rw [Ro.app, Ro.cons, Nat.zero_add] at e
  refine hR z ?_ ⟨a, wr_app.mpr ⟨b.1, wr_cons.mpr ⟨⟨hk, by dsimp only; omega⟩, b.2.2⟩⟩, by rw [List.length_append, List.length_cons]; omega, ?_, Ro.app.mpr ⟨?_, Ro.cons.mpr ⟨?_, ?_⟩⟩⟩
  · refine ((Gm.rf.tr (c := p) ?_).tr (c := u) ?_).tr ?_
    · rw [ep]; exact Gm.i _ _ ⟨by omega, by omega⟩
    · rw [eu]; exact Gm.i _ _ ⟨by omega, by omega⟩
    · rw [ez]; exact Gm.i _ _ ⟨by omega, by omega⟩
  · rw [ez, sI_1, up_n _ _ _ _ (by omega), u3, List.length_append, List.length_append, List.length_cons, List.length_cons]
  · refine e.1.cg (fun i _ hi => ?_)
    rw [z1, z2, z3, ud_n _ _ _ _ (by omega), ud_n _ _ _ _ (by omega), ud_n _ _ _ _ (by omega)]
    exact ⟨rfl, rfl, rfl⟩
  · rw [Nat.zero_add, z1, z2, z3, ud_s, ud_s, ud_s]
    exact ⟨rfl, rfl, rfl⟩
  · rw [Nat.zero_add]
    refine e.2.2.cg (fun i hi _ => ?_)
    rw [z1, z2, z3, ud_n _ _ _ _ (by omega), ud_n _ _ _ _ (by omega), ud_n _ _ _ _ (by omega)]
    exact ⟨rfl, rfl, rfl⟩
end

/-! the class: the orders of a tree done -/
section
variable {a b : Int32} {x y z : Tr} {k : Nat}
theorem ev_0 {v : Int32} (hk : k < 3) : ev a b (nd k v nl nl nl) = (some (if k = 0 then v else if k = 1 then a else b), 1) := by
  rw [ev_nd]
  by_cases z0 : k = 0
  · rw [if_pos z0, if_pos z0]
  rw [if_neg z0, if_neg z0]
  by_cases z1 : k = 1
  · rw [if_pos z1, if_pos z1]
  rw [if_neg z1, if_neg z1, if_pos (by omega)]
theorem ev_xn (hk : 3 ≤ k) (h : (ev a b x).1 = none) : ev a b (nd k 0 x y z) = (none, (ev a b x).2) := by
  rw [ev_nd, if_neg (by omega), if_neg (by omega), if_neg (by omega), h]
theorem ev_3 {p : Int32} (h : (ev a b x).1 = some p) : ev a b (nd 3 0 x y z) = (some (-p), (ev a b x).2 + 1) := by
  rw [ev_nd, if_neg (by omega), if_neg (by omega), if_neg (by omega), h]
  dsimp only
  rw [if_pos rfl]
theorem ev_8z {p : Int32} (h : (ev a b x).1 = some p) (hp : p = 0) : ev a b (nd 8 0 x y z) = ((ev a b z).1, (ev a b x).2 + 1 + (ev a b z).2) := by
  rw [ev_nd, if_neg (by omega), if_neg (by omega), if_neg (by omega), h]
  dsimp only
  rw [if_neg (by omega), if_pos rfl, if_pos hp]
theorem ev_8y {p : Int32} (h : (ev a b x).1 = some p) (hp : p ≠ 0) : ev a b (nd 8 0 x y z) = ((ev a b y).1, (ev a b x).2 + 1 + (ev a b y).2 + (if (ev a b y).1.isSome then 1 else 0)) := by
  rw [ev_nd, if_neg (by omega), if_neg (by omega), if_neg (by omega), h]
  dsimp only
  rw [if_neg (by omega), if_pos rfl, if_neg hp]
theorem ev_2n {p : Int32} (h1 : 4 ≤ k) (h2 : k < 8) (h : (ev a b x).1 = some p) (hy : (ev a b y).1 = none) : ev a b (nd k 0 x y z) = (none, (ev a b x).2 + (ev a b y).2) := by
  rw [ev_nd, if_neg (by omega), if_neg (by omega), if_neg (by omega), h]
  dsimp only
  rw [if_neg (by omega), if_neg (by omega), hy]
theorem ev_2z {p q : Int32} (h1 : 4 ≤ k) (h2 : k < 8) (h : (ev a b x).1 = some p) (hy : (ev a b y).1 = some q) (h7 : k = 7 ∧ q = 0) : ev a b (nd k 0 x y z) = (none, (ev a b x).2 + (ev a b y).2 + 1) := by
  rw [ev_nd, if_neg (by omega), if_neg (by omega), if_neg (by omega), h]
  dsimp only
  rw [if_neg (by omega), if_neg (by omega), hy]
  dsimp only
  rw [if_pos h7]
theorem ev_2s {p q : Int32} (h1 : 4 ≤ k) (h2 : k < 8) (h : (ev a b x).1 = some p) (hy : (ev a b y).1 = some q) (h7 : ¬ (k = 7 ∧ q = 0)) : ev a b (nd k 0 x y z) = (some (bo k p q), (ev a b x).2 + (ev a b y).2 + 1) := by
  rw [ev_nd, if_neg (by omega), if_neg (by omega), if_neg (by omega), h]
  dsimp only
  rw [if_neg (by omega), if_neg (by omega), hy]
  dsimp only
  rw [if_neg h7]
theorem ev_cl (a b : Int32) : ∀ t, wf t → (ev a b t).2 ≤ cl t := by
  apply wf_ind
  · intro k v hk hv
    rw [ev_0 hk, (cd_0 v hk 0).2]
    exact Nat.le_refl _
  · intro x hx ix
    rw [(cd_1 x 0).2]
    cases h : (ev a b x).1 with
    | none => rw [ev_xn (by omega) h]; dsimp only; omega
    | some p => rw [ev_3 h]; dsimp only; omega
  · intro k x y k1 k2 hx hy ix iy
    rw [(cd_2 x y k1 k2 0).2]
    cases h : (ev a b x).1 with
    | none => rw [ev_xn (by omega) h]; dsimp only; omega
    | some p =>
      cases g : (ev a b y).1 with
      | none => rw [ev_2n k1 k2 h g]; dsimp only; omega
      | some q =>
        by_cases w : k = 7 ∧ q = 0
        · rw [ev_2z k1 k2 h g w]; dsimp only; omega
        · rw [ev_2s k1 k2 h g w]; dsimp only; omega
  · intro x y z hx hy hz ix iy iz
    rw [(cd_3 x y z 0).2]
    cases h : (ev a b x).1 with
    | none => rw [ev_xn (by omega) h]; dsimp only; omega
    | some p =>
      by_cases w : p = 0
      · rw [ev_8z h w]; dsimp only; omega
      · rw [ev_8y h w]; dsimp only
        split <;> omega
end
section
variable {Q : Int32 → Sg → Prop} {t : Nat} {a b : Int32} {Xs : List Od}
theorem at_co {P Z S : List Od} {p j : Nat} {e : Od} (hX : Xs = P ++ (Z ++ S)) (hp : P.length = p) (h : Z[j]? = some e) : Xs[p + j]? = some e := by
  rw [hX, List.getElem?_append_right (by omega), hp, Nat.add_sub_cancel_left, List.getElem?_append_left (List.getElem?_eq_some_iff.mp h).1]
  exact h
theorem at_hd {P S : List Od} {p : Nat} {e : Od} (hX : Xs = P ++ (e :: S)) (hp : P.length = p) : Xs[p]? = some e := by
  rw [hX, List.getElem?_append_right (by omega), hp, Nat.sub_self]
  rfl
def rnI (Q : Int32 → Sg → Prop) (t : Nat) (a b : Int32) (Xs : List Od) (u : Tr) : Prop := ∀ (P S : List Od) (st : List Int32) (c p n : Nat) (σ : Sg), Xs = P ++ (co u p ++ S) → P.length = p → c ≤ p → st.length + tsz u ≤ 200 → CoR σ t Xs → Sk σ t st →
  (∀ v, (ev a b u).1 = some v → ∀ τ, Rf t σ τ → Sk τ t (st ++ [v]) → τ.1 t 11 = nI (c + (ev a b u).2) → wX0_run_8 Q n t a b (nI (st.length + 1)) (nI (p + cl u)) (nI (c + (ev a b u).2 + 1)) τ) →
  ((ev a b u).1 = none → ∀ τ, Rf t σ τ → τ.1 t 11 = nI (c + (ev a b u).2) → Q 0 τ) → wX0_run_8 Q (n + (ev a b u).2) t a b (nI st.length) (nI p) (nI (c + 1)) σ
theorem rn_sub : ∀ u, wf u → rnI Q t a b Xs u := by
  apply wf_ind
  · intro k v hk hv P S st c p n σ hX hP hc hs h hS hy hn
    rw [(cd_0 v hk p).1] at hX
    rw [ev_0 hk] at hy ⊢
    rw [(cd_0 v hk p).2] at hy
    rw [tsz_nd, tsz_nl] at hs
    refine rn_leaf (at_hd hX hP) (by omega) rfl hc (by omega) h hS (fun τ f s1 e11 => ?_)
    exact hy _ rfl τ f s1 e11
  · intro x hx ix P S st c p n σ hX hP hc hs h hS hy hn
    obtain ⟨l1, l2, l3⟩ := co_len x hx p
    rw [(cd_1 x p).1] at hX
    rw [(cd_1 x p).2] at hy
    rw [tsz_nd, tsz_nl] at hs
    have px := wf_pos hx
    have hX1 : Xs = P ++ (co x p ++ ((3, 0) :: S)) := by rw [hX]; simp
    have hX2 : Xs = (P ++ co x p) ++ ((3, 0) :: S) := by rw [hX]; simp
    have ec := ev_cl a b x hx
    cases hv : (ev a b x).1 with
    | none =>
      rw [ev_xn (by omega) hv] at hn ⊢
      exact ix P ((3, 0) :: S) st c p n σ hX1 hP hc (by omega) h hS (fun v e => by rw [hv] at e; cases e) (fun _ => hn rfl)
    | some v =>
      rw [ev_3 hv] at hy ⊢
      dsimp only at hy ⊢
      rw [show n + ((ev a b x).2 + 1) = n + 1 + (ev a b x).2 by omega]
      refine ix P ((3, 0) :: S) st c p (n + 1) σ hX1 hP hc (by omega) h hS (fun w e τ f s1 e11 => ?_) (fun e => by rw [hv] at e; cases e)
      rw [hv] at e
      have e := Option.some.inj e
      subst e
      refine rn_neg (at_hd hX2 (by rw [List.length_append, hP, l1])) (by omega) (by omega) (Rf.co h f) s1 (fun τ2 f2 s2 e12 => ?_)
      exact hy _ rfl τ2 (f.tr f2) s2 (by rw [e12]; rfl)
  · intro k x y k1 k2 hx hy0 ix iy P S st c p n σ hX hP hc hs h hS hy hn
    obtain ⟨l1, l2, l3⟩ := co_len x hx p
    obtain ⟨m1, m2, m3⟩ := co_len y hy0 (p + cl x)
    rw [(cd_2 x y k1 k2 p).1] at hX
    rw [(cd_2 x y k1 k2 p).2] at hy
    rw [tsz_nd, tsz_nl] at hs
    have px := wf_pos hx
    have py := wf_pos hy0
    have hX1 : Xs = P ++ (co x p ++ (co y (p + cl x) ++ ((k, 0) :: S))) := by rw [hX]; simp
    have hX2 : Xs = (P ++ co x p) ++ (co y (p + cl x) ++ ((k, 0) :: S)) := by rw [hX]; simp
    have hX3 : Xs = (P ++ (co x p ++ co y (p + cl x))) ++ ((k, 0) :: S) := by rw [hX]; simp
    have e2 : (P ++ co x p).length = p + cl x := by rw [List.length_append, hP, l1]
    have e3 : (P ++ (co x p ++ co y (p + cl x))).length = p + cl x + cl y := by rw [List.length_append, List.length_append, hP, l1, m1]; omega
    have ec := ev_cl a b x hx
    have ed := ev_cl a b y hy0
    cases hv : (ev a b x).1 with
    | none =>
      rw [ev_xn (by omega) hv] at hn ⊢
      exact ix P _ st c p n σ hX1 hP hc (by omega) h hS (fun v e => by rw [hv] at e; cases e) (fun _ => hn rfl)
    | some v =>
      cases hw : (ev a b y).1 with
      | none =>
        rw [ev_2n k1 k2 hv hw] at hn ⊢
        dsimp only at hn ⊢
        rw [show n + ((ev a b x).2 + (ev a b y).2) = n + (ev a b y).2 + (ev a b x).2 by omega]
        refine ix P _ st c p _ σ hX1 hP hc (by omega) h hS (fun w e τ f s1 e11 => ?_) (fun e => by rw [hv] at e; cases e)
        refine iy (P ++ co x p) _ (st ++ [w]) (c + (ev a b x).2) (p + cl x) n τ hX2 e2 (by omega) (by rw [List.length_append, List.length_singleton]; omega) (Rf.co h f) s1 (fun v e => by rw [hw] at e; cases e) (fun _ τ2 f2 e12 => hn rfl τ2 (f.tr f2) (by rw [e12, Nat.add_assoc])) |> cast ?_
        rw [List.length_append, List.length_singleton]
      | some w =>
        by_cases z : k = 7 ∧ w = 0
        · rw [ev_2z k1 k2 hv hw z] at hn ⊢
          dsimp only at hn ⊢
          rw [show n + ((ev a b x).2 + (ev a b y).2 + 1) = n + 1 + (ev a b y).2 + (ev a b x).2 by omega]
          refine ix P _ st c p _ σ hX1 hP hc (by omega) h hS (fun w' e τ f s1 e11 => ?_) (fun e => by rw [hv] at e; cases e)
          have := iy (P ++ co x p) _ (st ++ [w']) (c + (ev a b x).2) (p + cl x) (n + 1) τ hX2 e2 (by omega) (by rw [List.length_append, List.length_singleton]; omega) (Rf.co h f) s1 (fun w2 e τ2 f2 s2 e12 => by
            rw [hw] at e
            have e := Option.some.inj e
            subst e
            rw [List.length_append, List.length_singleton]
            exact rn_bin (at_hd hX3 e3) k1 k2 (by omega) (by omega) (Rf.co h (f.tr f2)) s2 (fun _ _ τ3 f3 e13 => hn rfl τ3 ((f.tr f2).tr f3) (by rw [e13, ← Nat.add_assoc, ← Nat.add_assoc])) (fun nz => absurd z nz)) (fun e => by rw [hw] at e; cases e)
          rw [List.length_append, List.length_singleton] at this
          exact this
        · rw [ev_2s k1 k2 hv hw z] at hy ⊢
          dsimp only at hy ⊢
          rw [show n + ((ev a b x).2 + (ev a b y).2 + 1) = n + 1 + (ev a b y).2 + (ev a b x).2 by omega]
          refine ix P _ st c p _ σ hX1 hP hc (by omega) h hS (fun w' e τ f s1 e11 => ?_) (fun e => by rw [hv] at e; cases e)
          rw [hv] at e
          have e := Option.some.inj e
          subst e
          have := iy (P ++ co x p) _ (st ++ [v]) (c + (ev a b x).2) (p + cl x) (n + 1) τ hX2 e2 (by omega) (by rw [List.length_append, List.length_singleton]; omega) (Rf.co h f) s1 (fun w2 e τ2 f2 s2 e12 => by
            rw [hw] at e
            have e := Option.some.inj e
            subst e
            rw [List.length_append, List.length_singleton]
            refine rn_bin (at_hd hX3 e3) k1 k2 (by omega) (by omega) (Rf.co h (f.tr f2)) s2 (fun z1 z2 => absurd ⟨z1, z2⟩ z) (fun _ τ3 f3 s3 e13 => ?_)
            have := hy _ rfl τ3 ((f.tr f2).tr f3) s3 (by rw [e13, ← Nat.add_assoc, ← Nat.add_assoc])
            rw [show p + (cl x + cl y + 1) = p + cl x + cl y + 1 by omega, ← Nat.add_assoc, ← Nat.add_assoc] at this
            exact this) (fun e => by rw [hw] at e; cases e)
          rw [List.length_append, List.length_singleton] at this
          exact this
  · intro x y z hx hy0 hz ix iy iz P S st c p n σ hX hP hc hs h hS hy hn
    obtain ⟨l1, l2, l3⟩ := co_len x hx p
    obtain ⟨m1, m2, m3⟩ := co_len y hy0 (p + cl x + 1)
    obtain ⟨r1, r2, r3⟩ := co_len z hz (p + cl x + 1 + cl y + 1)
    rw [(cd_3 x y z p).1] at hX
    rw [(cd_3 x y z p).2] at hy
    rw [tsz_nd] at hs
    have px := wf_pos hx
    have py := wf_pos hy0
    have pz := wf_pos hz
    have h400 := h.2.1
    obtain ⟨J1, hJ1⟩ : ∃ J1, J1 = p + cl x + 1 + cl y + 1 := ⟨_, rfl⟩
    obtain ⟨J2, hJ2⟩ : ∃ J2, J2 = p + cl x + 1 + cl y + 1 + cl z := ⟨_, rfl⟩
    rw [← hJ2, ← hJ1] at hX
    rw [← hJ1] at r1
    have hX1 : Xs = P ++ (co x p ++ ((9, nI J1) :: (co y (p + cl x + 1) ++ ((10, nI J2) :: (co z J1 ++ S))))) := by rw [hX]; simp
    have hX2 : Xs = (P ++ co x p) ++ ((9, nI J1) :: (co y (p + cl x + 1) ++ ((10, nI J2) :: (co z J1 ++ S)))) := by rw [hX]; simp
    have hX3 : Xs = (P ++ (co x p ++ [(9, nI J1)])) ++ (co y (p + cl x + 1) ++ ((10, nI J2) :: (co z J1 ++ S))) := by rw [hX]; simp
    have hX4 : Xs = (P ++ (co x p ++ ((9, nI J1) :: co y (p + cl x + 1)))) ++ ((10, nI J2) :: (co z J1 ++ S)) := by rw [hX]; simp
    have hX5 : Xs = (P ++ (co x p ++ ((9, nI J1) :: (co y (p + cl x + 1) ++ [(10, nI J2)])))) ++ (co z J1 ++ S) := by rw [hX]; simp
    have e2 : (P ++ co x p).length = p + cl x := by rw [List.length_append, hP, l1]
    have e3 : (P ++ (co x p ++ [(9, nI J1)])).length = p + cl x + 1 := by rw [List.length_append, List.length_append, hP, l1, List.length_singleton]; omega
    have e4 : (P ++ (co x p ++ ((9, nI J1) :: co y (p + cl x + 1)))).length = p + cl x + 1 + cl y := by rw [List.length_append, List.length_append, List.length_cons, hP, l1, m1]; omega
    have e5 : (P ++ (co x p ++ ((9, nI J1) :: (co y (p + cl x + 1) ++ [(10, nI J2)])))).length = J1 := by rw [List.length_append, List.length_append, List.length_cons, List.length_append, List.length_singleton, hP, l1, m1]; omega
    have lX := congrArg List.length hX5
    rw [List.length_append, e5, List.length_append, r1] at lX
    have ec := ev_cl a b x hx
    have ed := ev_cl a b y hy0
    have ez := ev_cl a b z hz
    cases hv : (ev a b x).1 with
    | none =>
      rw [ev_xn (by omega) hv] at hn ⊢
      exact ix P _ st c p n σ hX1 hP hc (by omega) h hS (fun v e => by rw [hv] at e; cases e) (fun _ => hn rfl)
    | some v =>
      by_cases w : v = 0
      · rw [ev_8z hv w] at hy hn ⊢
        dsimp only at hy hn ⊢
        rw [show n + ((ev a b x).2 + 1 + (ev a b z).2) = n + (ev a b z).2 + 1 + (ev a b x).2 by omega]
        refine ix P _ st c p _ σ hX1 hP hc (by omega) h hS (fun v' e τ f s1 e11 => ?_) (fun e => by rw [hv] at e; cases e)
        rw [hv] at e
        have e := Option.some.inj e
        subst e
        refine rn_jiz (at_hd hX2 e2) (by omega) (by omega) (by omega) (by omega) (Rf.co h f) s1 (fun τ2 f2 s2 e12 => ?_)
        rw [if_pos w]
        refine iz _ S st (c + (ev a b x).2 + 1) J1 n τ2 hX5 e5 (by omega) (by omega) (Rf.co h (f.tr f2)) s2 (fun v2 e τ3 f3 s3 e13 => ?_) (fun e τ3 f3 e13 => hn e τ3 ((f.tr f2).tr f3) (by rw [e13, ← Nat.add_assoc, ← Nat.add_assoc]))
        have := hy v2 e τ3 ((f.tr f2).tr f3) s3 (by rw [e13, ← Nat.add_assoc, ← Nat.add_assoc])
        rw [show p + (cl x + cl y + cl z + 2) = J1 + cl z by omega, ← Nat.add_assoc, ← Nat.add_assoc] at this
        exact this
      · rw [ev_8y hv w] at hy hn ⊢
        dsimp only at hy hn ⊢
        cases hw : (ev a b y).1 with
        | none =>
          rw [hw] at hn hy
          rw [if_neg (by decide), Nat.add_zero] at hn ⊢
          rw [show n + ((ev a b x).2 + 1 + (ev a b y).2) = n + (ev a b y).2 + 1 + (ev a b x).2 by omega]
          refine ix P _ st c p _ σ hX1 hP hc (by omega) h hS (fun v' e τ f s1 e11 => ?_) (fun e => by rw [hv] at e; cases e)
          rw [hv] at e
          have e := Option.some.inj e
          subst e
          refine rn_jiz (at_hd hX2 e2) (by omega) (by omega) (by omega) (by omega) (Rf.co h f) s1 (fun τ2 f2 s2 e12 => ?_)
          rw [if_neg w]
          exact iy _ _ st (c + (ev a b x).2 + 1) (p + cl x + 1) n τ2 hX3 e3 (by omega) (by omega) (Rf.co h (f.tr f2)) s2 (fun v2 e => by rw [hw] at e; cases e) (fun e τ3 f3 e13 => hn rfl τ3 ((f.tr f2).tr f3) (by rw [e13, ← Nat.add_assoc, ← Nat.add_assoc]))
        | some vy =>
          rw [hw] at hn hy
          rw [if_pos (by rfl)] at hy ⊢
          rw [show n + ((ev a b x).2 + 1 + (ev a b y).2 + 1) = n + 1 + (ev a b y).2 + 1 + (ev a b x).2 by omega]
          refine ix P _ st c p _ σ hX1 hP hc (by omega) h hS (fun v' e τ f s1 e11 => ?_) (fun e => by rw [hv] at e; cases e)
          rw [hv] at e
          have e := Option.some.inj e
          subst e
          refine rn_jiz (at_hd hX2 e2) (by omega) (by omega) (by omega) (by omega) (Rf.co h f) s1 (fun τ2 f2 s2 e12 => ?_)
          rw [if_neg w]
          refine iy _ _ st (c + (ev a b x).2 + 1) (p + cl x + 1) (n + 1) τ2 hX3 e3 (by omega) (by omega) (Rf.co h (f.tr f2)) s2 (fun v2 e τ3 f3 s3 e13 => ?_) (fun e => by rw [hw] at e; cases e)
          rw [hw] at e
          have e := Option.some.inj e
          subst e
          refine rn_jmp (at_hd hX4 e4) (by omega) (by omega) (by omega) (Rf.co h ((f.tr f2).tr f3)) s3 (fun τ4 f4 s4 e14 => ?_)
          have := hy vy rfl τ4 (((f.tr f2).tr f3).tr f4) s4 (by rw [e14, ← Nat.add_assoc, ← Nat.add_assoc, ← Nat.add_assoc])
          rw [show p + (cl x + cl y + cl z + 2) = J2 by omega, ← Nat.add_assoc, ← Nat.add_assoc, ← Nat.add_assoc] at this
          exact this
/-- run(): the value and the cost -/
theorem run_sp {T : Tr} {σ : Sg} (hT : wf T) (hs : tsz T ≤ 200) (h : CoR σ t (co T 0)) (hy : ∀ v, (ev a b T).1 = some v → ∀ τ, Rf t σ τ → τ.1 t 10 = v → τ.1 t 11 = nI (ev a b T).2 → Q 1 τ) (hn : (ev a b T).1 = none → ∀ τ, Rf t σ τ → τ.1 t 11 = nI (ev a b T).2 → Q 0 τ) : wX0_run t a b σ Q := by
  obtain ⟨l1, l2, l3⟩ := co_len T hT 0
  have ec := ev_cl a b T hT
  unfold wX0_run
  refine ⟨1 + (ev a b T).2, ?_⟩
  refine rn_sub T hT [] [] [] 0 0 1 σ (by simp) rfl (Nat.le_refl _) (by simpa using hs) h (fun j v e => by simp at e) (fun v e τ f s e11 => ?_) (fun e τ f e11 => hn e τ f (by rw [e11, Nat.zero_add]))
  rw [Nat.zero_add] at e11
  rw [Nat.zero_add, Nat.zero_add, List.length_nil, Nat.zero_add]
  have fin : wX0_run_250 t (nI 1) τ Q := by
    unfold wX0_run_250
    rw [if_neg (by decide), show nI 1 - 1 = nI 0 from nI_pred 0, ncl (by omega)]
    have top : τ.1 (t + 6) 0 = v := s 0 v rfl
    rw [top]
    refine ⟨h.1, vp_in_nI (by omega) (by omega), ?_⟩
    unfold wX0_run_267
    refine ⟨h.1, lt_i (fun ρ eρ => ?_)⟩
    exact hy v e ρ (f.tr (Rf.f (Or.inl rfl) eρ)) (by rw [eρ, sI_1, up_s, ud_s]) (by rw [eρ, sI_1, up_s, ud_n _ _ _ _ (by decide)]; exact e11)
  have hc := Rf.co h f
  show wX0_run_8_b (wX0_run_8 Q 0) t a b (nI 1) (nI (cl T)) (nI ((ev a b T).2 + 1)) τ Q
  unfold wX0_run_8_b
  rw [hc.2.2.1, l1]
  refine ⟨h.1, ?_⟩
  by_cases z : cl T < (ev a b T).2 + 1
  · rw [if_pos (nI_lt z (by omega))]
    exact fin
  · rw [if_neg (nI_nlt (by omega) (by omega)), if_pos (Int32.le_refl _)]
    exact fin
end

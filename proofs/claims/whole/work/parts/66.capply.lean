/-! the class: a turn over a tree -/
theorem ru_leaf {s f w : Nat} {t : Tr} (h : kd t < 3) : ru s f w t = none := by
  unfold ru ruF ruZ ruS ruP ruM ruT twA ruK
  have e3 : kd t ≠ 3 := by omega
  have e4 : kd t ≠ 4 := by omega
  have e5 : kd t ≠ 5 := by omega
  have e6 : kd t ≠ 6 := by omega
  have e7 : kd t ≠ 7 := by omega
  have e8 : kd t ≠ 8 := by omega
  simp [h, e3, e4, e5, e6, e7, e8]
section
variable {Q : Int32 → Sg → Prop} {a b s f : Nat} {T : Tr} {σ : Sg} {R : List En} {n i fd D : Nat}
/-- the inner loop's head: a part has ended, D nodes are open -/
def Hd (Q : Int32 → Sg → Prop) (s f n i fd D : Nat) (σ : Sg) : Prop := ∀ nn x7, D + 1 ≤ nn → x7 = nI D - 1 → wX6_apply_112 (wX6_apply_15 Q n) Q nn (nI s) (nI f) (nI fd) (nI D) (nI i) x7 σ
/-- the workshop: what is read lies at a, what is written at b -/
def WkR (σ : Sg) (a b : Nat) (T : Tr) (R : List En) : Prop := ((a = 19 ∧ b = 23) ∨ (a = 23 ∧ b = 19)) ∧ σ.2.2 16 2 = a ∧ σ.2.2 16 3 = b ∧ TrR σ a (fl T) ∧ TrR σ b R
abbrev Sb (b : Nat) : Nat → Prop := fun i => i = 17 ∨ i = 18 ∨ (b ≤ i ∧ i < b + 4)
theorem WkR.gm {τ : Sg} {R2 : List En} (h : WkR σ a b T R) (g : Gm (Sb b) σ τ) (h2 : TrR τ b R2) : WkR τ a b T R2 := by
  obtain ⟨h1, h3, h4, h5, h6⟩ := h
  refine ⟨h1, ?_, ?_, h5.gm g (fun i x y => by unfold Sb; omega), h2⟩
  · rw [g.2.2 16 (by unfold Sb; omega)]; exact h3
  · rw [g.2.2 16 (by unfold Sb; omega)]; exact h4
/-- the open nodes below D are as they were -/
def Bl (D : Nat) (σ τ : Sg) : Prop := ∀ j, j < D → τ.1 17 j = σ.1 17 j ∧ τ.1 18 j = σ.1 18 j
theorem Bl.rf : Bl D σ σ := fun _ _ => ⟨rfl, rfl⟩
theorem Bl.tr {τ ρ : Sg} (h : Bl D σ τ) (g : Bl D τ ρ) : Bl D σ ρ := fun j hj => ⟨(g j hj).1.trans (h j hj).1, (g j hj).2.trans (h j hj).2⟩
theorem Bl.wk {τ : Sg} (h : Bl (D + 1) σ τ) : Bl D σ τ := fun j hj => h j (by omega)
theorem bl_b {τ : Sg} (hb : b = 19 ∨ b = 23) (g : Gm (fun i => b ≤ i ∧ i < b + 4) σ τ) : Bl D σ τ := fun j _ => by
  rw [g.1 17 (by omega), g.1 18 (by omega)]
  exact ⟨rfl, rfl⟩
theorem ap_mid {m : Nat} (h18 : σ.1 18 D = nI (m + 2)) (hm : m ≤ 3) (hD : D < 200) (hK : ∀ τ, Gm (Sb b) σ τ → Bl D σ τ → τ.1 17 D = σ.1 17 D → τ.1 18 D = nI (m + 1) → (∀ t R, b = 19 ∨ b = 23 → TrR σ t R → 18 < t → TrR τ t R) → wX6_apply_15 Q n (nI s) (nI f) (nI fd) (nI (D + 1)) (nI (i + 1)) τ) : Hd Q s f n i fd (D + 1) σ := by
  intro nn x7 hn hx
  rw [nI_pred] at hx
  subst hx
  cases nn with
  | zero => omega
  | succ nn =>
    show wX6_apply_112_b (wX6_apply_15 Q n) (wX6_apply_112 (wX6_apply_15 Q n) Q nn) (nI s) (nI f) (nI fd) (nI (D + 1)) (nI i) (nI D) σ Q
    unfold wX6_apply_112_b
    rw [if_neg (nI_pos (by omega)), ncl (by omega), h18, show nI (m + 2) - 1 = nI (m + 1) from nI_pred _]
    refine ⟨vp_in_nI hD (by omega), lt_i (fun τ eτ => ?_)⟩
    have t18 : τ.1 18 D = nI (m + 1) := by rw [eτ, sI_1, up_s, ud_s]
    rw [t18, if_neg (show ¬ nI (m + 1) ≤ (0 : Int32) from nI_ge (a := 0) (by omega) (by omega))]
    unfold wX6_apply_199
    refine lt_i (fun x ex => ?_)
    rw [ex, nI_1]
    have g : Gm (fun i => i = 18) σ τ := by rw [eτ]; exact Gm.i 18 _ rfl
    refine hK τ (g.wk (fun i e => Or.inr (Or.inl e))) (fun j hj => ?_) ?_ t18 (fun t R _ h ht => h.gm g (fun i x y => by omega))
    · rw [eτ, sI_1, up_n _ _ _ _ (by decide), up_s, ud_n _ _ _ _ (by omega)]
      exact ⟨rfl, rfl⟩
    · rw [eτ, sI_1, up_n _ _ _ _ (by decide)]
theorem ap_fin {k : Nat} {v : Int32} {x y z : Tr} {W : Nat} (hs : s ≤ 6) (hf : f ≤ 2) (hT : wf T) (h : WkR σ a b T (R ++ ((k, v, 1) :: (fl x ++ (fl y ++ fl z))))) (hw : wf (nd k v x y z)) (ha : 1 ≤ ary k) (h17 : σ.1 17 D = nI R.length) (h18 : σ.1 18 D = nI 1) (hD : D < 200) (hi : i < tsz T) (hW : W = R.length + tsz (nd k v x y z) + (tsz T - 1 - i)) (hW2 : W ≤ 200)
    (h0 : ru s f W (nd k v x y z) = none → ∀ τ, Gm (Sb b) σ τ → Bl D σ τ → WkR τ a b T (R ++ fl (nd k v x y z)) → Hd Q s f n i fd D τ) (h1 : ∀ u, ru s f W (nd k v x y z) = some u → ∀ τ, Gm (Sb b) σ τ → Bl D σ τ → WkR τ a b T (R ++ fl u) → Hd Q s f n i (fd + 1) D τ) : Hd Q s f n i fd (D + 1) σ := by
  have hb : b = 19 ∨ b = 23 := by have := h.1; omega
  intro nn x7 hn hx
  rw [nI_pred] at hx
  subst hx
  obtain ⟨wx, wy, wz⟩ := wf_parts hw
  have BL : (fl x ++ (fl y ++ fl z)).length = tsz x + tsz y + tsz z := by rw [List.length_append, List.length_append, fln wx, fln wy, fln wz]; omega
  have nT := fl_len T hT
  have l200 := h.2.2.2.1.2.2.1
  have r200 := h.2.2.2.2.2.2.1
  rw [List.length_append, List.length_cons, BL] at r200
  cases nn with
  | zero => omega
  | succ nn =>
    show wX6_apply_112_b (wX6_apply_15 Q n) (wX6_apply_112 (wX6_apply_15 Q n) Q nn) (nI s) (nI f) (nI fd) (nI (D + 1)) (nI i) (nI D) σ Q
    unfold wX6_apply_112_b
    rw [if_neg (nI_pos (by omega)), ncl (by omega), h18, show nI 1 - 1 = nI 0 from nI_pred 0]
    refine ⟨vp_in_nI hD (by omega), lt_i (fun τ eτ => ?_)⟩
    have t18 : τ.1 18 D = nI 0 := by rw [eτ, sI_1, up_s, ud_s]
    have t17 : τ.1 17 = σ.1 17 := by rw [eτ, sI_1, up_n _ _ _ _ (by decide)]
    have g1 : Gm (fun i => i = 18) σ τ := by rw [eτ]; exact Gm.i 18 _ rfl
    have g1' : Gm (Sb b) σ τ := g1.wk (fun i e => Or.inr (Or.inl e))
    have B1 : Bl D σ τ := fun j hj => by
      rw [t17, eτ, sI_1, up_s, ud_n _ _ _ _ (by omega)]
      exact ⟨rfl, rfl⟩
    have hτ := h.gm g1' (h.2.2.2.2.gm g1 (fun i x y => by omega))
    rw [t18, if_pos (by decide), hτ.2.2.1, t17, h17]
    refine ⟨hτ.2.2.2.2.1, close_sp hτ.2.2.2.2 (fun ρ g2 h2 => ?_)⟩
    have g2' : Gm (Sb b) τ ρ := g2.wk (fun i e => Or.inr (Or.inr e))
    have en : (k, v, 1 + (fl x ++ (fl y ++ fl z)).length) :: (fl x ++ (fl y ++ fl z)) = fl (nd k v x y z) := by
      rw [fl_nd, BL, ← Nat.add_assoc, ← Nat.add_assoc]
    rw [en] at h2
    have hρ := hτ.gm g2' h2
    have r17 : ρ.1 17 D = nI R.length := by rw [g2.1 17 (by omega), t17]; exact h17
    rw [hρ.2.1, hρ.2.2.1, r17, hρ.2.2.2.1.2.2.2.1, nT, show nI (tsz T) - 1 = nI (tsz T - 1) from pk_sub (b := 1) (by omega), pk_sub (by omega)]
    refine ⟨hρ.2.2.2.1.1, c_fire hρ.2.2.2.2 hw (by rw [kd_nd]; exact ha) hs hf hW hW2 ⟨fun e => ?_, fun u e ξ g3 h3 => ?_⟩⟩
    · dsimp only
      rw [if_pos rfl]
      unfold wX6_apply_193
      refine lt_i (fun x7 ex => ?_)
      exact h0 e ρ (g1'.tr g2') (B1.tr (bl_b hb g2)) hρ nn x7 (by omega) (by rw [ex, Int32.sub_eq_add_neg])
    · dsimp only
      rw [if_neg (by decide)]
      refine lt_i (fun fd2 ef => ?_)
      rw [ef, nI_1]
      have g3' : Gm (Sb b) ρ ξ := g3.wk (fun i e => Or.inr (Or.inr e))
      unfold wX6_apply_193
      refine lt_i (fun x7 ex => ?_)
      exact h1 u e ξ ((g1'.tr g2').tr g3') ((B1.tr (bl_b hb g2)).tr (bl_b hb g3)) (hρ.gm g3' h3) nn x7 (by omega) (by rw [ex, Int32.sub_eq_add_neg])
theorem ap_read {k sz : Nat} {v : Int32} (hT : wf T) (h : WkR σ a b T R) (hi : i < tsz T) (he : en (fl T) i = (k, v, sz)) (hD : D < 200) (hR : R.length < 200) (h0 : ary k = 0 → ∀ τ, Gm (Sb b) σ τ → Bl D σ τ → WkR τ a b T (R ++ [(k, v, 1)]) → Hd Q s f n i fd D τ)
    (h1 : 1 ≤ ary k → ∀ τ, Gm (Sb b) σ τ → Bl D σ τ → WkR τ a b T (R ++ [(k, v, 1)]) → τ.1 17 D = nI R.length → τ.1 18 D = nI (ary k) → wX6_apply_15 Q n (nI s) (nI f) (nI fd) (nI (D + 1)) (nI (i + 1)) τ) : wX6_apply_15 Q (n + 1) (nI s) (nI f) (nI fd) (nI D) (nI i) σ := by
  have hb : b = 19 ∨ b = 23 := by have := h.1; omega
  have nT := fl_len T hT
  have hh := h
  obtain ⟨q1, q2, q3, q4, q5⟩ := hh
  have l200 := q4.2.2.1
  have k8 : k ≤ 8 := by have := (en_wr q4.2.1 i).1; rw [he] at this; exact this
  have a3 := ary_3 k
  show wX6_apply_15_b (wX6_apply_15 Q n) (nI s) (nI f) (nI fd) (nI D) (nI i) σ Q
  unfold wX6_apply_15_b
  rw [q2, q4.2.2.2.1, nT, if_neg (nI_ge hi (by omega)), if_neg (show ¬ (200 : Int32) ≤ nI D from nI_ge (b := 200) hD (by omega))]
  refine ⟨q4.1, kindOf_sp q4 (by omega) ?_⟩
  rw [q2, q3]
  refine ⟨q4.1, numberOf_sp q4 (by omega) ⟨q5.1, ?_⟩⟩
  rw [he]
  dsimp only
  refine append_sp q5 hR k8 (fun τ g1 h2 => pO_sp k8 ?_)
  have g1' : Gm (Sb b) σ τ := g1.wk (fun i e => Or.inr (Or.inr e))
  have hτ := h.gm g1' h2
  by_cases z : ary k = 0
  · rw [z, if_pos (by decide)]
    refine lt_i (fun x7 ex => ⟨D + 1, ?_⟩)
    exact h0 z τ g1' (bl_b hb g1) hτ (D + 1) x7 (by omega) ex
  · rw [if_neg (show ¬ nI (ary k) ≤ (0 : Int32) from nI_ge (a := 0) (by omega) (by omega)), hτ.2.2.1, h2.2.2.2.1, List.length_append, List.length_singleton, nI_pred, ncl (by omega)]
    refine ⟨q5.1, vp_in_nI hD (by omega), lt_i (fun ρ eρ => pO_sp k8 (lt_i (fun ξ eξ => lt_i (fun y ey => ?_))))⟩
    rw [ey, nI_1]
    unfold wX6_apply_199
    refine lt_i (fun x ex => ?_)
    rw [ex, nI_1]
    have g2 : Gm (fun i => i = 17 ∨ i = 18) τ ρ := by rw [eρ]; exact Gm.i 17 _ (Or.inl rfl)
    have g3 : Gm (fun i => i = 17 ∨ i = 18) ρ ξ := by rw [eξ]; exact Gm.i 18 _ (Or.inr rfl)
    have g23 := g2.tr g3
    have g23' : Gm (Sb b) τ ξ := g23.wk (fun i e => e.elim Or.inl (fun e => Or.inr (Or.inl e)))
    have x17 : ξ.1 17 = upd (τ.1 17) D (nI R.length) := by rw [eξ, sI_1, up_n _ _ _ _ (by decide), eρ, sI_1, up_s]
    have x18 : ξ.1 18 = upd (τ.1 18) D (nI (ary k)) := by rw [eξ, sI_1, up_s, eρ, sI_1, up_n _ _ _ _ (by decide)]
    refine h1 (by omega) ξ (g1'.tr g23') ((bl_b hb g1).tr (fun j hj => ?_)) (hτ.gm g23' (h2.gm g23 (fun i x y => by omega))) (by rw [x17, ud_s]) (by rw [x18, ud_s])
    rw [x17, x18, ud_n _ _ _ _ (by omega), ud_n _ _ _ _ (by omega)]
    exact ⟨rfl, rfl⟩
end

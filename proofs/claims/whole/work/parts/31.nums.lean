/-! numbers: what simp decides by omega -/
theorem lit (n : Nat) : (OfNat.ofNat n : Int32) = nI (OfNat.ofNat n) := rfl
theorem nle_t {a b : Nat} (h : a ≤ b) (hb : b < 2147483648) : (nI a ≤ nI b) = True := eq_true (nI_le h hb)
theorem nle_f {a b : Nat} (h : b < a) (ha : a < 2147483648) : (nI a ≤ nI b) = False := eq_false (nI_ge h ha)
theorem nlt_t {a b : Nat} (h : a < b) (hb : b < 2147483648) : (nI a < nI b) = True := eq_true (nI_lt h hb)
theorem nlt_f {a b : Nat} (h : b ≤ a) (ha : a < 2147483648) : (nI a < nI b) = False := eq_false (nI_nlt h ha)
theorem neq_t {a b : Nat} (h : a = b) : (nI a = nI b) = True := eq_true (by rw [h])
theorem neq_f {a b : Nat} (h : a ≠ b) (ha : a < 2147483648) (hb : b < 2147483648) : (nI a = nI b) = False := eq_false (fun e => h ((nI_eq ha hb).mp e))
theorem vin_t {n N : Nat} (h : n < N) (hN : N < 2147483648) : vp_in (nI n) N = True := eq_true (vp_in_nI h hN)
theorem ncl {n : Nat} (h : n < 2147483648) : (nI n).toNatClampNeg = n := nI_clamp h
theorem m1_lt : ((-1 : Int32) < nI 0) = True := eq_true (by decide)
theorem m1_le (n : Nat) (h : n < 2147483648) : (nI n ≤ (-1 : Int32)) = False := eq_false (by
  intro q
  rw [Int32.le_iff_toInt_le, nI_toInt h] at q
  have e : (-1 : Int32).toInt = -1 := by decide
  omega)
theorem m1_ne (n : Nat) (h : n < 2147483648) : (nI n = (-1 : Int32)) = False := eq_false (by
  intro q
  have q := congrArg Int32.toInt q
  rw [nI_toInt h] at q
  have e : (-1 : Int32).toInt = -1 := by decide
  omega)
theorem m1_ne' (n : Nat) (h : n < 2147483648) : ((-1 : Int32) = nI n) = False := eq_false (by
  intro q
  have q := congrArg Int32.toInt q
  rw [nI_toInt h] at q
  have e : (-1 : Int32).toInt = -1 := by decide
  omega)
theorem nsub {a b : Nat} (h : b ≤ a) : nI a - nI b = nI (a - b) := pk_sub h
theorem nadd (a b : Nat) : nI a + nI b = nI (a + b) := nI_add a b
/-- rows and fields behind a change -/
theorem sI_1 (σ : Sg) (i : Nat) (f : Nat → Int32) : (sI σ i f).1 = va_up σ.1 i f := rfl
theorem sI_2 (σ : Sg) (i : Nat) (f : Nat → Int32) : (sI σ i f).2 = σ.2 := rfl
theorem sJ_1 (σ : Sg) (i : Nat) (f : Nat → Int64) : (sJ σ i f).1 = σ.1 := rfl
theorem sJ_2 (σ : Sg) (i : Nat) (f : Nat → Int64) : (sJ σ i f).2.1 = va_up σ.2.1 i f := rfl
theorem sJ_3 (σ : Sg) (i : Nat) (f : Nat → Int64) : (sJ σ i f).2.2 = σ.2.2 := rfl
theorem sN_1 (σ : Sg) (i k v : Nat) : (sN σ i k v).1 = σ.1 := rfl
theorem sN_2 (σ : Sg) (i k v : Nat) : (sN σ i k v).2.1 = σ.2.1 := rfl
theorem up_s {α : Type} (f : Nat → α) (k : Nat) (v : α) : va_up f k v k = v := va_up_self f k v
theorem up_n {α : Type} (f : Nat → α) (k j : Nat) (v : α) (h : j ≠ k) : va_up f k v j = f j := up_ne h
theorem ud_s (f : Nat → Int32) (k : Nat) (v : Int32) : upd f k v k = v := by simp [upd]
theorem ud_n (f : Nat → Int32) (k j : Nat) (v : Int32) (h : j ≠ k) : upd f k v j = f j := by simp [upd, h]
/-- frames: which rows (but row 0) and which fields of row 0 may differ -/
def Fm (S T : List Nat) (σ τ : Sg) : Prop := (∀ i, i ≠ 0 → i ∉ S → τ.1 i = σ.1 i) ∧ (∀ k, k ∉ T → τ.1 0 k = σ.1 0 k) ∧ τ.2 = σ.2
theorem Fm.rf {S T : List Nat} {σ : Sg} : Fm S T σ σ := ⟨fun _ _ _ => rfl, fun _ _ => rfl, rfl⟩
theorem Fm.tr {S T : List Nat} {a b c : Sg} (h : Fm S T a b) (g : Fm S T b c) : Fm S T a c := ⟨fun i h0 hi => (g.1 i h0 hi).trans (h.1 i h0 hi), fun k hk => (g.2.1 k hk).trans (h.2.1 k hk), g.2.2.trans h.2.2⟩
theorem Fm.wk {S T S2 T2 : List Nat} {a b : Sg} (h : Fm S T a b) (hS : ∀ i, i ∈ S → i ∈ S2) (hT : ∀ i, i ∈ T → i ∈ T2) : Fm S2 T2 a b := ⟨fun i h0 hi => h.1 i h0 (fun q => hi (hS i q)), fun k hk => h.2.1 k (fun q => hk (hT k q)), h.2.2⟩
theorem Fm.put {S T : List Nat} {a : Sg} (k : Nat) (v : Int32) (hk : k ∈ T) : Fm S T a (sI a 0 (upd (a.1 0) k v)) := by
  refine ⟨fun i h0 hi => ?_, fun j hj => ?_, rfl⟩
  · rw [sI_1, up_n _ _ _ _ h0]
  · rw [sI_1, up_s, ud_n _ _ _ _ (fun e : j = k => hj (by rw [e]; exact hk))]
theorem Fm.row {S T : List Nat} {a : Sg} (i : Nat) (f : Nat → Int32) (h0 : i ≠ 0) (hi : i ∈ S) : Fm S T a (sI a i f) := by
  refine ⟨fun j _ hj => ?_, fun j hj => ?_, rfl⟩
  · rw [sI_1, up_n _ _ _ _ (fun e : j = i => hj (by rw [e]; exact hi))]
  · rw [sI_1, up_n _ _ _ _ (Ne.symm h0)]
/-- the reference's nodes: a tree at an index below N -/
def rx (σ : Sg) : Tr → Int32 → Nat → Prop
  | .elem (.add (.index k) (.int v)) (.sub x (.sub y z)), c, N => ∃ j, j < N ∧ c = nI j ∧ σ.1 1 j = nI k ∧ σ.1 2 j = v ∧ σ.1 6 j = nI (1 + tsz x + tsz y + tsz z) ∧ rx σ x (σ.1 3 j) j ∧ rx σ y (σ.1 4 j) j ∧ rx σ z (σ.1 5 j) j
  | _, c, _ => c = -1
theorem rx_nd (σ : Sg) (k : Nat) (v : Int32) (x y z : Tr) (c : Int32) (N : Nat) : rx σ (nd k v x y z) c N ↔ ∃ j, j < N ∧ c = nI j ∧ σ.1 1 j = nI k ∧ σ.1 2 j = v ∧ σ.1 6 j = nI (1 + tsz x + tsz y + tsz z) ∧ rx σ x (σ.1 3 j) j ∧ rx σ y (σ.1 4 j) j ∧ rx σ z (σ.1 5 j) j := by
  simp only [nd, rx]
theorem rx_nl (σ : Sg) (c : Int32) (N : Nat) : rx σ nl c N ↔ c = -1 := by simp only [nl, rx]
/-- the nodes below N are as they were -/
def Ex (σ τ : Sg) (N : Nat) : Prop := ∀ r, 1 ≤ r → r ≤ 6 → ∀ j, j < N → τ.1 r j = σ.1 r j
theorem Ex.rf {σ : Sg} {N : Nat} : Ex σ σ N := fun _ _ _ _ _ => rfl
theorem Ex.tr {a b c : Sg} {N M : Nat} (h : Ex a b N) (g : Ex b c M) (hNM : N ≤ M) : Ex a c N := fun r h1 h2 j hj => (g r h1 h2 j (by omega)).trans (h r h1 h2 j hj)
theorem Ex.fm {S T : List Nat} {a b : Sg} {N : Nat} (h : Fm S T a b) (hS : ∀ r, 1 ≤ r → r ≤ 6 → r ∉ S) : Ex a b N := fun r h1 h2 j _ => by rw [h.1 r (by omega) (hS r h1 h2)]
theorem rx_le {σ : Sg} {t : Tr} {c : Int32} {N M : Nat} (ht : wf t) (h : rx σ t c N) (hM : N ≤ M) : rx σ t c M := by
  obtain ⟨k, v, x, y, z, rfl⟩ := wf_shape t ht
  rw [rx_nd] at h ⊢
  obtain ⟨j, h1, h2⟩ := h
  exact ⟨j, by omega, h2⟩
theorem rx_ex {σ τ : Sg} : ∀ t : Tr, wf t → ∀ (c : Int32) (N M : Nat), rx σ t c N → Ex σ τ M → N ≤ M → rx τ t c N := by
  apply wf_ind
  · intro k v _ _ c N M h he hM
    rw [rx_nd] at h ⊢
    obtain ⟨j, h1, h2, h3, h4, h5, h6, h7, h8⟩ := h
    rw [rx_nl] at h6 h7 h8
    refine ⟨j, h1, h2, ?_, ?_, ?_, ?_, ?_, ?_⟩
    · rw [he 1 (by omega) (by omega) j (by omega)]; exact h3
    · rw [he 2 (by omega) (by omega) j (by omega)]; exact h4
    · rw [he 6 (by omega) (by omega) j (by omega)]; exact h5
    · rw [rx_nl, he 3 (by omega) (by omega) j (by omega)]; exact h6
    · rw [rx_nl, he 4 (by omega) (by omega) j (by omega)]; exact h7
    · rw [rx_nl, he 5 (by omega) (by omega) j (by omega)]; exact h8
  · intro x _ ix c N M h he hM
    rw [rx_nd] at h ⊢
    obtain ⟨j, h1, h2, h3, h4, h5, h6, h7, h8⟩ := h
    rw [rx_nl] at h7 h8
    refine ⟨j, h1, h2, ?_, ?_, ?_, ?_, ?_, ?_⟩
    · rw [he 1 (by omega) (by omega) j (by omega)]; exact h3
    · rw [he 2 (by omega) (by omega) j (by omega)]; exact h4
    · rw [he 6 (by omega) (by omega) j (by omega)]; exact h5
    · rw [he 3 (by omega) (by omega) j (by omega)]; exact ix _ _ M h6 he (by omega)
    · rw [rx_nl, he 4 (by omega) (by omega) j (by omega)]; exact h7
    · rw [rx_nl, he 5 (by omega) (by omega) j (by omega)]; exact h8
  · intro k x y _ _ _ _ ix iy c N M h he hM
    rw [rx_nd] at h ⊢
    obtain ⟨j, h1, h2, h3, h4, h5, h6, h7, h8⟩ := h
    rw [rx_nl] at h8
    refine ⟨j, h1, h2, ?_, ?_, ?_, ?_, ?_, ?_⟩
    · rw [he 1 (by omega) (by omega) j (by omega)]; exact h3
    · rw [he 2 (by omega) (by omega) j (by omega)]; exact h4
    · rw [he 6 (by omega) (by omega) j (by omega)]; exact h5
    · rw [he 3 (by omega) (by omega) j (by omega)]; exact ix _ _ M h6 he (by omega)
    · rw [he 4 (by omega) (by omega) j (by omega)]; exact iy _ _ M h7 he (by omega)
    · rw [rx_nl, he 5 (by omega) (by omega) j (by omega)]; exact h8
  · intro x y z _ _ _ ix iy iz c N M h he hM
    rw [rx_nd] at h ⊢
    obtain ⟨j, h1, h2, h3, h4, h5, h6, h7, h8⟩ := h
    refine ⟨j, h1, h2, ?_, ?_, ?_, ?_, ?_, ?_⟩
    · rw [he 1 (by omega) (by omega) j (by omega)]; exact h3
    · rw [he 2 (by omega) (by omega) j (by omega)]; exact h4
    · rw [he 6 (by omega) (by omega) j (by omega)]; exact h5
    · rw [he 3 (by omega) (by omega) j (by omega)]; exact ix _ _ M h6 he (by omega)
    · rw [he 4 (by omega) (by omega) j (by omega)]; exact iy _ _ M h7 he (by omega)
    · rw [he 5 (by omega) (by omega) j (by omega)]; exact iz _ _ M h8 he (by omega)

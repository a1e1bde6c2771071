/-! a world by positions: what the ints, the longs and the changing references of each position are -/
abbrev Sg : Type := (Nat → Nat → Int32) × (Nat → Nat → Int64) × (Nat → Nat → Nat)
/-- a layout: how many positions, their kinds (0 .. 7 classes, 8 int[], 9 long[], 10 Maker[], 11 Tree[]), arrays' lengths, what arrays of references hold -/
abbrev Ly : Type := Nat × (Nat → Nat) × (Nat → Nat) × (Nat → Nat → Nat)
/-- addresses of the positions, the classes' numbers and slots, the array classes' numbers -/
abbrev Gx : Type := (Nat → Nat) × (Nat → ClassId) × (Nat → Nat → Nat) × (Nat → ClassId)
abbrev Kx : Type := Program × Launch × Env × Room × State × MethodId × Array Value × List Frame × Method × Code
abbrev kS (K : Kx) : State := K.2.2.2.2.1
abbrev kA (K : Kx) : Array Value := K.2.2.2.2.2.2.1
abbrev kB (K : Kx) : List Frame := K.2.2.2.2.2.2.2.1
abbrev kM (K : Kx) : MethodId := K.2.2.2.2.2.1
def wl (ad : Nat → Nat) (N : Nat) (cf : Nat → va_E) : va_W := (List.range N).map (fun i => (ad i, cf i))
theorem wl_get {ad : Nat → Nat} {N : Nat} {cf : Nat → va_E} {i : Nat} (h : i < N) : (wl ad N cf)[i]? = some (ad i, cf i) := by simp [wl, h]
theorem wl_set {ad : Nat → Nat} {N : Nat} {cf : Nat → va_E} {i : Nat} {e : va_E} (h : i < N) : (wl ad N cf).set i (ad i, e) = wl ad N (va_up cf i e) := by
  apply List.ext_getElem?
  intro j
  by_cases hj : j = i
  · subst hj
    rw [List.getElem?_set_self (by simp [wl, h]), wl_get h, va_up_self]
  · rw [List.getElem?_set_ne (Ne.symm hj)]
    by_cases hN : j < N
    · rw [wl_get hN, wl_get hN]
      simp [va_up, hj]
    · simp [wl, hN]
/-- one field's value by its code: 0 an int, 1 a changing reference, else the position so many (and 2) behind -/
def fv (G : Gx) (σ : Sg) (i k c : Nat) : Value := if c = 0 then .int (σ.1 i k) else if c = 1 then .ref (G.1 (σ.2.2 i k)) else .ref (G.1 (i + (c - 2)))
def fvs (G : Gx) (σ : Sg) (i : Nat) : List Nat → Nat → List Value
  | [], _ => []
  | c :: cs, k => fv G σ i k c :: fvs G σ i cs (k + 1)
theorem fvs_get (G : Gx) (σ : Sg) (i : Nat) : ∀ (cs : List Nat) (k j : Nat), (fvs G σ i cs k)[j]? = (cs[j]?).map (fv G σ i (k + j))
  | [], _, _ => by simp [fvs]
  | c :: cs, k, 0 => by simp [fvs]
  | c :: cs, k, j + 1 => by
    simp only [fvs, List.getElem?_cons_succ]
    rw [fvs_get G σ i cs (k + 1) j, show k + 1 + j = k + (j + 1) by omega]
theorem fvs_congr (G : Gx) (σ τ : Sg) (i : Nat) (h1 : τ.1 i = σ.1 i) (h2 : τ.2.2 i = σ.2.2 i) : ∀ (cs : List Nat) (k : Nat), fvs G τ i cs k = fvs G σ i cs k
  | [], _ => rfl
  | c :: cs, k => by
    simp only [fvs, fv, h1, h2]
    rw [fvs_congr G σ τ i h1 h2 cs (k + 1)]
theorem fvs_len (G : Gx) (σ : Sg) (i : Nat) : ∀ (cs : List Nat) (k : Nat), (fvs G σ i cs k).length = cs.length
  | [], _ => rfl
  | c :: cs, k => by simp [fvs, fvs_len G σ i cs (k + 1)]
/-- which fields an object of a class has -/
def tmF (c : Nat) : List Nat := match c with
  | 0 => [3, 4, 0, 0, 0, 0, 5, 6, 7, 8, 0, 0]
  | 1 => [3, 4, 5, 6, 7, 0, 8]
  | 2 => [3, 4, 0]
  | 3 => [3, 7, 0]
  | 4 => [3, 4, 5, 0]
  | 5 => [3, 4, 1, 1]
  | 6 => [3, 10, 16, 17, 18, 29, 36, 43, 47, 51, 0, 0]
  | 7 => [0, 0, 3, 4, 5, 6, 7, 8, 0, 0, 0, 0, 9, 10, 11, 12, 13, 0, 0, 14, 0, 15, 16, 17, 0, 18, 19, 0, 20, 21, 22, 0, 23, 24, 25, 0, 26, 27, 0]
  | _ => []
def cC (Y : Ly) (G : Gx) (σ : Sg) (i : Nat) : va_E :=
  if Y.2.1 i = 8 then .inl (G.2.2.2 8, Y.2.2.1 i, .inl (σ.1 i))
  else if Y.2.1 i = 9 then .inl (G.2.2.2 9, Y.2.2.1 i, .inr (.inl (σ.2.1 i)))
  else if Y.2.1 i = 10 then .inl (G.2.2.2 10, Y.2.2.1 i, .inr (.inr (.inr (.inr (fun j => some (G.1 (Y.2.2.2 i j)))))))
  else if Y.2.1 i = 11 then .inl (G.2.2.2 11, Y.2.2.1 i, .inr (.inr (.inr (.inr (fun j => some (G.1 (Y.2.2.2 i j)))))))
  else .inr (Y.2.1 i, fvs G σ i (tmF (Y.2.1 i)) 0)
/-- changed: the ints, the longs, one reference of a position -/
def sI (σ : Sg) (i : Nat) (f : Nat → Int32) : Sg := (va_up σ.1 i f, σ.2.1, σ.2.2)
def sJ (σ : Sg) (i : Nat) (f : Nat → Int64) : Sg := (σ.1, va_up σ.2.1 i f, σ.2.2)
def sN (σ : Sg) (i k v : Nat) : Sg := (σ.1, σ.2.1, va_up σ.2.2 i (va_up (σ.2.2 i) k v))
theorem cC_obj {Y : Ly} {G : Gx} {σ : Sg} {i ci : Nat} (h : Y.2.1 i = ci) (hc : ci < 8) : cC Y G σ i = .inr (ci, fvs G σ i (tmF ci) 0) := by
  unfold cC
  rw [h, if_neg (by omega), if_neg (by omega), if_neg (by omega), if_neg (by omega)]
theorem cC_i {Y : Ly} {G : Gx} {σ : Sg} {i : Nat} (h : Y.2.1 i = 8) : cC Y G σ i = .inl (G.2.2.2 8, Y.2.2.1 i, .inl (σ.1 i)) := by
  unfold cC
  rw [if_pos h]
theorem cC_j {Y : Ly} {G : Gx} {σ : Sg} {i : Nat} (h : Y.2.1 i = 9) : cC Y G σ i = .inl (G.2.2.2 9, Y.2.2.1 i, .inr (.inl (σ.2.1 i))) := by
  unfold cC
  rw [if_neg (by omega), if_pos h]
theorem cC_m {Y : Ly} {G : Gx} {σ : Sg} {i : Nat} (h : Y.2.1 i = 10) : cC Y G σ i = .inl (G.2.2.2 10, Y.2.2.1 i, .inr (.inr (.inr (.inr (fun j => some (G.1 (Y.2.2.2 i j))))))) := by
  unfold cC
  rw [if_neg (by omega), if_neg (by omega), if_pos h]
theorem cC_t {Y : Ly} {G : Gx} {σ : Sg} {i : Nat} (h : Y.2.1 i = 11) : cC Y G σ i = .inl (G.2.2.2 11, Y.2.2.1 i, .inr (.inr (.inr (.inr (fun j => some (G.1 (Y.2.2.2 i j))))))) := by
  unfold cC
  rw [if_neg (by omega), if_neg (by omega), if_neg (by omega), if_pos h]
theorem cC_congr {Y : Ly} {G : Gx} {σ τ : Sg} {j : Nat} (h1 : τ.1 j = σ.1 j) (h2 : τ.2.1 j = σ.2.1 j) (h3 : τ.2.2 j = σ.2.2 j) : cC Y G τ j = cC Y G σ j := by
  unfold cC
  rw [h1, h2, fvs_congr G σ τ j h1 h3]
theorem up_ne {α : Type} {f : Nat → α} {k j : Nat} {v : α} (h : j ≠ k) : va_up f k v j = f j := by simp [va_up, h]
theorem cC_sI {Y : Ly} {G : Gx} {σ : Sg} {i : Nat} {f : Nat → Int32} (h : Y.2.1 i = 8) : va_up (cC Y G σ) i (.inl (G.2.2.2 8, Y.2.2.1 i, .inl f)) = cC Y G (sI σ i f) := by
  funext j
  by_cases hj : j = i
  · subst hj
    rw [va_up_self, cC_i h]
    simp [sI, va_up]
  · rw [up_ne hj, cC_congr (σ := σ) (τ := sI σ i f)] <;> simp [sI, va_up, hj]
theorem cC_sJ {Y : Ly} {G : Gx} {σ : Sg} {i : Nat} {f : Nat → Int64} (h : Y.2.1 i = 9) : va_up (cC Y G σ) i (.inl (G.2.2.2 9, Y.2.2.1 i, .inr (.inl f))) = cC Y G (sJ σ i f) := by
  funext j
  by_cases hj : j = i
  · subst hj
    rw [va_up_self, cC_j h]
    simp [sJ, va_up]
  · rw [up_ne hj, cC_congr (σ := σ) (τ := sJ σ i f)] <;> simp [sJ, va_up, hj]
theorem cC_put {Y : Ly} {G : Gx} {σ : Sg} {i ci k : Nat} {v : Int32} (h : Y.2.1 i = ci) (hc : ci < 8) (hk : (tmF ci)[k]? = some 0) : va_up (cC Y G σ) i (.inr (ci, (fvs G σ i (tmF ci) 0).set k (.int v))) = cC Y G (sI σ i (upd (σ.1 i) k v)) := by
  funext j
  by_cases hj : j = i
  · subst hj
    rw [va_up_self, cC_obj h hc]
    have hl : k < (fvs G σ j (tmF ci) 0).length := by rw [fvs_len]; exact (List.getElem?_eq_some_iff.mp hk).1
    refine congrArg (fun l => Sum.inr (ci, l)) (List.ext_getElem? (fun n => ?_))
    by_cases hn : n = k
    · subst hn
      rw [List.getElem?_set_self hl, fvs_get, hk]
      simp [fv, sI, va_up, upd]
    · rw [List.getElem?_set_ne (Ne.symm hn), fvs_get, fvs_get]
      refine congrArg (fun f => Option.map f (tmF ci)[n]?) (funext fun c => ?_)
      simp [fv, sI, va_up, upd, hn]
  · rw [up_ne hj, cC_congr (σ := σ) (τ := sI σ i (upd (σ.1 i) k v))] <;> simp [sI, va_up, hj]
theorem cC_putN {Y : Ly} {G : Gx} {σ : Sg} {i ci k q : Nat} (h : Y.2.1 i = ci) (hc : ci < 8) (hk : (tmF ci)[k]? = some 1) : va_up (cC Y G σ) i (.inr (ci, (fvs G σ i (tmF ci) 0).set k (.ref (G.1 q)))) = cC Y G (sN σ i k q) := by
  funext j
  by_cases hj : j = i
  · subst hj
    rw [va_up_self, cC_obj h hc]
    have hl : k < (fvs G σ j (tmF ci) 0).length := by rw [fvs_len]; exact (List.getElem?_eq_some_iff.mp hk).1
    refine congrArg (fun l => Sum.inr (ci, l)) (List.ext_getElem? (fun n => ?_))
    by_cases hn : n = k
    · subst hn
      rw [List.getElem?_set_self hl, fvs_get, hk]
      simp [fv, sN, va_up]
    · rw [List.getElem?_set_ne (Ne.symm hn), fvs_get, fvs_get]
      refine congrArg (fun f => Option.map f (tmF ci)[n]?) (funext fun c => ?_)
      simp [fv, sN, va_up, hn]
  · rw [up_ne hj, cC_congr (σ := σ) (τ := sN σ i k q)] <;> simp [sN, va_up, hj]
/-- the good words of the tables; the words of nest mates' private members -/
def TB : List Cond := lw_tbl.filter goodWord
def isNw : Cond → Bool
  | .fieldLinkNest .. => true
  | .methodLinkNest .. => true
  | _ => false
def NW : List Cond := tables_1.filter isNw
def rmk (k : Nat) : Room := { frames := k, cells := 0, slots := 0, locals := 40 * k }
def adA (Y : Ly) (G : Gx) : Nat → Prop := fun q => ∃ i, i < Y.1 ∧ q = G.1 i
def Hw (Y : Ly) (G : Gx) (σ : Sg) (H : Heap) : Prop := va_P (G.2.1, G.2.2.1) vwCl (wl G.1 Y.1 (cC Y G σ)) H
def tyL (G : Gx) : List (ClassId × FieldType) := [(G.2.2.2 8, .int), (G.2.2.2 9, .long), (G.2.2.2 10, .object "MakersBench$Maker"), (G.2.2.2 11, .object "MakersBench$Tree")]
/-- the layout is whole, and addresses are apart -/
def Sok (Y : Ly) (G : Gx) : Prop := (∀ i, Y.2.1 i < 12 → i < Y.1) ∧ ∀ i j, i < Y.1 → j < Y.1 → G.1 i = G.1 j → i = j
/-- how many parts a kind has -/
def pPn (j : Nat) : Int32 := if j < 3 then 0 else if j = 3 then 1 else if j < 8 then 2 else 3
def Bs (Y : Ly) (G : Gx) (b : Nat) (U : State) : Prop :=
  va_K (G.2.1, G.2.2.1) vwCl (tyL G) U ∧ (∀ w ∈ NW, va_Nw w U) ∧ va_Z "MakersBench" "PARTS" "[I" (.ref b) (adA Y G) U U.heap ∧ va_X b 9 pPn U U.heap ∧ b < U.heap.size ∧ ¬ adA Y G b
theorem NW_warm {s U : State} (hW : s.WarmedH U.vm) (h : ∀ w ∈ NW, va_Nw w s) : ∀ w ∈ NW, va_Nw w U := by
  intro w hw
  have h1 := (List.mem_filter.mp hw).2
  have h2 := h w hw
  cases w <;> simp [isNw] at h1
  all_goals first | exact va_Nw.warmM hW h2 | exact va_Nw.warmF hW h2
theorem Bs.move {Y : Ly} {G : Gx} {b : Nat} {s U : State} {H : Heap} {locs : List Loc} (h : Bs Y G b s) (hS : va_S (adA Y G) s.heap H locs) (hU : U.heap = H) (hW : s.WarmedH U.vm) : Bs Y G b U := by
  obtain ⟨h1, h2, h3, h4, h5, h6⟩ := h
  subst hU
  refine ⟨va_K.moved hW.alike h1, NW_warm hW h2, va_Z.moved hW.alike (va_Z.kept h3 (fun a ha hn => hS.2.1 a ha hn)), va_X.moved hW.alike (h4.kept (hS.2.1 b h5 h6)), Nat.lt_of_lt_of_le h5 hS.1, h6⟩
theorem NW_ot {w : Cond} (hw : w ∈ NW) : w.onTables = true := by
  have h1 := (List.mem_filter.mp hw).2
  cases w <;> simp [isNw] at h1
  all_goals rfl
theorem Bs.call {Y : Ly} {G : Gx} {b : Nat} {U : State} {g : JFrame} {mk : MethodId} {a : Array Value} (h : Bs Y G b U) : Bs Y G b (U.calling g mk a) := by
  obtain ⟨h1, h2, h3, h4, h5, h6⟩ := h
  exact ⟨va_K.moved (u := U) (U := U.calling g mk a) (Vm.Alike.refl U.vm) h1, fun w hw => va_Nw.same (NW_ot hw) (u := U) (U := U.calling g mk a) rfl (h2 w hw), va_Z.moved (u := U) (U := U.calling g mk a) (Vm.Alike.refl U.vm) h3, va_X.moved (u := U) (U := U.calling g mk a) (Vm.Alike.refl U.vm) h4, h5, h6⟩
theorem vaD (Y : Ly) (G : Gx) (h : Sok Y G) (cf : Nat → va_E) : va_D (adA Y G) (wl G.1 Y.1 cf) := by
  have key : ∀ (k : Nat) (q : Nat × va_E), (wl G.1 Y.1 cf)[k]? = some q → k < Y.1 ∧ q.1 = G.1 k := by
    intro k q hk
    have hN : k < Y.1 := by
      rcases Nat.lt_or_ge k Y.1 with h | h
      · exact h
      · simp [wl, h] at hk
    rw [wl_get hN] at hk
    cases hk
    exact ⟨hN, rfl⟩
  refine ⟨fun i j p q hi hj hpq => ?_, fun k q hk => ?_⟩
  · obtain ⟨a1, a2⟩ := key i p hi
    obtain ⟨b1, b2⟩ := key j q hj
    exact h.2 i j a1 b1 (by rw [← a2, ← b2, hpq])
  · obtain ⟨a1, a2⟩ := key k q hk
    exact ⟨k, a1, a2⟩
/-- what a method's frame has: the machine, its code, its class, the tables' words, the room k -/
def Cx (Y : Ly) (G : Gx) (b : Nat) (K : Kx) (cc : ByteArray) (own : String) (nL : Nat) (ret : Option FieldType) (k : Nat) : Prop :=
  K.1.tables.exec = Jvm.exec ∧ K.2.2.2.2.2.2.2.2.2.code = cc ∧ K.2.2.2.2.2.2.2.2.2.maxLocals = nL ∧ K.2.2.2.2.2.2.2.2.1.sig.returnType = ret ∧ (kS K).vm.findClass own = some (kM K).cls ∧ (∀ w ∈ TB, w.before (kA K) (kS K) = true) ∧ Bs Y G b (kS K) ∧ K.2.2.2.2.2.2.2.2.1.locks = false ∧ Sok Y G ∧ K.2.2.2.1 = rmk k
/-- the machine, at pc with these locals and this stack, in the world σ, comes to Z -/
def V (Y : Ly) (G : Gx) (K : Kx) (Z : State → Prop) (nL : Nat) (σ : Sg) (pc : Nat) (lv : List (Nat × Value)) (st : List Value) : Prop :=
  ∀ (H : Heap) (locs : List Loc) (ls : Array Slot), Hw Y G σ H → va_S (adA Y G) (kS K).heap H locs → lv_has ls nL lv →
    W K.1 K.2.1 K.2.2.1 K.2.2.2.1 (kS K) (kM K) (kA K) (kB K) K.2.2.2.2.2.2.2.2.1 K.2.2.2.2.2.2.2.2.2 H locs 0 0 Z (F0 (kM K) pc ls st)
def Zi (Y : Ly) (G : Gx) (K : Kx) (Q : Int32 → Sg → Prop) : State → Prop := MQ (kB K) (va_Qi Q (fun σ t => Hw Y G σ t.heap) (adA Y G)) (kA K) (kS K) 0 0 (adA Y G)
def Zl (Y : Ly) (G : Gx) (K : Kx) (Q : Int64 → Sg → Prop) : State → Prop := MQ (kB K) (va_Ql Q (fun σ t => Hw Y G σ t.heap) (adA Y G)) (kA K) (kS K) 0 0 (adA Y G)
def Zv (Y : Ly) (G : Gx) (K : Kx) (Q : Sg → Prop) : State → Prop := MQ (kB K) (va_Qv Q (fun σ t => Hw Y G σ t.heap) (adA Y G)) (kA K) (kS K) 0 0 (adA Y G)
abbrev rv (G : Gx) (o : Option Nat) : Value := va_rf (o.map G.1)
def pQ (G : Gx) (Q : Option Nat → Sg → Prop) : Option Nat → Sg → Prop := fun r σ => ∃ o, r = o.map G.1 ∧ Q o σ
def Zq (Y : Ly) (G : Gx) (K : Kx) (Q : Option Nat → Sg → Prop) : State → Prop := MQ (kB K) (va_Qq (pQ G Q) (fun σ t => Hw Y G σ t.heap) (adA Y G)) (kA K) (kS K) 0 0 (adA Y G)
/-- contracts by what a method answers -/
def Pp (Y : Ly) (G : Gx) (b : Nat) (av : List Value) (σ : Sg) : Array Value → State → Prop := va_Pc av (fun U => Hw Y G σ U.heap ∧ Bs Y G b U)
def Mi (Y : Ly) (G : Gx) (b : Nat) (l : Launch) (y : MethodName) (cc : ByteArray) (nL : Nat) (ty : FieldType) (k : Nat) (av : List Value) (σ : Sg) (Q : Int32 → Sg → Prop) : Prop :=
  Met l y (.code y cc nL (some ty) :: TB) (rmk k) (Pp Y G b av σ) (va_Qi Q (fun σ t => Hw Y G σ t.heap) (adA Y G)) 0 0 (adA Y G)
def Ml (Y : Ly) (G : Gx) (b : Nat) (l : Launch) (y : MethodName) (cc : ByteArray) (nL : Nat) (k : Nat) (av : List Value) (σ : Sg) (Q : Int64 → Sg → Prop) : Prop :=
  Met l y (.code y cc nL (some .long) :: TB) (rmk k) (Pp Y G b av σ) (va_Ql Q (fun σ t => Hw Y G σ t.heap) (adA Y G)) 0 0 (adA Y G)
def Mv (Y : Ly) (G : Gx) (b : Nat) (l : Launch) (y : MethodName) (cc : ByteArray) (nL : Nat) (k : Nat) (av : List Value) (σ : Sg) (Q : Sg → Prop) : Prop :=
  Met l y (.code y cc nL none :: TB) (rmk k) (Pp Y G b av σ) (va_Qv Q (fun σ t => Hw Y G σ t.heap) (adA Y G)) 0 0 (adA Y G)
def Mq (Y : Ly) (G : Gx) (b : Nat) (l : Launch) (y : MethodName) (cc : ByteArray) (nL : Nat) (ty : FieldType) (k : Nat) (av : List Value) (σ : Sg) (Q : Option Nat → Sg → Prop) : Prop :=
  Met l y (.code y cc nL (some ty) :: TB) (rmk k) (Pp Y G b av σ) (va_Qq (pQ G Q) (fun σ t => Hw Y G σ t.heap) (adA Y G)) 0 0 (adA Y G)
theorem TB_of {w : Cond} (h : w ∈ lw_tbl) (hg : goodWord w = true) : w ∈ TB := List.mem_filter.mpr ⟨h, hg⟩
theorem TB_good {c0 : Cond} {y : MethodName} {cc : ByteArray} {nL : Nat} {ret : Option FieldType} (h : Cond.code y cc nL ret ∈ TB) : GoodIn TB (.code y cc nL ret :: TB) := by
  intro w hw
  rcases List.mem_cons.mp hw with rfl | hw
  · exact ⟨h, good_of_word (List.mem_filter.mp h).2⟩
  · exact ⟨hw, good_of_word (List.mem_filter.mp hw).2⟩
theorem Hw_get {Y : Ly} {G : Gx} {σ : Sg} (hk : Sok Y G) {i : Nat} (h : Y.2.1 i < 12) : (wl G.1 Y.1 (cC Y G σ))[i]? = some (G.1 i, cC Y G σ i) := wl_get (hk.1 i h)
theorem V.sub {Y : Ly} {G : Gx} {K : Kx} {Z : State → Prop} {nL : Nat} {σ : Sg} {pc : Nat} {lv lv' : List (Nat × Value)} {st : List Value} (ks : List Nat) (hk : lv_pick lv ks = lv') (h : V Y G K Z nL σ pc lv' st) : V Y G K Z nL σ pc lv st :=
  fun H locs ls h1 h2 h3 => h H locs ls h1 h2 (lv_sub h3 ks hk)
/-- a body's start -/
theorem enter {Y : Ly} {G : Gx} {b : Nat} {l : Launch} {y : MethodName} {cc : ByteArray} {nL : Nat} {ret : Option FieldType} {k : Nat} {av : List Value} {σ : Sg} {lv : List (Nat × Value)} {Qc : Array Value → State → Outcome → State → Prop}
    (hS : Sok Y G) (hy : plainName y.cls = true) (hn : (lg_sl av).length ≤ nL) (hlv : lv_args 0 av = lv)
    (h : ∀ K : Kx, K.2.1 = l → Cx Y G b K cc y.cls nL ret k → V Y G K (MQ (kB K) Qc (kA K) (kS K) 0 0 (adA Y G)) nL σ 0 lv []) :
    Met l y (.code y cc nL ret :: TB) (rmk k) (Pp Y G b av σ) Qc 0 0 (adA Y G) := by
  refine Met.ofW (cc := cc) (maxL := nL) (ret := ret) hy rfl ?_
  intro p e s m args below meth c s₁ B hml hv
  obtain ⟨rfl, hH, hB⟩ := hv
  have hts := atoms_spec (ws := .code y cc nL ret :: TB) B.pre
  have hl := lv_entry av (n := nL) hn
  rw [lg_entry_eq]
  generalize (lg_sl av ++ List.replicate (nL - (lg_sl av).length) Slot.unset).toArray = ls at hl ⊢
  rw [hlv] at hl
  exact h (p, l, e, rmk k, s, m, av.toArray, below, meth, c) rfl ⟨B.exec, B.bytes, hml, B.returns, findClass_of_methodNamed B.named, fun w hw => hts w (List.mem_cons_of_mem _ hw), hB, B.notSynchronized, hS, rfl⟩ s.heap [] ls hH va_S.rf hl

section RL
variable {Y : Ly} {G : Gx} {b : Nat} {K : Kx} {Z : State → Prop} {nL : Nat} {σ : Sg} {pc n : Nat} {lv lv2 : List (Nat × Value)} {rest : List Value} {cc : ByteArray} {own : String} {ret : Option FieldType} {k : Nat}
theorem r_iconst (hC : Cx Y G b K cc own nL ret k) {z : Int} {v : Int32} (d : decode cc pc = .ok (.iconst z, 1)) (hn : pc + 1 = n) (hv : Int32.ofInt z = v) (h : V Y G K Z nL σ n lv (.int v :: rest)) : V Y G K Z nL σ pc lv (rest) := by
  subst hn
  exact fun H locs ls h1 h2 h3 => lv_iconst hC.1 hC.2.1 d hv (h H locs ls h1 h2 h3)
theorem r_bipush (hC : Cx Y G b K cc own nL ret k) {z : Int} {v : Int32} (d : decode cc pc = .ok (.bipush z, 2)) (hn : pc + 2 = n) (hv : (Int8.ofInt z).toInt32 = v) (h : V Y G K Z nL σ n lv (.int v :: rest)) : V Y G K Z nL σ pc lv (rest) := by
  subst hn
  exact fun H locs ls h1 h2 h3 => lv_bipush hC.1 hC.2.1 d hv (h H locs ls h1 h2 h3)
theorem r_sipush (hC : Cx Y G b K cc own nL ret k) {z : Int} {v : Int32} (d : decode cc pc = .ok (.sipush z, 3)) (hn : pc + 3 = n) (hv : (Int16.ofInt z).toInt32 = v) (h : V Y G K Z nL σ n lv (.int v :: rest)) : V Y G K Z nL σ pc lv (rest) := by
  subst hn
  exact fun H locs ls h1 h2 h3 => lv_sipush hC.1 hC.2.1 d hv (h H locs ls h1 h2 h3)
theorem r_lconst (hC : Cx Y G b K cc own nL ret k) {z : Fin 2} {v : Int64} (d : decode cc pc = .ok (.lconst z, 1)) (hn : pc + 1 = n) (hv : Int64.ofNat (z : Nat) = v) (h : V Y G K Z nL σ n lv (.long v :: rest)) : V Y G K Z nL σ pc lv (rest) := by
  subst hn
  exact fun H locs ls h1 h2 h3 => lv_lconst hC.1 hC.2.1 d hv (h H locs ls h1 h2 h3)
theorem r_ldc (hC : Cx Y G b K cc own nL ret k) {z : Nat} {v : Int32} (d : decode cc pc = .ok (.ldc z, 2)) (hn : pc + 2 = n) (hw : Cond.constant own z v ∈ TB) (h : V Y G K Z nL σ n lv (.int v :: rest)) : V Y G K Z nL σ pc lv (rest) := by
  subst hn
  exact fun H locs ls h1 h2 h3 => lv_ldc hC.1 hC.2.1 hC.2.2.2.2.1 (hC.2.2.2.2.2.1 _ hw) d (h H locs ls h1 h2 h3)
theorem r_ldcw (hC : Cx Y G b K cc own nL ret k) {z : Nat} {v : Int32} (d : decode cc pc = .ok (.ldc_w z, 3)) (hn : pc + 3 = n) (hw : Cond.constant own z v ∈ TB) (h : V Y G K Z nL σ n lv (.int v :: rest)) : V Y G K Z nL σ pc lv (rest) := by
  subst hn
  exact fun H locs ls h1 h2 h3 => lv_ldcw hC.1 hC.2.1 hC.2.2.2.2.1 (hC.2.2.2.2.2.1 _ hw) d (h H locs ls h1 h2 h3)
theorem r_ldc2 (hC : Cx Y G b K cc own nL ret k) {z : Nat} {v : Int64} (d : decode cc pc = .ok (.ldc2_w z, 3)) (hn : pc + 3 = n) (hw : Cond.constantLong own z v ∈ TB) (h : V Y G K Z nL σ n lv (.long v :: rest)) : V Y G K Z nL σ pc lv (rest) := by
  subst hn
  exact fun H locs ls h1 h2 h3 => lv_ldc2 hC.1 hC.2.1 hC.2.2.2.2.1 (hC.2.2.2.2.2.1 _ hw) d (h H locs ls h1 h2 h3)
theorem r_null (hC : Cx Y G b K cc own nL ret k)  (d : decode cc pc = .ok (.aconst_null, 1)) (hn : pc + 1 = n)  (h : V Y G K Z nL σ n lv (rv G none :: rest)) : V Y G K Z nL σ pc lv (rest) := by
  subst hn
  exact fun H locs ls h1 h2 h3 => lv_null hC.1 hC.2.1 d (h H locs ls h1 h2 h3)
theorem r_iload_n (hC : Cx Y G b K cc own nL ret k) {q : Fin 4} (j : Nat) {i : Nat} {x : Int32} (d : decode cc pc = .ok (.iload_n q, 1)) (hn : pc + 1 = n) (hi : (q : Nat) = i) (hl : lv[j]? = some (i, .int x)) (h : V Y G K Z nL σ n lv (.int x :: rest)) : V Y G K Z nL σ pc lv (rest) := by
  subst hn
  exact fun H locs ls h1 h2 h3 => lv_iload_n hC.1 hC.2.1 d hi (lv_at h3 j hl) (h H locs ls h1 h2 h3)
theorem r_iload (hC : Cx Y G b K cc own nL ret k) (j : Nat) {i : Nat} {x : Int32} (d : decode cc pc = .ok (.iload i, 2)) (hn : pc + 2 = n) (hl : lv[j]? = some (i, .int x)) (h : V Y G K Z nL σ n lv (.int x :: rest)) : V Y G K Z nL σ pc lv (rest) := by
  subst hn
  exact fun H locs ls h1 h2 h3 => lv_iload hC.1 hC.2.1 d (lv_at h3 j hl) (h H locs ls h1 h2 h3)
theorem r_lload_n (hC : Cx Y G b K cc own nL ret k) {q : Fin 4} (j : Nat) {i : Nat} {x : Int64} (d : decode cc pc = .ok (.lload_n q, 1)) (hn : pc + 1 = n) (hi : (q : Nat) = i) (hl : lv[j]? = some (i, .long x)) (h : V Y G K Z nL σ n lv (.long x :: rest)) : V Y G K Z nL σ pc lv (rest) := by
  subst hn
  exact fun H locs ls h1 h2 h3 => lv_lload_n hC.1 hC.2.1 d hi (lv_at h3 j hl) (h H locs ls h1 h2 h3)
theorem r_lload (hC : Cx Y G b K cc own nL ret k) (j : Nat) {i : Nat} {x : Int64} (d : decode cc pc = .ok (.lload i, 2)) (hn : pc + 2 = n) (hl : lv[j]? = some (i, .long x)) (h : V Y G K Z nL σ n lv (.long x :: rest)) : V Y G K Z nL σ pc lv (rest) := by
  subst hn
  exact fun H locs ls h1 h2 h3 => lv_lload hC.1 hC.2.1 d (lv_at h3 j hl) (h H locs ls h1 h2 h3)
theorem r_aload_n (hC : Cx Y G b K cc own nL ret k) {q : Fin 4} (j : Nat) {i : Nat} {x : Nat} (d : decode cc pc = .ok (.aload_n q, 1)) (hn : pc + 1 = n) (hi : (q : Nat) = i) (hl : lv[j]? = some (i, .ref x)) (h : V Y G K Z nL σ n lv (.ref x :: rest)) : V Y G K Z nL σ pc lv (rest) := by
  subst hn
  exact fun H locs ls h1 h2 h3 => lv_aload_n hC.1 hC.2.1 d hi (lv_at h3 j hl) (h H locs ls h1 h2 h3)
theorem r_aload (hC : Cx Y G b K cc own nL ret k) (j : Nat) {i : Nat} {x : Nat} (d : decode cc pc = .ok (.aload i, 2)) (hn : pc + 2 = n) (hl : lv[j]? = some (i, .ref x)) (h : V Y G K Z nL σ n lv (.ref x :: rest)) : V Y G K Z nL σ pc lv (rest) := by
  subst hn
  exact fun H locs ls h1 h2 h3 => lv_aload hC.1 hC.2.1 d (lv_at h3 j hl) (h H locs ls h1 h2 h3)
theorem r_aload_nQ (hC : Cx Y G b K cc own nL ret k) {q : Fin 4} (j : Nat) {i : Nat} {x : Option Nat} (d : decode cc pc = .ok (.aload_n q, 1)) (hn : pc + 1 = n) (hi : (q : Nat) = i) (hl : lv[j]? = some (i, rv G x)) (h : V Y G K Z nL σ n lv (rv G x :: rest)) : V Y G K Z nL σ pc lv rest := by
  subst hn
  cases x with
  | none => exact fun H locs ls h1 h2 h3 => lv_aload_nN hC.1 hC.2.1 d hi (lv_at h3 j hl) (h H locs ls h1 h2 h3)
  | some x => exact fun H locs ls h1 h2 h3 => lv_aload_n hC.1 hC.2.1 d hi (lv_at h3 j hl) (h H locs ls h1 h2 h3)
theorem r_aloadQ (hC : Cx Y G b K cc own nL ret k) (j : Nat) {i : Nat} {x : Option Nat} (d : decode cc pc = .ok (.aload i, 2)) (hn : pc + 2 = n) (hl : lv[j]? = some (i, rv G x)) (h : V Y G K Z nL σ n lv (rv G x :: rest)) : V Y G K Z nL σ pc lv rest := by
  subst hn
  cases x with
  | none => exact fun H locs ls h1 h2 h3 => lv_aloadN hC.1 hC.2.1 d (lv_at h3 j hl) (h H locs ls h1 h2 h3)
  | some x => exact fun H locs ls h1 h2 h3 => lv_aload hC.1 hC.2.1 d (lv_at h3 j hl) (h H locs ls h1 h2 h3)
theorem r_istore_n (hC : Cx Y G b K cc own nL ret k) {q : Fin 4} {i : Nat} {x : Int32} (d : decode cc pc = .ok (.istore_n q, 1)) (hn : pc + 1 = n) (hi : (q : Nat) = i) (hl : i < nL) {x2 : Int32} (hx : x2 = x) (he : (i, Value.int x2) :: lv.filter (fun q => !(q.1 == i) && !(q.1 + 1 == i && q.2.category == 2)) = lv2) (h : V Y G K Z nL σ n lv2 rest) : V Y G K Z nL σ pc lv (.int x :: rest) := by
  subst hn; subst hx
  exact fun H locs ls h1 h2 h3 => lv_istore_n hC.1 hC.2.1 d hi h3 hl he (fun ls h3 => h H locs ls h1 h2 h3)
theorem r_istore (hC : Cx Y G b K cc own nL ret k) {i : Nat} {x : Int32} (d : decode cc pc = .ok (.istore i, 2)) (hn : pc + 2 = n)  (hl : i < nL) {x2 : Int32} (hx : x2 = x) (he : (i, Value.int x2) :: lv.filter (fun q => !(q.1 == i) && !(q.1 + 1 == i && q.2.category == 2)) = lv2) (h : V Y G K Z nL σ n lv2 rest) : V Y G K Z nL σ pc lv (.int x :: rest) := by
  subst hn; subst hx
  exact fun H locs ls h1 h2 h3 => lv_istore hC.1 hC.2.1 d h3 hl he (fun ls h3 => h H locs ls h1 h2 h3)
theorem r_lstore_n (hC : Cx Y G b K cc own nL ret k) {q : Fin 4} {i : Nat} {x : Int64} (d : decode cc pc = .ok (.lstore_n q, 1)) (hn : pc + 1 = n) (hi : (q : Nat) = i) (hl : i + 1 < nL) {x2 : Int64} (hx : x2 = x) (he : (i, Value.long x2) :: lv.filter (fun q => !(q.1 == i) && (!(q.1 == i + 1) && !(q.1 + 1 == i && q.2.category == 2))) = lv2) (h : V Y G K Z nL σ n lv2 rest) : V Y G K Z nL σ pc lv (.long x :: rest) := by
  subst hn; subst hx
  exact fun H locs ls h1 h2 h3 => lv_lstore_n hC.1 hC.2.1 d hi h3 hl he (fun ls h3 => h H locs ls h1 h2 h3)
theorem r_lstore (hC : Cx Y G b K cc own nL ret k) {i : Nat} {x : Int64} (d : decode cc pc = .ok (.lstore i, 2)) (hn : pc + 2 = n)  (hl : i + 1 < nL) {x2 : Int64} (hx : x2 = x) (he : (i, Value.long x2) :: lv.filter (fun q => !(q.1 == i) && (!(q.1 == i + 1) && !(q.1 + 1 == i && q.2.category == 2))) = lv2) (h : V Y G K Z nL σ n lv2 rest) : V Y G K Z nL σ pc lv (.long x :: rest) := by
  subst hn; subst hx
  exact fun H locs ls h1 h2 h3 => lv_lstore hC.1 hC.2.1 d h3 hl he (fun ls h3 => h H locs ls h1 h2 h3)
theorem r_astore_n (hC : Cx Y G b K cc own nL ret k) {q : Fin 4} {i : Nat} {x : Nat} (d : decode cc pc = .ok (.astore_n q, 1)) (hn : pc + 1 = n) (hi : (q : Nat) = i) (hl : i < nL) {x2 : Nat} (hx : x2 = x) (he : (i, Value.ref x2) :: lv.filter (fun q => !(q.1 == i) && !(q.1 + 1 == i && q.2.category == 2)) = lv2) (h : V Y G K Z nL σ n lv2 rest) : V Y G K Z nL σ pc lv (.ref x :: rest) := by
  subst hn; subst hx
  exact fun H locs ls h1 h2 h3 => lv_astore_n hC.1 hC.2.1 d hi h3 hl he (fun ls h3 => h H locs ls h1 h2 h3)
theorem r_astore (hC : Cx Y G b K cc own nL ret k) {i : Nat} {x : Nat} (d : decode cc pc = .ok (.astore i, 2)) (hn : pc + 2 = n)  (hl : i < nL) {x2 : Nat} (hx : x2 = x) (he : (i, Value.ref x2) :: lv.filter (fun q => !(q.1 == i) && !(q.1 + 1 == i && q.2.category == 2)) = lv2) (h : V Y G K Z nL σ n lv2 rest) : V Y G K Z nL σ pc lv (.ref x :: rest) := by
  subst hn; subst hx
  exact fun H locs ls h1 h2 h3 => lv_astore hC.1 hC.2.1 d h3 hl he (fun ls h3 => h H locs ls h1 h2 h3)
theorem r_astore_nQ (hC : Cx Y G b K cc own nL ret k) {q : Fin 4} {i : Nat} {x : Option Nat} (d : decode cc pc = .ok (.astore_n q, 1)) (hn : pc + 1 = n) (hi : (q : Nat) = i) (hl : i < nL) (he : (i, rv G x) :: lv.filter (fun q => !(q.1 == i) && !(q.1 + 1 == i && q.2.category == 2)) = lv2) (h : V Y G K Z nL σ n lv2 rest) : V Y G K Z nL σ pc lv (rv G x :: rest) := by
  subst hn
  cases x with
  | none => exact fun H locs ls h1 h2 h3 => lv_astore_nN hC.1 hC.2.1 d hi h3 hl he (fun ls h3 => h H locs ls h1 h2 h3)
  | some x => exact fun H locs ls h1 h2 h3 => lv_astore_n hC.1 hC.2.1 d hi h3 hl he (fun ls h3 => h H locs ls h1 h2 h3)
theorem r_astoreQ (hC : Cx Y G b K cc own nL ret k) {i : Nat} {x : Option Nat} (d : decode cc pc = .ok (.astore i, 2)) (hn : pc + 2 = n)  (hl : i < nL) (he : (i, rv G x) :: lv.filter (fun q => !(q.1 == i) && !(q.1 + 1 == i && q.2.category == 2)) = lv2) (h : V Y G K Z nL σ n lv2 rest) : V Y G K Z nL σ pc lv (rv G x :: rest) := by
  subst hn
  cases x with
  | none => exact fun H locs ls h1 h2 h3 => lv_astoreN hC.1 hC.2.1 d h3 hl he (fun ls h3 => h H locs ls h1 h2 h3)
  | some x => exact fun H locs ls h1 h2 h3 => lv_astore hC.1 hC.2.1 d h3 hl he (fun ls h3 => h H locs ls h1 h2 h3)
theorem r_iinc (hC : Cx Y G b K cc own nL ret k) {i j : Nat} {z : Int} {x v zz : Int32} (d : decode cc pc = .ok (.iinc i z, 3)) (hn : pc + 3 = n) (hj : lv[j]? = some (i, .int x)) (hz : Int32.ofInt z = zz) (hv : v = x + zz) (hl : i < nL) (he : (i, Value.int v) :: lv.filter (fun q => !(q.1 == i) && !(q.1 + 1 == i && q.2.category == 2)) = lv2) (h : V Y G K Z nL σ n lv2 rest) : V Y G K Z nL σ pc lv rest := by
  subst hn
  exact fun H locs ls h1 h2 h3 => lv_iinc hC.1 hC.2.1 d h3 hj (by rw [hz, hv]) hl he (fun ls h3 => h H locs ls h1 h2 h3)
theorem r_iadd (hC : Cx Y G b K cc own nL ret k) {x y : Int32} (d : decode cc pc = .ok (.iadd, 1)) (hn : pc + 1 = n)  (h : V Y G K Z nL σ n lv (.int (x + y) :: rest)) : V Y G K Z nL σ pc lv (.int y :: .int x :: rest) := by
  subst hn
  exact fun H locs ls h1 h2 h3 => lv_iadd hC.1 hC.2.1 d (h H locs ls h1 h2 h3)
theorem r_isub (hC : Cx Y G b K cc own nL ret k) {x y : Int32} (d : decode cc pc = .ok (.isub, 1)) (hn : pc + 1 = n)  (h : V Y G K Z nL σ n lv (.int (x - y) :: rest)) : V Y G K Z nL σ pc lv (.int y :: .int x :: rest) := by
  subst hn
  exact fun H locs ls h1 h2 h3 => lv_isub hC.1 hC.2.1 d (h H locs ls h1 h2 h3)
theorem r_imul (hC : Cx Y G b K cc own nL ret k) {x y : Int32} (d : decode cc pc = .ok (.imul, 1)) (hn : pc + 1 = n)  (h : V Y G K Z nL σ n lv (.int (x * y) :: rest)) : V Y G K Z nL σ pc lv (.int y :: .int x :: rest) := by
  subst hn
  exact fun H locs ls h1 h2 h3 => lv_imul hC.1 hC.2.1 d (h H locs ls h1 h2 h3)
theorem r_iand (hC : Cx Y G b K cc own nL ret k) {x y : Int32} (d : decode cc pc = .ok (.iand, 1)) (hn : pc + 1 = n)  (h : V Y G K Z nL σ n lv (.int (x &&& y) :: rest)) : V Y G K Z nL σ pc lv (.int y :: .int x :: rest) := by
  subst hn
  exact fun H locs ls h1 h2 h3 => lv_iand hC.1 hC.2.1 d (h H locs ls h1 h2 h3)
theorem r_ior (hC : Cx Y G b K cc own nL ret k) {x y : Int32} (d : decode cc pc = .ok (.ior, 1)) (hn : pc + 1 = n)  (h : V Y G K Z nL σ n lv (.int (x ||| y) :: rest)) : V Y G K Z nL σ pc lv (.int y :: .int x :: rest) := by
  subst hn
  exact fun H locs ls h1 h2 h3 => lv_ior hC.1 hC.2.1 d (h H locs ls h1 h2 h3)
theorem r_ixor (hC : Cx Y G b K cc own nL ret k) {x y : Int32} (d : decode cc pc = .ok (.ixor, 1)) (hn : pc + 1 = n)  (h : V Y G K Z nL σ n lv (.int (x ^^^ y) :: rest)) : V Y G K Z nL σ pc lv (.int y :: .int x :: rest) := by
  subst hn
  exact fun H locs ls h1 h2 h3 => lv_ixor hC.1 hC.2.1 d (h H locs ls h1 h2 h3)
theorem r_ishl (hC : Cx Y G b K cc own nL ret k) {x y : Int32} (d : decode cc pc = .ok (.ishl, 1)) (hn : pc + 1 = n)  (h : V Y G K Z nL σ n lv (.int (x <<< (y &&& 31)) :: rest)) : V Y G K Z nL σ pc lv (.int y :: .int x :: rest) := by
  subst hn
  exact fun H locs ls h1 h2 h3 => lv_ishl hC.1 hC.2.1 d (h H locs ls h1 h2 h3)
theorem r_ladd (hC : Cx Y G b K cc own nL ret k) {x y : Int64} (d : decode cc pc = .ok (.ladd, 1)) (hn : pc + 1 = n)  (h : V Y G K Z nL σ n lv (.long (x + y) :: rest)) : V Y G K Z nL σ pc lv (.long y :: .long x :: rest) := by
  subst hn
  exact fun H locs ls h1 h2 h3 => lv_ladd hC.1 hC.2.1 d (h H locs ls h1 h2 h3)
theorem r_lsub (hC : Cx Y G b K cc own nL ret k) {x y : Int64} (d : decode cc pc = .ok (.lsub, 1)) (hn : pc + 1 = n)  (h : V Y G K Z nL σ n lv (.long (x - y) :: rest)) : V Y G K Z nL σ pc lv (.long y :: .long x :: rest) := by
  subst hn
  exact fun H locs ls h1 h2 h3 => lv_lsub hC.1 hC.2.1 d (h H locs ls h1 h2 h3)
theorem r_lmul (hC : Cx Y G b K cc own nL ret k) {x y : Int64} (d : decode cc pc = .ok (.lmul, 1)) (hn : pc + 1 = n)  (h : V Y G K Z nL σ n lv (.long (x * y) :: rest)) : V Y G K Z nL σ pc lv (.long y :: .long x :: rest) := by
  subst hn
  exact fun H locs ls h1 h2 h3 => lv_lmul hC.1 hC.2.1 d (h H locs ls h1 h2 h3)
theorem r_land (hC : Cx Y G b K cc own nL ret k) {x y : Int64} (d : decode cc pc = .ok (.land, 1)) (hn : pc + 1 = n)  (h : V Y G K Z nL σ n lv (.long (x &&& y) :: rest)) : V Y G K Z nL σ pc lv (.long y :: .long x :: rest) := by
  subst hn
  exact fun H locs ls h1 h2 h3 => lv_land hC.1 hC.2.1 d (h H locs ls h1 h2 h3)
theorem r_lor (hC : Cx Y G b K cc own nL ret k) {x y : Int64} (d : decode cc pc = .ok (.lor, 1)) (hn : pc + 1 = n)  (h : V Y G K Z nL σ n lv (.long (x ||| y) :: rest)) : V Y G K Z nL σ pc lv (.long y :: .long x :: rest) := by
  subst hn
  exact fun H locs ls h1 h2 h3 => lv_lor hC.1 hC.2.1 d (h H locs ls h1 h2 h3)
theorem r_idiv (hC : Cx Y G b K cc own nL ret k) {x y : Int32} (d : decode cc pc = .ok (.idiv, 1)) (hn : pc + 1 = n) (hne : ¬ y = 0) (h : V Y G K Z nL σ n lv (.int (x / y) :: rest)) : V Y G K Z nL σ pc lv (.int y :: .int x :: rest) := by
  subst hn
  exact fun H locs ls h1 h2 h3 => lv_idiv hC.1 hC.2.1 d hne (h H locs ls h1 h2 h3)
theorem r_ldiv (hC : Cx Y G b K cc own nL ret k) {x y : Int64} (d : decode cc pc = .ok (.ldiv, 1)) (hn : pc + 1 = n) (hne : ¬ y = 0) (h : V Y G K Z nL σ n lv (.long (x / y) :: rest)) : V Y G K Z nL σ pc lv (.long y :: .long x :: rest) := by
  subst hn
  exact fun H locs ls h1 h2 h3 => lv_ldiv hC.1 hC.2.1 d hne (h H locs ls h1 h2 h3)
theorem r_lrem (hC : Cx Y G b K cc own nL ret k) {x y : Int64} (d : decode cc pc = .ok (.lrem, 1)) (hn : pc + 1 = n) (hne : ¬ y = 0) (h : V Y G K Z nL σ n lv (.long (x - x / y * y) :: rest)) : V Y G K Z nL σ pc lv (.long y :: .long x :: rest) := by
  subst hn
  exact fun H locs ls h1 h2 h3 => lv_lrem hC.1 hC.2.1 d hne (h H locs ls h1 h2 h3)
theorem r_ineg (hC : Cx Y G b K cc own nL ret k) {x : Int32} (d : decode cc pc = .ok (.ineg, 1)) (hn : pc + 1 = n)  (h : V Y G K Z nL σ n lv (.int (-x) :: rest)) : V Y G K Z nL σ pc lv (.int x :: rest) := by
  subst hn
  exact fun H locs ls h1 h2 h3 => lv_ineg hC.1 hC.2.1 d (h H locs ls h1 h2 h3)
theorem r_lshl (hC : Cx Y G b K cc own nL ret k) {x : Int64} {y : Int32} (d : decode cc pc = .ok (.lshl, 1)) (hn : pc + 1 = n)  (h : V Y G K Z nL σ n lv (.long (x <<< (y.toInt64 &&& 63)) :: rest)) : V Y G K Z nL σ pc lv (.int y :: .long x :: rest) := by
  subst hn
  exact fun H locs ls h1 h2 h3 => lv_lshl hC.1 hC.2.1 d rfl (h H locs ls h1 h2 h3)
theorem r_i2l (hC : Cx Y G b K cc own nL ret k) {x : Int32} (d : decode cc pc = .ok (.i2l, 1)) (hn : pc + 1 = n)  (h : V Y G K Z nL σ n lv (.long x.toInt64 :: rest)) : V Y G K Z nL σ pc lv (.int x :: rest) := by
  subst hn
  exact fun H locs ls h1 h2 h3 => lv_i2l hC.1 hC.2.1 d rfl (h H locs ls h1 h2 h3)
theorem r_l2i (hC : Cx Y G b K cc own nL ret k) {x : Int64} (d : decode cc pc = .ok (.l2i, 1)) (hn : pc + 1 = n)  (h : V Y G K Z nL σ n lv (.int x.toInt32 :: rest)) : V Y G K Z nL σ pc lv (.long x :: rest) := by
  subst hn
  exact fun H locs ls h1 h2 h3 => lv_l2i hC.1 hC.2.1 d rfl (h H locs ls h1 h2 h3)
theorem r_i2s (hC : Cx Y G b K cc own nL ret k) {x : Int32} (d : decode cc pc = .ok (.i2s, 1)) (hn : pc + 1 = n)  (h : V Y G K Z nL σ n lv (.int x.toInt16.toInt32 :: rest)) : V Y G K Z nL σ pc lv (.int x :: rest) := by
  subst hn
  exact fun H locs ls h1 h2 h3 => lv_i2s hC.1 hC.2.1 d rfl (h H locs ls h1 h2 h3)
theorem r_lcmp (hC : Cx Y G b K cc own nL ret k) {x y : Int64} (d : decode cc pc = .ok (.lcmp, 1)) (hn : pc + 1 = n)  (h : V Y G K Z nL σ n lv (.int (lg_cmp x y) :: rest)) : V Y G K Z nL σ pc lv (.long y :: .long x :: rest) := by
  subst hn
  exact fun H locs ls h1 h2 h3 => W.lcmp hC.1 hC.2.1 d (h H locs ls h1 h2 h3)
theorem r_dup (hC : Cx Y G b K cc own nL ret k) {x : Value} (d : decode cc pc = .ok (.dup, 1)) (hn : pc + 1 = n) (hc : x.category = 1) (h : V Y G K Z nL σ n lv (x :: x :: rest)) : V Y G K Z nL σ pc lv (x :: rest) := by
  subst hn
  exact fun H locs ls h1 h2 h3 => lv_dup hC.1 hC.2.1 d hc (h H locs ls h1 h2 h3)
theorem r_pop (hC : Cx Y G b K cc own nL ret k) {x : Value} (d : decode cc pc = .ok (.pop, 1)) (hn : pc + 1 = n) (hc : x.category = 1) (h : V Y G K Z nL σ n lv (rest)) : V Y G K Z nL σ pc lv (x :: rest) := by
  subst hn
  exact fun H locs ls h1 h2 h3 => lv_pop hC.1 hC.2.1 d hc (h H locs ls h1 h2 h3)
theorem r_dup2 (hC : Cx Y G b K cc own nL ret k) {x y : Value} (d : decode cc pc = .ok (.dup2, 1)) (hn : pc + 1 = n) (hc : x.category = 1) (hc2 : y.category = 1) (h : V Y G K Z nL σ n lv (x :: y :: x :: y :: rest)) : V Y G K Z nL σ pc lv (x :: y :: rest) := by
  subst hn
  exact fun H locs ls h1 h2 h3 => lv_dup2_11 hC.1 hC.2.1 d hc hc2 (h H locs ls h1 h2 h3)
theorem r_dup2L (hC : Cx Y G b K cc own nL ret k) {x : Value} (d : decode cc pc = .ok (.dup2, 1)) (hn : pc + 1 = n) (hc : x.category = 2) (h : V Y G K Z nL σ n lv (x :: x :: rest)) : V Y G K Z nL σ pc lv (x :: rest) := by
  subst hn
  exact fun H locs ls h1 h2 h3 => lv_dup2_2 hC.1 hC.2.1 d hc (h H locs ls h1 h2 h3)
theorem r_if_eq (hC : Cx Y G b K cc own nL ret k) {x : Int32} {off : Int} {tgt : Nat} (d : decode cc pc = .ok (.ifCond .eq off, 3)) (hn : pc + 3 = n) (ht : (pc : Int) + off = (tgt : Int)) (a : x = 0 → V Y G K Z nL σ tgt lv rest) (h : ¬ x = 0 → V Y G K Z nL σ n lv rest) : V Y G K Z nL σ pc lv (.int x :: rest) := by
  subst hn
  exact fun H locs ls h1 h2 h3 => lv_if_eq hC.1 hC.2.1 d ht (fun q => a q H locs ls h1 h2 h3) (fun q => h q H locs ls h1 h2 h3)
theorem r_if_ne (hC : Cx Y G b K cc own nL ret k) {x : Int32} {off : Int} {tgt : Nat} (d : decode cc pc = .ok (.ifCond .ne off, 3)) (hn : pc + 3 = n) (ht : (pc : Int) + off = (tgt : Int)) (a : ¬ x = 0 → V Y G K Z nL σ tgt lv rest) (h : x = 0 → V Y G K Z nL σ n lv rest) : V Y G K Z nL σ pc lv (.int x :: rest) := by
  subst hn
  exact fun H locs ls h1 h2 h3 => lv_if_ne hC.1 hC.2.1 d ht (fun q => a q H locs ls h1 h2 h3) (fun q => h q H locs ls h1 h2 h3)
theorem r_if_lt (hC : Cx Y G b K cc own nL ret k) {x : Int32} {off : Int} {tgt : Nat} (d : decode cc pc = .ok (.ifCond .lt off, 3)) (hn : pc + 3 = n) (ht : (pc : Int) + off = (tgt : Int)) (a : x < 0 → V Y G K Z nL σ tgt lv rest) (h : ¬ x < 0 → V Y G K Z nL σ n lv rest) : V Y G K Z nL σ pc lv (.int x :: rest) := by
  subst hn
  exact fun H locs ls h1 h2 h3 => lv_if_lt hC.1 hC.2.1 d ht (fun q => a q H locs ls h1 h2 h3) (fun q => h q H locs ls h1 h2 h3)
theorem r_if_ge (hC : Cx Y G b K cc own nL ret k) {x : Int32} {off : Int} {tgt : Nat} (d : decode cc pc = .ok (.ifCond .ge off, 3)) (hn : pc + 3 = n) (ht : (pc : Int) + off = (tgt : Int)) (a : 0 ≤ x → V Y G K Z nL σ tgt lv rest) (h : ¬ 0 ≤ x → V Y G K Z nL σ n lv rest) : V Y G K Z nL σ pc lv (.int x :: rest) := by
  subst hn
  exact fun H locs ls h1 h2 h3 => lv_if_ge hC.1 hC.2.1 d ht (fun q => a q H locs ls h1 h2 h3) (fun q => h q H locs ls h1 h2 h3)
theorem r_if_gt (hC : Cx Y G b K cc own nL ret k) {x : Int32} {off : Int} {tgt : Nat} (d : decode cc pc = .ok (.ifCond .gt off, 3)) (hn : pc + 3 = n) (ht : (pc : Int) + off = (tgt : Int)) (a : 0 < x → V Y G K Z nL σ tgt lv rest) (h : ¬ 0 < x → V Y G K Z nL σ n lv rest) : V Y G K Z nL σ pc lv (.int x :: rest) := by
  subst hn
  exact fun H locs ls h1 h2 h3 => lv_if_gt hC.1 hC.2.1 d ht (fun q => a q H locs ls h1 h2 h3) (fun q => h q H locs ls h1 h2 h3)
theorem r_if_le (hC : Cx Y G b K cc own nL ret k) {x : Int32} {off : Int} {tgt : Nat} (d : decode cc pc = .ok (.ifCond .le off, 3)) (hn : pc + 3 = n) (ht : (pc : Int) + off = (tgt : Int)) (a : x ≤ 0 → V Y G K Z nL σ tgt lv rest) (h : ¬ x ≤ 0 → V Y G K Z nL σ n lv rest) : V Y G K Z nL σ pc lv (.int x :: rest) := by
  subst hn
  exact fun H locs ls h1 h2 h3 => lv_if_le hC.1 hC.2.1 d ht (fun q => a q H locs ls h1 h2 h3) (fun q => h q H locs ls h1 h2 h3)
theorem r_icmp_eq (hC : Cx Y G b K cc own nL ret k) {x y : Int32} {off : Int} {tgt : Nat} (d : decode cc pc = .ok (.if_icmp .eq off, 3)) (hn : pc + 3 = n) (ht : (pc : Int) + off = (tgt : Int)) (a : x = y → V Y G K Z nL σ tgt lv rest) (h : ¬ x = y → V Y G K Z nL σ n lv rest) : V Y G K Z nL σ pc lv (.int y :: .int x :: rest) := by
  subst hn
  exact fun H locs ls h1 h2 h3 => lv_icmp_eq hC.1 hC.2.1 d ht (fun q => a q H locs ls h1 h2 h3) (fun q => h q H locs ls h1 h2 h3)
theorem r_icmp_ne (hC : Cx Y G b K cc own nL ret k) {x y : Int32} {off : Int} {tgt : Nat} (d : decode cc pc = .ok (.if_icmp .ne off, 3)) (hn : pc + 3 = n) (ht : (pc : Int) + off = (tgt : Int)) (a : ¬ x = y → V Y G K Z nL σ tgt lv rest) (h : x = y → V Y G K Z nL σ n lv rest) : V Y G K Z nL σ pc lv (.int y :: .int x :: rest) := by
  subst hn
  exact fun H locs ls h1 h2 h3 => lv_icmp_ne hC.1 hC.2.1 d ht (fun q => a q H locs ls h1 h2 h3) (fun q => h q H locs ls h1 h2 h3)
theorem r_icmp_lt (hC : Cx Y G b K cc own nL ret k) {x y : Int32} {off : Int} {tgt : Nat} (d : decode cc pc = .ok (.if_icmp .lt off, 3)) (hn : pc + 3 = n) (ht : (pc : Int) + off = (tgt : Int)) (a : x < y → V Y G K Z nL σ tgt lv rest) (h : ¬ x < y → V Y G K Z nL σ n lv rest) : V Y G K Z nL σ pc lv (.int y :: .int x :: rest) := by
  subst hn
  exact fun H locs ls h1 h2 h3 => lv_icmp_lt hC.1 hC.2.1 d ht (fun q => a q H locs ls h1 h2 h3) (fun q => h q H locs ls h1 h2 h3)
theorem r_icmp_ge (hC : Cx Y G b K cc own nL ret k) {x y : Int32} {off : Int} {tgt : Nat} (d : decode cc pc = .ok (.if_icmp .ge off, 3)) (hn : pc + 3 = n) (ht : (pc : Int) + off = (tgt : Int)) (a : y ≤ x → V Y G K Z nL σ tgt lv rest) (h : ¬ y ≤ x → V Y G K Z nL σ n lv rest) : V Y G K Z nL σ pc lv (.int y :: .int x :: rest) := by
  subst hn
  exact fun H locs ls h1 h2 h3 => lv_icmp_ge hC.1 hC.2.1 d ht (fun q => a q H locs ls h1 h2 h3) (fun q => h q H locs ls h1 h2 h3)
theorem r_icmp_gt (hC : Cx Y G b K cc own nL ret k) {x y : Int32} {off : Int} {tgt : Nat} (d : decode cc pc = .ok (.if_icmp .gt off, 3)) (hn : pc + 3 = n) (ht : (pc : Int) + off = (tgt : Int)) (a : y < x → V Y G K Z nL σ tgt lv rest) (h : ¬ y < x → V Y G K Z nL σ n lv rest) : V Y G K Z nL σ pc lv (.int y :: .int x :: rest) := by
  subst hn
  exact fun H locs ls h1 h2 h3 => lv_icmp_gt hC.1 hC.2.1 d ht (fun q => a q H locs ls h1 h2 h3) (fun q => h q H locs ls h1 h2 h3)
theorem r_icmp_le (hC : Cx Y G b K cc own nL ret k) {x y : Int32} {off : Int} {tgt : Nat} (d : decode cc pc = .ok (.if_icmp .le off, 3)) (hn : pc + 3 = n) (ht : (pc : Int) + off = (tgt : Int)) (a : x ≤ y → V Y G K Z nL σ tgt lv rest) (h : ¬ x ≤ y → V Y G K Z nL σ n lv rest) : V Y G K Z nL σ pc lv (.int y :: .int x :: rest) := by
  subst hn
  exact fun H locs ls h1 h2 h3 => lv_icmp_le hC.1 hC.2.1 d ht (fun q => a q H locs ls h1 h2 h3) (fun q => h q H locs ls h1 h2 h3)
theorem r_goto (hC : Cx Y G b K cc own nL ret k) {off : Int} {tgt : Nat} (d : decode cc pc = .ok (.goto off, 3)) (ht : (pc : Int) + off = (tgt : Int)) (h : V Y G K Z nL σ tgt lv rest) : V Y G K Z nL σ pc lv rest :=
  fun H locs ls h1 h2 h3 => lv_goto hC.1 hC.2.1 d ht (h H locs ls h1 h2 h3)
theorem r_ifnull (hC : Cx Y G b K cc own nL ret k) {x : Option Nat} {off : Int} {tgt : Nat} (d : decode cc pc = .ok (.ifnull off, 3)) (hn : pc + 3 = n) (ht : (pc : Int) + off = (tgt : Int)) (a : x = none → V Y G K Z nL σ tgt lv rest) (h : ∀ q, x = some q → V Y G K Z nL σ n lv rest) : V Y G K Z nL σ pc lv (rv G x :: rest) := by
  subst hn
  cases x with
  | none => exact fun H locs ls h1 h2 h3 => lv_ifnullN hC.1 hC.2.1 d ht (a rfl H locs ls h1 h2 h3)
  | some x => exact fun H locs ls h1 h2 h3 => lv_ifnull hC.1 hC.2.1 d (h x rfl H locs ls h1 h2 h3)
theorem r_ifnonnull (hC : Cx Y G b K cc own nL ret k) {x : Option Nat} {off : Int} {tgt : Nat} (d : decode cc pc = .ok (.ifnonnull off, 3)) (hn : pc + 3 = n) (ht : (pc : Int) + off = (tgt : Int)) (a : ∀ q, x = some q → V Y G K Z nL σ tgt lv rest) (h : x = none → V Y G K Z nL σ n lv rest) : V Y G K Z nL σ pc lv (rv G x :: rest) := by
  subst hn
  cases x with
  | none => exact fun H locs ls h1 h2 h3 => lv_ifnonnullN hC.1 hC.2.1 d (h rfl H locs ls h1 h2 h3)
  | some x => exact fun H locs ls h1 h2 h3 => lv_ifnonnull hC.1 hC.2.1 d ht (a x rfl H locs ls h1 h2 h3)
theorem r_swIn (hC : Cx Y G b K cc own nL ret k) {x : Int32} {dflt lo hi off : Int} {offs : Array Int} {len tgt : Nat} (d : decode cc pc = .ok (.tableswitch dflt lo hi offs, len)) (h1 : ¬ x.toInt < lo) (h2 : ¬ hi < x.toInt) (ho : offs[(x.toInt - lo).toNat]? = some off) (ht : (pc : Int) + off = (tgt : Int)) (h : V Y G K Z nL σ tgt lv rest) : V Y G K Z nL σ pc lv (.int x :: rest) :=
  fun H locs ls a1 a2 a3 => lv_tableIn hC.1 hC.2.1 d h1 h2 ho ht (h H locs ls a1 a2 a3)
theorem r_swOut (hC : Cx Y G b K cc own nL ret k) {x : Int32} {dflt lo hi : Int} {offs : Array Int} {len tgt : Nat} (d : decode cc pc = .ok (.tableswitch dflt lo hi offs, len)) (h1 : x.toInt < lo ∨ hi < x.toInt) (ht : (pc : Int) + dflt = (tgt : Int)) (h : V Y G K Z nL σ tgt lv rest) : V Y G K Z nL σ pc lv (.int x :: rest) :=
  fun H locs ls a1 a2 a3 => lv_tableOut hC.1 hC.2.1 d h1 ht (h H locs ls a1 a2 a3)
/-- a field's words: the class (number ci, of N fields), the field k, its row in the constant pool -/
def Fw (own : String) (idx ci : Nat) (C : String) (T : u_T) (N k c : Nat) : Prop := (∀ w ∈ u_ws C T N, w ∈ TB) ∧ vwCl[ci]? = some (C, T, N) ∧ k < N ∧ (Cond.fieldLink own idx C (T k).2.1 (T k).2.2.1 ∈ TB ∨ ∃ host, Cond.fieldLinkNest own idx C (T k).2.1 (T k).2.2.1 host ∈ NW) ∧ (T k).1 = C ∧ ci < 8 ∧ (tmF ci)[k]? = some c
theorem r_get (hC : Cx Y G b K cc own nL ret k) (i ci fk : Nat) {C : String} {T : u_T} {N c idx : Nat} (hF : Fw own idx ci C T N fk c) (hc : Y.2.1 i = ci) (d : decode cc pc = .ok (.getfield idx, 3)) (hn : pc + 3 = n) (h : V Y G K Z nL σ n lv (fv G σ i fk c :: rest)) : V Y G K Z nL σ pc lv (.ref (G.1 i) :: rest) := by
  subst hn
  obtain ⟨f1, f2, f3, f4, f5, f6, f7⟩ := hF
  obtain ⟨c1, c2, c3, c4, c5, c6, c7, c8, c9, c10⟩ := hC
  intro H locs ls h1 h2 h3
  have he := Hw_get (σ := σ) c9 (i := i) (by omega)
  rw [cC_obj hc f6] at he
  have hv : (fvs G σ i (tmF ci) 0)[fk]? = some (fv G σ i fk c) := by rw [fvs_get, f7]; simp
  rcases f4 with f4 | ⟨host, f4⟩
  · exact va_get c1 c2 c6 f1 c5 c7.1 h1 i he f2 fk f3 (c6 _ f4) (fun x q => by rw [f5] at q; exact q) hv d (h H locs ls h1 h2 h3)
  · exact va_getN c1 c2 c6 f1 c5 c7.1 h1 i he f2 fk f3 (va_Nw.use rfl (c7.2.1 _ f4)) (fun x q => by rw [f5] at q; exact q) hv d (h H locs ls h1 h2 h3)
theorem r_geti (hC : Cx Y G b K cc own nL ret k) (i ci fk : Nat) {C : String} {T : u_T} {N idx : Nat} (hF : Fw own idx ci C T N fk 0) (hc : Y.2.1 i = ci) (d : decode cc pc = .ok (.getfield idx, 3)) (hn : pc + 3 = n) (h : V Y G K Z nL σ n lv (.int (σ.1 i fk) :: rest)) : V Y G K Z nL σ pc lv (.ref (G.1 i) :: rest) := r_get hC i ci fk hF hc d hn h
theorem r_getd (hC : Cx Y G b K cc own nL ret k) (i ci fk : Nat) {C : String} {T : u_T} {N idx : Nat} (hF : Fw own idx ci C T N fk 1) (hc : Y.2.1 i = ci) (d : decode cc pc = .ok (.getfield idx, 3)) (hn : pc + 3 = n) (h : V Y G K Z nL σ n lv (.ref (G.1 (σ.2.2 i fk)) :: rest)) : V Y G K Z nL σ pc lv (.ref (G.1 i) :: rest) := r_get hC i ci fk hF hc d hn h
theorem r_getr (hC : Cx Y G b K cc own nL ret k) (i ci fk q : Nat) {C : String} {T : u_T} {N idx o : Nat} (hF : Fw own idx ci C T N fk (o + 2)) (hc : Y.2.1 i = ci) (hq : i + o = q) (d : decode cc pc = .ok (.getfield idx, 3)) (hn : pc + 3 = n) (h : V Y G K Z nL σ n lv (.ref (G.1 q) :: rest)) : V Y G K Z nL σ pc lv (.ref (G.1 i) :: rest) := by
  subst hq
  refine r_get hC i ci fk hF hc d hn ?_
  have e : fv G σ i fk (o + 2) = .ref (G.1 (i + o)) := by simp [fv]
  rw [e]
  exact h
theorem r_putG (hC : Cx Y G b K cc own nL ret k) (i ci fk : Nat) {C : String} {T : u_T} {N c idx : Nat} {v : Value} {ty : FieldType} {τ : Sg} (ty0 : Nat → FieldType) (hF : Fw own idx ci C T N fk c) (hc : Y.2.1 i = ci) (hty : ∀ k, k < N → parseFieldDescriptor (T k).2.2.1 = some (ty0 k)) (hnm : ∀ a, a < N → ∀ b, b < N → a ≠ b → (T a).2.1 ≠ (T b).2.1) (hfin : (T fk).2.2.2 = false) (hd : parseFieldDescriptor (T fk).2.2.1 = some ty) (hna : narrow ty v = v) (hfit : fits ty v = true)
    (hu : va_up (cC Y G σ) i (.inr (ci, (fvs G σ i (tmF ci) 0).set fk v)) = cC Y G τ) (d : decode cc pc = .ok (.putfield idx, 3)) (hn : pc + 3 = n) (h : V Y G K Z nL τ n lv rest) : V Y G K Z nL σ pc lv (v :: .ref (G.1 i) :: rest) := by
  subst hn
  obtain ⟨f1, f2, f3, f4, f5, f6, f7⟩ := hF
  obtain ⟨c1, c2, c3, c4, c5, c6, c7, c8, c9, c10⟩ := hC
  intro H locs ls h1 h2 h3
  have he := Hw_get (σ := σ) c9 (i := i) (by omega)
  rw [cC_obj hc f6] at he
  have hN : i < Y.1 := c9.1 i (by omega)
  have hl : fk < (fvs G σ i (tmF ci) 0).length := by rw [fvs_len]; exact (List.getElem?_eq_some_iff.mp f7).1
  have kk : ∀ (H1 : Heap) (locs1 : List Loc), va_P (G.2.1, G.2.2.1) vwCl ((wl G.1 Y.1 (cC Y G σ)).set i (G.1 i, .inr (ci, (fvs G σ i (tmF ci) 0).set fk v))) H1 → va_D (adA Y G) ((wl G.1 Y.1 (cC Y G σ)).set i (G.1 i, .inr (ci, (fvs G σ i (tmF ci) 0).set fk v))) → va_S (adA Y G) (kS K).heap H1 locs1 → W K.1 K.2.1 K.2.2.1 K.2.2.2.1 (kS K) (kM K) (kA K) (kB K) K.2.2.2.2.2.2.2.2.1 K.2.2.2.2.2.2.2.2.2 H1 locs1 0 0 Z (F0 (kM K) (pc + 3) ls rest) := by
    intro H1 locs1 q1 q2 q3
    rw [wl_set hN, hu] at q1
    exact h H1 locs1 ls q1 q3 h3
  rcases f4 with f4 | ⟨host, f4⟩
  · exact va_put c1 c2 c6 f1 ty0 hty hnm c5 c7.1 h1 (vaD Y G c9 _) h2 i he f2 fk f3 (c6 _ f4) (fun x q => by rw [f5] at q; exact q) hfin hd hna hfit hl d kk
  · exact va_putN c1 c2 c6 f1 ty0 hty hnm c5 c7.1 h1 (vaD Y G c9 _) h2 i he f2 fk f3 (va_Nw.use rfl (c7.2.1 _ f4)) (fun x q => by rw [f5] at q; exact q) hfin hd hna hfit hl d kk
/-- what a field that may be written needs -/
def Fp (ci fk : Nat) (C : String) (T : u_T) (N : Nat) (ty0 : Nat → FieldType) (ty : FieldType) : Prop := (∀ k, k < N → parseFieldDescriptor (T k).2.2.1 = some (ty0 k)) ∧ (∀ a, a < N → ∀ b, b < N → a ≠ b → (T a).2.1 ≠ (T b).2.1) ∧ (T fk).2.2.2 = false ∧ parseFieldDescriptor (T fk).2.2.1 = some ty
theorem r_puti (hC : Cx Y G b K cc own nL ret k) (i ci fk : Nat) {C : String} {T : u_T} {N idx : Nat} {v : Int32} {ty0 : Nat → FieldType} {τ : Sg} (hF : Fw own idx ci C T N fk 0) (hP : Fp ci fk C T N ty0 .int) (hc : Y.2.1 i = ci) (hτ : τ = sI σ i (upd (σ.1 i) fk v)) (d : decode cc pc = .ok (.putfield idx, 3)) (hn : pc + 3 = n) (h : V Y G K Z nL τ n lv rest) : V Y G K Z nL σ pc lv (.int v :: .ref (G.1 i) :: rest) := by
  subst hτ
  exact r_putG hC i ci fk ty0 hF hc hP.1 hP.2.1 hP.2.2.1 hP.2.2.2 rfl rfl (cC_put hc hF.2.2.2.2.2.1 hF.2.2.2.2.2.2) d hn h
theorem r_putz (hC : Cx Y G b K cc own nL ret k) (i ci fk : Nat) {C : String} {T : u_T} {N idx : Nat} {v : Int32} {ty0 : Nat → FieldType} {τ : Sg} (hF : Fw own idx ci C T N fk 0) (hP : Fp ci fk C T N ty0 .boolean) (hc : Y.2.1 i = ci) (hz : v = 0 ∨ v = 1) (hτ : τ = sI σ i (upd (σ.1 i) fk v)) (d : decode cc pc = .ok (.putfield idx, 3)) (hn : pc + 3 = n) (h : V Y G K Z nL τ n lv rest) : V Y G K Z nL σ pc lv (.int v :: .ref (G.1 i) :: rest) := by
  subst hτ
  exact r_putG hC i ci fk ty0 hF hc hP.1 hP.2.1 hP.2.2.1 hP.2.2.2 (by rcases hz with rfl | rfl <;> rfl) (by rcases hz with rfl | rfl <;> rfl) (cC_put hc hF.2.2.2.2.2.1 hF.2.2.2.2.2.2) d hn h
theorem r_putr (hC : Cx Y G b K cc own nL ret k) (i ci fk : Nat) {C D : String} {T : u_T} {N idx q : Nat} {ty0 : Nat → FieldType} {τ : Sg} (hF : Fw own idx ci C T N fk 1) (hP : Fp ci fk C T N ty0 (.object D)) (hc : Y.2.1 i = ci) (hτ : τ = sN σ i fk q) (d : decode cc pc = .ok (.putfield idx, 3)) (hn : pc + 3 = n) (h : V Y G K Z nL τ n lv rest) : V Y G K Z nL σ pc lv (.ref (G.1 q) :: .ref (G.1 i) :: rest) := by
  subst hτ
  exact r_putG hC i ci fk ty0 hF hc hP.1 hP.2.1 hP.2.2.1 hP.2.2.2 rfl rfl (cC_putN hc hF.2.2.2.2.2.1 hF.2.2.2.2.2.2) d hn h
theorem r_iald (hC : Cx Y G b K cc own nL ret k) (i : Nat) {x : Int32} (hc : Y.2.1 i = 8) (hin : vp_in x (Y.2.2.1 i)) (d : decode cc pc = .ok (.iaload, 1)) (hn : pc + 1 = n) (h : V Y G K Z nL σ n lv (.int (σ.1 i x.toNatClampNeg) :: rest)) : V Y G K Z nL σ pc lv (.int x :: .ref (G.1 i) :: rest) := by
  subst hn
  intro H locs ls h1 h2 h3
  have he := Hw_get (σ := σ) hC.2.2.2.2.2.2.2.2.1 (i := i) (by omega)
  rw [cC_i hc] at he
  exact va_iald hC.1 hC.2.1 hC.2.2.2.2.2.2.1.1 h1 i 0 he rfl hin d (h H locs ls h1 h2 h3)
theorem r_lald (hC : Cx Y G b K cc own nL ret k) (i : Nat) {x : Int32} (hc : Y.2.1 i = 9) (hin : vp_in x (Y.2.2.1 i)) (d : decode cc pc = .ok (.laload, 1)) (hn : pc + 1 = n) (h : V Y G K Z nL σ n lv (.long (σ.2.1 i x.toNatClampNeg) :: rest)) : V Y G K Z nL σ pc lv (.int x :: .ref (G.1 i) :: rest) := by
  subst hn
  intro H locs ls h1 h2 h3
  have he := Hw_get (σ := σ) hC.2.2.2.2.2.2.2.2.1 (i := i) (by omega)
  rw [cC_j hc] at he
  exact va_lald hC.1 hC.2.1 hC.2.2.2.2.2.2.1.1 h1 i 1 he rfl hin d (h H locs ls h1 h2 h3)
theorem r_aald (hC : Cx Y G b K cc own nL ret k) (i : Nat) {x : Int32} (hc : Y.2.1 i = 10 ∨ Y.2.1 i = 11) (hin : vp_in x (Y.2.2.1 i)) (d : decode cc pc = .ok (.aaload, 1)) (hn : pc + 1 = n) (h : V Y G K Z nL σ n lv (rv G (some (Y.2.2.2 i x.toNatClampNeg)) :: rest)) : V Y G K Z nL σ pc lv (.int x :: .ref (G.1 i) :: rest) := by
  subst hn
  intro H locs ls h1 h2 h3
  have he := Hw_get (σ := σ) hC.2.2.2.2.2.2.2.2.1 (i := i) (by omega)
  rcases hc with hc | hc
  · rw [cC_m hc] at he
    exact va_aldq hC.1 hC.2.1 hC.2.2.2.2.2.2.1.1 h1 i 2 he rfl hin d (h H locs ls h1 h2 h3)
  · rw [cC_t hc] at he
    exact va_aldq hC.1 hC.2.1 hC.2.2.2.2.2.2.1.1 h1 i 3 he rfl hin d (h H locs ls h1 h2 h3)
theorem r_iast (hC : Cx Y G b K cc own nL ret k) (i : Nat) {x v : Int32} {τ : Sg} (hc : Y.2.1 i = 8) (hin : vp_in x (Y.2.2.1 i)) (hτ : τ = sI σ i (upd (σ.1 i) x.toNatClampNeg v)) (d : decode cc pc = .ok (.iastore, 1)) (hn : pc + 1 = n) (h : V Y G K Z nL τ n lv rest) : V Y G K Z nL σ pc lv (.int v :: .int x :: .ref (G.1 i) :: rest) := by
  subst hn; subst hτ
  intro H locs ls h1 h2 h3
  have c9 := hC.2.2.2.2.2.2.2.2.1
  have he := Hw_get (σ := σ) c9 (i := i) (by omega)
  have hN : i < Y.1 := c9.1 i (by omega)
  rw [cC_i hc] at he
  refine va_iast hC.1 hC.2.1 hC.2.2.2.2.2.2.1.1 h1 (vaD Y G c9 _) h2 i 0 he rfl hin d (fun H1 locs1 q1 q2 q3 => ?_)
  rw [wl_set hN] at q1
  first
  | exact h H1 locs1 ls (by rw [← cC_sI hc]; exact q1) q3 h3
  | exact h H1 locs1 ls (by unfold Hw; rw [← cC_sI hc]; exact q1) q3 h3
theorem r_last (hC : Cx Y G b K cc own nL ret k) (i : Nat) {x : Int32} {v : Int64} {τ : Sg} (hc : Y.2.1 i = 9) (hin : vp_in x (Y.2.2.1 i)) (hτ : τ = sJ σ i (vp_updL (σ.2.1 i) x.toNatClampNeg v)) (d : decode cc pc = .ok (.lastore, 1)) (hn : pc + 1 = n) (h : V Y G K Z nL τ n lv rest) : V Y G K Z nL σ pc lv (.long v :: .int x :: .ref (G.1 i) :: rest) := by
  subst hn; subst hτ
  intro H locs ls h1 h2 h3
  have c9 := hC.2.2.2.2.2.2.2.2.1
  have he := Hw_get (σ := σ) c9 (i := i) (by omega)
  have hN : i < Y.1 := c9.1 i (by omega)
  rw [cC_j hc] at he
  refine va_last hC.1 hC.2.1 hC.2.2.2.2.2.2.1.1 h1 (vaD Y G c9 _) h2 i 1 he rfl hin d (fun H1 locs1 q1 q2 q3 => ?_)
  rw [wl_set hN] at q1
  exact h H1 locs1 ls (by unfold Hw; rw [← cC_sJ hc]; exact q1) q3 h3
/-- the static row of how many parts a kind has -/
theorem r_gets (hC : Cx Y G b K cc own nL ret k) {idx : Nat} (hw : Cond.fieldLink own idx "MakersBench" "PARTS" "[I" ∈ TB) (d : decode cc pc = .ok (.getstatic idx, 3)) (hn : pc + 3 = n) (h : V Y G K Z nL σ n lv (.ref b :: rest)) : V Y G K Z nL σ pc lv rest := by
  subst hn
  exact fun H locs ls h1 h2 h3 => va_gets hC.1 hC.2.1 hC.2.2.2.2.2.2.1.2.2.1 h2 hC.2.2.2.2.1 (hC.2.2.2.2.2.1 _ hw) (fun _ q => q) d (h H locs ls h1 h2 h3)
theorem r_sld (hC : Cx Y G b K cc own nL ret k) {x : Int32} (hin : vp_in x 9) (d : decode cc pc = .ok (.iaload, 1)) (hn : pc + 1 = n) (h : V Y G K Z nL σ n lv (.int (pPn x.toNatClampNeg) :: rest)) : V Y G K Z nL σ pc lv (.int x :: .ref b :: rest) := by
  subst hn
  have q := hC.2.2.2.2.2.2.1.2.2.2
  exact fun H locs ls h1 h2 h3 => va_sld hC.1 hC.2.1 q.1 q.2.1 q.2.2 h2 hin d (h H locs ls h1 h2 h3)
theorem r_slen (hC : Cx Y G b K cc own nL ret k) (d : decode cc pc = .ok (.arraylength, 1)) (hn : pc + 1 = n) (h : V Y G K Z nL σ n lv (.int 9 :: rest)) : V Y G K Z nL σ pc lv (.ref b :: rest) := by
  subst hn
  have q := hC.2.2.2.2.2.2.1.2.2.2
  exact fun H locs ls h1 h2 h3 => va_slen hC.1 hC.2.1 q.1 q.2.1 q.2.2 h2 d (h H locs ls h1 h2 h3)
/-- Math.min, Math.max, System.arraycopy -/
theorem r_mmin (hC : Cx Y G b K cc own nL ret k) {idx : Nat} {x y : Int32} (hw : Cond.methodLink own idx Lib.Math.min.name ∈ TB ∧ Cond.static Lib.Math.min.name ∈ TB ∧ Cond.initialized "java/lang/Math" ∈ TB ∧ Cond.code Lib.Math.min.name Lib.Math.min.code 2 (some .int) ∈ TB) (hk : 1 ≤ k) (hr : (rest.map fun v => v.category).sum ≤ 8) (d : decode cc pc = .ok (.invokestatic idx, 3)) (hn : pc + 3 = n) (h : V Y G K Z nL σ n lv (.int (if y < x then y else x) :: rest)) : V Y G K Z nL σ pc lv (.int y :: .int x :: rest) := by
  subst hn
  obtain ⟨c1, c2, c3, c4, c5, c6, c7, c8, c9, c10⟩ := hC
  exact fun H locs ls h1 h2 h3 => va_mmin c1 c2 (c3.trans h3.1.symm) c5 (c6 _ hw.1) (c6 _ hw.2.1) (c6 _ hw.2.2.1) (c6 _ hw.2.2.2) (by rw [c10]; exact hk) (by rw [c10]; show _ ≤ 40 * k; omega) (Nat.zero_le _) (Nat.zero_le _) d (h H locs ls h1 h2 h3)
theorem r_mmax (hC : Cx Y G b K cc own nL ret k) {idx : Nat} {x y : Int32} (hw : Cond.methodLink own idx Lib.Math.max.name ∈ TB ∧ Cond.static Lib.Math.max.name ∈ TB ∧ Cond.initialized "java/lang/Math" ∈ TB ∧ Cond.code Lib.Math.max.name Lib.Math.max.code 2 (some .int) ∈ TB) (hk : 1 ≤ k) (hr : (rest.map fun v => v.category).sum ≤ 8) (d : decode cc pc = .ok (.invokestatic idx, 3)) (hn : pc + 3 = n) (h : V Y G K Z nL σ n lv (.int (if x < y then y else x) :: rest)) : V Y G K Z nL σ pc lv (.int y :: .int x :: rest) := by
  subst hn
  obtain ⟨c1, c2, c3, c4, c5, c6, c7, c8, c9, c10⟩ := hC
  exact fun H locs ls h1 h2 h3 => va_mmax c1 c2 (c3.trans h3.1.symm) c5 (c6 _ hw.1) (c6 _ hw.2.1) (c6 _ hw.2.2.1) (c6 _ hw.2.2.2) (by rw [c10]; exact hk) (by rw [c10]; show _ ≤ 40 * k; omega) (Nat.zero_le _) (Nat.zero_le _) d (h H locs ls h1 h2 h3)
theorem r_copy (hC : Cx Y G b K cc own nL ret k) (i j : Nat) {idx : Nat} {sp dp m : Int32} {τ : Sg} (hw : Cond.methodLink own idx arraycopyName ∈ TB ∧ Cond.native arraycopyName ∈ TB ∧ Cond.static arraycopyName ∈ TB ∧ Cond.initialized "java/lang/System" ∈ TB) (hk : 1 ≤ k) (hr : (rest.map fun v => v.category).sum ≤ 8) (hi : Y.2.1 i = 8) (hj : Y.2.1 j = 8)
    (hb : (¬ sp < 0) ∧ (¬ dp < 0) ∧ (¬ m < 0) ∧ sp.toNatClampNeg + m.toNatClampNeg ≤ Y.2.2.1 i ∧ dp.toNatClampNeg + m.toNatClampNeg ≤ Y.2.2.1 j) (hτ : τ = sI σ j (va_cpy (σ.1 i) (σ.1 j) sp.toNatClampNeg dp.toNatClampNeg m.toNatClampNeg)) (d : decode cc pc = .ok (.invokestatic idx, 3)) (hn : pc + 3 = n) (h : V Y G K Z nL τ n lv rest) : V Y G K Z nL σ pc lv (.int m :: .int dp :: .ref (G.1 j) :: .int sp :: .ref (G.1 i) :: rest) := by
  subst hn; subst hτ
  obtain ⟨c1, c2, c3, c4, c5, c6, c7, c8, c9, c10⟩ := hC
  intro H locs ls h1 h2 h3
  have he := Hw_get (σ := σ) c9 (i := i) (by omega)
  have hf := Hw_get (σ := σ) c9 (i := j) (by omega)
  have hN : j < Y.1 := c9.1 j (by omega)
  rw [cC_i hi] at he
  rw [cC_i hj] at hf
  have hz : nativeFrameWords "java/lang/System" "arraycopy" 5 + 11 ≤ 30 := by decide +kernel
  have hfr : 1 ≤ (K.2.2.2.1).frames := by rw [c10]; exact hk
  have hlo : (rest.map fun v => v.category).sum + (nativeFrameWords "java/lang/System" "arraycopy" 5 + 11) ≤ (K.2.2.2.1).locals := by
    rw [c10]
    show _ ≤ 40 * k
    omega
  refine va_copyi c1 c2 (c3.trans h3.1.symm) c5 (c6 _ hw.1) (c6 _ hw.2.1) (c6 _ hw.2.2.1) (c6 _ hw.2.2.2) c7.1 h1 (vaD Y G c9 _) h2 i j 0 0 he hf rfl rfl rfl hb.1 hb.2.1 hb.2.2.1 hb.2.2.2.1 hb.2.2.2.2 (fun _ _ => rfl) hfr hlo d (fun H1 locs1 q1 q2 q3 => ?_)
  rw [wl_set hN] at q1
  exact h H1 locs1 ls (by unfold Hw; rw [← cC_sI hj]; exact q1) q3 h3
theorem r_iret (hC : Cx Y G b K cc own nL ret k) (hr : ret = some .int) {v : Int32} {Q : Int32 → Sg → Prop} (hq : Q v σ) (d : decode cc pc = .ok (.ireturn, 1)) : V Y G K (Zi Y G K Q) nL σ pc lv [.int v] := by
  intro H locs ls h1 h2 h3
  exact W.iret (v := v) hC.1 hC.2.1 (hC.2.2.2.1.trans hr) (fun t ht hW => ⟨⟨v, σ, rfl, hq, by show Hw Y G σ t.heap; rw [ht]; exact h1⟩, h2.F ht⟩) h2.2.2 d hC.2.2.2.2.2.2.2.1
theorem r_zret (hC : Cx Y G b K cc own nL ret k) (hr : ret = some .boolean) {v : Int32} {Q : Int32 → Sg → Prop} (hz : v = 0 ∨ v = 1) (hq : Q v σ) (d : decode cc pc = .ok (.ireturn, 1)) : V Y G K (Zi Y G K Q) nL σ pc lv [.int v] := by
  intro H locs ls h1 h2 h3
  exact W.zret (v := v) hC.1 hC.2.1 (hC.2.2.2.1.trans hr) (by rcases hz with rfl | rfl <;> rfl) (fun t ht hW => ⟨⟨v, σ, rfl, hq, by show Hw Y G σ t.heap; rw [ht]; exact h1⟩, h2.F ht⟩) h2.2.2 d hC.2.2.2.2.2.2.2.1
theorem r_lret (hC : Cx Y G b K cc own nL ret k) (hr : ret = some .long) {v : Int64} {Q : Int64 → Sg → Prop} (hq : Q v σ) (d : decode cc pc = .ok (.lreturn, 1)) : V Y G K (Zl Y G K Q) nL σ pc lv [.long v] := by
  intro H locs ls h1 h2 h3
  exact W.lret (v := v) hC.1 hC.2.1 (hC.2.2.2.1.trans hr) (fun t ht hW => ⟨⟨v, σ, rfl, hq, by show Hw Y G σ t.heap; rw [ht]; exact h1⟩, h2.F ht⟩) h2.2.2 d hC.2.2.2.2.2.2.2.1
theorem r_vret (hC : Cx Y G b K cc own nL ret k) (hr : ret = none) {Q : Sg → Prop} (hq : Q σ) (d : decode cc pc = .ok (.return_, 1)) : V Y G K (Zv Y G K Q) nL σ pc lv [] := by
  intro H locs ls h1 h2 h3
  exact W.vret hC.1 hC.2.1 (hC.2.2.2.1.trans hr) (fun t ht hW => ⟨⟨σ, rfl, hq, by show Hw Y G σ t.heap; rw [ht]; exact h1⟩, h2.F ht⟩) h2.2.2 d hC.2.2.2.2.2.2.2.1
theorem r_aret (hC : Cx Y G b K cc own nL ret k) {D : String} (hr : ret = some (.object D)) {o : Option Nat} {Q : Option Nat → Sg → Prop} (hq : Q o σ) (d : decode cc pc = .ok (.areturn, 1)) : V Y G K (Zq Y G K Q) nL σ pc lv [rv G o] := by
  intro H locs ls h1 h2 h3
  exact W.aret (v := rv G o) hC.1 hC.2.1 (hC.2.2.2.1.trans hr) (Or.inl ⟨_, rfl⟩) (by cases o with | none => exact Or.inl rfl | some a => exact Or.inr ⟨_, rfl⟩) (fun t ht hW => ⟨⟨o.map G.1, σ, rfl, ⟨o, rfl, hq⟩, by show Hw Y G σ t.heap; rw [ht]; exact h1⟩, h2.F ht⟩) h2.2.2 d hC.2.2.2.2.2.2.2.1
end RL
/-- the static words of a call: of a virtual one (receiver's class number ci), of a static one -/
def SiV (own : String) (idx : Nat) (y : MethodName) (cc : ByteArray) (mL : Nat) (rt : Option FieldType) (np ci : Nat) : Prop :=
  Cond.code y cc mL rt ∈ TB ∧ (Cond.methodLink own idx y ∈ TB ∨ ∃ host, Cond.methodLinkNest own idx y host ∈ NW) ∧ Cond.instanceMethod y ∈ TB ∧ Cond.selects y.cls y y ∈ TB ∧ Cond.initialized y.cls ∈ TB ∧ (y.cls ≠ "java/lang/invoke/MethodHandle" ∧ y.cls ≠ "java/lang/invoke/VarHandle" ∧ (parseMethodDescriptor y.desc).map (fun d => d.parameters.length) = some np) ∧ (∃ T N, vwCl[ci]? = some (y.cls, T, N)) ∧ ci < 8 ∧ mL ≤ 21
def SiS (own : String) (idx : Nat) (y : MethodName) (cc : ByteArray) (mL : Nat) (rt : Option FieldType) (np : Nat) : Prop :=
  Cond.code y cc mL rt ∈ TB ∧ (Cond.methodLink own idx y ∈ TB ∨ ∃ host, Cond.methodLinkNest own idx y host ∈ NW) ∧ Cond.static y ∈ TB ∧ Cond.initialized y.cls ∈ TB ∧ (y.cls ≠ "java/lang/invoke/MethodHandle" ∧ y.cls ≠ "java/lang/invoke/VarHandle" ∧ (parseMethodDescriptor y.desc).map (fun d => d.parameters.length) = some np) ∧ mL ≤ 21
section RC
variable {Y : Ly} {G : Gx} {b : Nat} {K : Kx} {Z : State → Prop} {nL : Nat} {σ : Sg} {pc n : Nat} {lv : List (Nat × Value)} {rest st : List Value} {cc : ByteArray} {own : String} {ret : Option FieldType} {k : Nat} {y : MethodName} {bc : ByteArray} {mL kc np ci idx : Nat} {rt : Option FieldType} {As : List Value} {Qc : Array Value → State → Outcome → State → Prop}
theorem run_V (hC : Cx Y G b K cc own nL ret k) (hS : SiV own idx y bc mL rt np ci) {i : Nat} (hc : Y.2.1 i = ci) (hk : kc + 1 ≤ k) (hM : Met K.2.1 y (.code y bc mL rt :: TB) (rmk kc) (Pp Y G b (.ref (G.1 i) :: As) σ) Qc 0 0 (adA Y G)) (hn : As.length = np) (hst : st = As.reverse ++ .ref (G.1 i) :: rest) (hr : (rest.map fun v => v.category).sum ≤ 8) (d : decode cc pc = .ok (.invokevirtual idx, 3))
    {H : Heap} {locs : List Loc} {ls : Array Slot} (h1 : Hw Y G σ H) (h2 : va_S (adA Y G) (kS K).heap H locs) (h3 : lv_has ls nL lv) :
    va_Run K.1 K.2.1 K.2.2.1 K.2.2.2.1 (kS K) (kM K) (kA K) (kB K) K.2.2.2.2.2.2.2.2.1 K.2.2.2.2.2.2.2.2.2 H locs 0 0 0 0 (F0 (kM K) pc ls st) rest (Qc (Value.ref (G.1 i) :: As).toArray) (adA Y G) := by
  subst hst
  obtain ⟨c1, c2, c3, c4, c5, c6, c7, c8, c9, c10⟩ := hC
  obtain ⟨s1, s2, s3, s4, s5, s6, ⟨T, N, s7⟩, s8, s9⟩ := hS
  have he := Hw_get (σ := σ) c9 (i := i) (by omega)
  rw [cC_obj hc s8] at he
  have hR : (rmk kc).frames + 1 ≤ (K.2.2.2.1).frames ∧ 8 + (mL + 11) + (rmk kc).locals ≤ (K.2.2.2.1).locals := by
    rw [c10]
    show kc + 1 ≤ k ∧ 8 + (mL + 11) + 40 * kc ≤ 40 * k
    omega
  have hp : PreV (kS K) H y.cls (G.1 i) (Pp Y G b (.ref (G.1 i) :: As) σ) As :=
    ⟨fun a U g mk q => ⟨q.1, q.2.1, q.2.2.call⟩, va_recv c7.1 h1 s7 he, fun U hU hW => ⟨rfl, by rw [hU]; exact h1, c7.move h2 hU hW⟩⟩
  rcases s2 with s2 | ⟨host, s2⟩
  · exact va_runV (g := F0 (kM K) pc ls (As.reverse ++ .ref (G.1 i) :: rest)) ⟨c1, c2, c3, c5, c6⟩ hM ⟨callB_of np c6 (TB_good (c0 := .tt) s1) rfl rfl rfl (c6 _ s5) (c6 _ s2) s6 hR, c6 _ s3, c6 _ s4⟩ hp rfl hn h3.1 rfl (lv_room hr) d ⟨Nat.zero_le _, Nat.zero_le _⟩
  · exact va_runVN (g := F0 (kM K) pc ls (As.reverse ++ .ref (G.1 i) :: rest)) ⟨c1, c2, c3, c5, c6⟩ hM ⟨va_cnB np c6 (TB_good (c0 := .tt) s1) rfl rfl rfl (c7.2.1 _ s2) (c6 _ s5) s6 hR, c6 _ s3, c6 _ s4⟩ hp rfl hn h3.1 rfl (lv_room hr) d ⟨Nat.zero_le _, Nat.zero_le _⟩
theorem run_S (hC : Cx Y G b K cc own nL ret k) (hS : SiS own idx y bc mL rt np) (hk : kc + 1 ≤ k) (hM : Met K.2.1 y (.code y bc mL rt :: TB) (rmk kc) (Pp Y G b As σ) Qc 0 0 (adA Y G)) (hn : As.length = np) (hst : st = As.reverse ++ rest) (hr : (rest.map fun v => v.category).sum ≤ 8) (d : decode cc pc = .ok (.invokestatic idx, 3))
    {H : Heap} {locs : List Loc} {ls : Array Slot} (h1 : Hw Y G σ H) (h2 : va_S (adA Y G) (kS K).heap H locs) (h3 : lv_has ls nL lv) :
    va_Run K.1 K.2.1 K.2.2.1 K.2.2.2.1 (kS K) (kM K) (kA K) (kB K) K.2.2.2.2.2.2.2.2.1 K.2.2.2.2.2.2.2.2.2 H locs 0 0 0 0 (F0 (kM K) pc ls st) rest (Qc As.toArray) (adA Y G) := by
  subst hst
  obtain ⟨c1, c2, c3, c4, c5, c6, c7, c8, c9, c10⟩ := hC
  obtain ⟨s1, s2, s3, s5, s6, s9⟩ := hS
  have hR : (rmk kc).frames + 1 ≤ (K.2.2.2.1).frames ∧ 8 + (mL + 11) + (rmk kc).locals ≤ (K.2.2.2.1).locals := by
    rw [c10]
    show kc + 1 ≤ k ∧ 8 + (mL + 11) + 40 * kc ≤ 40 * k
    omega
  have hp : PreS (kS K) H (Pp Y G b As σ) As :=
    ⟨fun a U g mk q => ⟨q.1, q.2.1, q.2.2.call⟩, fun U hU hW => ⟨rfl, by rw [hU]; exact h1, c7.move h2 hU hW⟩⟩
  rcases s2 with s2 | ⟨host, s2⟩
  · exact va_runS (g := F0 (kM K) pc ls (As.reverse ++ rest)) ⟨c1, c2, c3, c5, c6⟩ hM ⟨callB_of np c6 (TB_good (c0 := .tt) s1) rfl rfl rfl (c6 _ s5) (c6 _ s2) s6 hR, c6 _ s3⟩ hp rfl hn h3.1 rfl (lv_room hr) d ⟨Nat.zero_le _, Nat.zero_le _⟩
  · exact va_runSN (g := F0 (kM K) pc ls (As.reverse ++ rest)) ⟨c1, c2, c3, c5, c6⟩ hM ⟨va_cnB np c6 (TB_good (c0 := .tt) s1) rfl rfl rfl (c7.2.1 _ s2) (c6 _ s5) s6 hR, c6 _ s3, trivial⟩ hp rfl hn h3.1 rfl (lv_room hr) d ⟨Nat.zero_le _, Nat.zero_le _⟩
theorem r_callVi (hC : Cx Y G b K cc own nL ret k) {ty : FieldType} {Q : Int32 → Sg → Prop} {i : Nat} (hS : SiV own idx y bc mL (some ty) np ci) (hc : Y.2.1 i = ci) (hk : kc + 1 ≤ k) (hM : Mi Y G b K.2.1 y bc mL ty kc (.ref (G.1 i) :: As) σ Q) (hnp : As.length = np) (hst : st = As.reverse ++ .ref (G.1 i) :: rest) (hr : (rest.map fun v => v.category).sum ≤ 8) (d : decode cc pc = .ok (.invokevirtual idx, 3)) (hn : pc + 3 = n) (kk : ∀ (r : Int32) (u : Sg), Q r u → V Y G K Z nL u n lv (.int r :: rest)) : V Y G K Z nL σ pc lv st := by
  subst hn
  intro H locs ls h1 h2 h3
  exact va_calli (run_V hC hS hc hk hM hnp hst hr d h1 h2 h3) h2 (fun _ _ q => q) (fun _ q => q) (fun r u t H1 locs1 ht hvm hq hB hz hk1 hS1 => kk r u hq H1 locs1 ls (by rw [← ht]; exact hB) hS1 h3)
theorem r_callSi (hC : Cx Y G b K cc own nL ret k) {ty : FieldType} {Q : Int32 → Sg → Prop} (hS : SiS own idx y bc mL (some ty) np) (hk : kc + 1 ≤ k) (hM : Mi Y G b K.2.1 y bc mL ty kc As σ Q) (hnp : As.length = np) (hst : st = As.reverse ++ rest) (hr : (rest.map fun v => v.category).sum ≤ 8) (d : decode cc pc = .ok (.invokestatic idx, 3)) (hn : pc + 3 = n) (kk : ∀ (r : Int32) (u : Sg), Q r u → V Y G K Z nL u n lv (.int r :: rest)) : V Y G K Z nL σ pc lv st := by
  subst hn
  intro H locs ls h1 h2 h3
  exact va_calli (run_S hC hS hk hM hnp hst hr d h1 h2 h3) h2 (fun _ _ q => q) (fun _ q => q) (fun r u t H1 locs1 ht hvm hq hB hz hk1 hS1 => kk r u hq H1 locs1 ls (by rw [← ht]; exact hB) hS1 h3)
theorem r_callVl (hC : Cx Y G b K cc own nL ret k)  {Q : Int64 → Sg → Prop} {i : Nat} (hS : SiV own idx y bc mL (some .long) np ci) (hc : Y.2.1 i = ci) (hk : kc + 1 ≤ k) (hM : Ml Y G b K.2.1 y bc mL  kc (.ref (G.1 i) :: As) σ Q) (hnp : As.length = np) (hst : st = As.reverse ++ .ref (G.1 i) :: rest) (hr : (rest.map fun v => v.category).sum ≤ 8) (d : decode cc pc = .ok (.invokevirtual idx, 3)) (hn : pc + 3 = n) (kk : ∀ (r : Int64) (u : Sg), Q r u → V Y G K Z nL u n lv (.long r :: rest)) : V Y G K Z nL σ pc lv st := by
  subst hn
  intro H locs ls h1 h2 h3
  exact va_calll (run_V hC hS hc hk hM hnp hst hr d h1 h2 h3) h2 (fun _ _ q => q) (fun _ q => q) (fun r u t H1 locs1 ht hvm hq hB hz hk1 hS1 => kk r u hq H1 locs1 ls (by rw [← ht]; exact hB) hS1 h3)
theorem r_callSl (hC : Cx Y G b K cc own nL ret k)  {Q : Int64 → Sg → Prop} (hS : SiS own idx y bc mL (some .long) np) (hk : kc + 1 ≤ k) (hM : Ml Y G b K.2.1 y bc mL  kc As σ Q) (hnp : As.length = np) (hst : st = As.reverse ++ rest) (hr : (rest.map fun v => v.category).sum ≤ 8) (d : decode cc pc = .ok (.invokestatic idx, 3)) (hn : pc + 3 = n) (kk : ∀ (r : Int64) (u : Sg), Q r u → V Y G K Z nL u n lv (.long r :: rest)) : V Y G K Z nL σ pc lv st := by
  subst hn
  intro H locs ls h1 h2 h3
  exact va_calll (run_S hC hS hk hM hnp hst hr d h1 h2 h3) h2 (fun _ _ q => q) (fun _ q => q) (fun r u t H1 locs1 ht hvm hq hB hz hk1 hS1 => kk r u hq H1 locs1 ls (by rw [← ht]; exact hB) hS1 h3)
theorem r_callVv (hC : Cx Y G b K cc own nL ret k)  {Q : Sg → Prop} {i : Nat} (hS : SiV own idx y bc mL (none) np ci) (hc : Y.2.1 i = ci) (hk : kc + 1 ≤ k) (hM : Mv Y G b K.2.1 y bc mL  kc (.ref (G.1 i) :: As) σ Q) (hnp : As.length = np) (hst : st = As.reverse ++ .ref (G.1 i) :: rest) (hr : (rest.map fun v => v.category).sum ≤ 8) (d : decode cc pc = .ok (.invokevirtual idx, 3)) (hn : pc + 3 = n) (kk : ∀ (u : Sg), Q u → V Y G K Z nL u n lv (rest)) : V Y G K Z nL σ pc lv st := by
  subst hn
  intro H locs ls h1 h2 h3
  exact va_callv (run_V hC hS hc hk hM hnp hst hr d h1 h2 h3) h2 (fun _ _ q => q) (fun _ q => q) (fun u t H1 locs1 ht hvm hq hB hz hk1 hS1 => kk u hq H1 locs1 ls (by rw [← ht]; exact hB) hS1 h3)
theorem r_callSv (hC : Cx Y G b K cc own nL ret k)  {Q : Sg → Prop} (hS : SiS own idx y bc mL (none) np) (hk : kc + 1 ≤ k) (hM : Mv Y G b K.2.1 y bc mL  kc As σ Q) (hnp : As.length = np) (hst : st = As.reverse ++ rest) (hr : (rest.map fun v => v.category).sum ≤ 8) (d : decode cc pc = .ok (.invokestatic idx, 3)) (hn : pc + 3 = n) (kk : ∀ (u : Sg), Q u → V Y G K Z nL u n lv (rest)) : V Y G K Z nL σ pc lv st := by
  subst hn
  intro H locs ls h1 h2 h3
  exact va_callv (run_S hC hS hk hM hnp hst hr d h1 h2 h3) h2 (fun _ _ q => q) (fun _ q => q) (fun u t H1 locs1 ht hvm hq hB hz hk1 hS1 => kk u hq H1 locs1 ls (by rw [← ht]; exact hB) hS1 h3)
theorem r_callVq (hC : Cx Y G b K cc own nL ret k) {ty : FieldType} {Q : Option Nat → Sg → Prop} {i : Nat} (hS : SiV own idx y bc mL (some ty) np ci) (hc : Y.2.1 i = ci) (hk : kc + 1 ≤ k) (hM : Mq Y G b K.2.1 y bc mL ty kc (.ref (G.1 i) :: As) σ Q) (hnp : As.length = np) (hst : st = As.reverse ++ .ref (G.1 i) :: rest) (hr : (rest.map fun v => v.category).sum ≤ 8) (d : decode cc pc = .ok (.invokevirtual idx, 3)) (hn : pc + 3 = n) (kk : ∀ (r : Option Nat) (u : Sg), Q r u → V Y G K Z nL u n lv (rv G r :: rest)) : V Y G K Z nL σ pc lv st := by
  subst hn
  intro H locs ls h1 h2 h3
  exact va_callq (run_V hC hS hc hk hM hnp hst hr d h1 h2 h3) h2 (fun _ _ q => q) (fun _ q => q) (fun r u t H1 locs1 ht hvm hq hB hz hk1 hS1 => by
    obtain ⟨o, rfl, hq⟩ := hq
    exact kk o u hq H1 locs1 ls (by rw [← ht]; exact hB) hS1 h3)
theorem r_callSq (hC : Cx Y G b K cc own nL ret k) {ty : FieldType} {Q : Option Nat → Sg → Prop} (hS : SiS own idx y bc mL (some ty) np) (hk : kc + 1 ≤ k) (hM : Mq Y G b K.2.1 y bc mL ty kc As σ Q) (hnp : As.length = np) (hst : st = As.reverse ++ rest) (hr : (rest.map fun v => v.category).sum ≤ 8) (d : decode cc pc = .ok (.invokestatic idx, 3)) (hn : pc + 3 = n) (kk : ∀ (r : Option Nat) (u : Sg), Q r u → V Y G K Z nL u n lv (rv G r :: rest)) : V Y G K Z nL σ pc lv st := by
  subst hn
  intro H locs ls h1 h2 h3
  exact va_callq (run_S hC hS hk hM hnp hst hr d h1 h2 h3) h2 (fun _ _ q => q) (fun _ q => q) (fun r u t H1 locs1 ht hvm hq hB hz hk1 hS1 => by
    obtain ⟨o, rfl, hq⟩ := hq
    exact kk o u hq H1 locs1 ls (by rw [← ht]; exact hB) hS1 h3)
end RC
/-- a value that gets a name -/
def lt {α : Type} (a : α) (f : α → Prop) : Prop := f a
theorem lt_nm {α : Type} {a : α} {f : α → Prop} (h : lt a f) : ∃ x, x = a ∧ f x := ⟨a, rfl, h⟩
theorem sw_out {x : Int32} (lo hi : Nat) (hh : hi < 1000) (h : ∀ j : Nat, lo ≤ j → j ≤ hi → x ≠ nI j) : x.toInt < (lo : Int) ∨ (hi : Int) < x.toInt := by
  rcases Int.lt_or_le x.toInt (lo : Int) with q | q
  · exact Or.inl q
  rcases Int.lt_or_le (hi : Int) x.toInt with q2 | q2
  · exact Or.inr q2
  exfalso
  have hx : x = nI x.toInt.toNat := by
    rw [← Int32.toInt_inj, nI_toInt (by omega)]
    omega
  exact h x.toInt.toNat (by omega) (by omega) hx
theorem if_t {c A B : Prop} {i : Decidable c} (h : @ite Prop c i A B) (hc : c) : A := by rwa [if_pos hc] at h
theorem if_f {c A B : Prop} {i : Decidable c} (h : @ite Prop c i A B) (hc : ¬ c) : B := by rwa [if_neg hc] at h
theorem if_nt {c A B : Prop} {i : Decidable (¬ c)} (h : @ite Prop (¬ c) i A B) (hc : c) : B := by rwa [if_neg (fun q => q hc)] at h

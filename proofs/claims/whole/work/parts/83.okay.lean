/-! the bench stays within its bounds -/
def ab0 : Ab := (fun _ => nl, [], (0, fun _ => 0, fun _ _ => 0, fun _ _ => 0), nl, -1)
theorem ok_ab0 : okA ab0 := by
  refine ⟨fun p hp => ⟨Or.inr rfl, ?_⟩, fun t ht => ?_, ?_, ?_, fun m hm => ⟨?_, fun i hi => ?_⟩, Or.inr rfl, ?_⟩
  · show tsz nl ≤ 60
    rw [tsz_nl]
    omega
  · exact absurd ht (by show ¬ t ∈ ([] : List Tr); simp)
  · show psz [] ≤ 60
    rw [psz]
    omega
  · show 0 ≤ 8
    omega
  · show 0 ≤ 10
    omega
  · exact absurd hi (by show ¬ i < 0; omega)
  · show tsz nl ≤ 200
    rw [tsz_nl]
    omega
section
variable {A : Ab}
theorem ok_sP {p : Nat} {t : Tr} (ok : okA A) (hw : wn t) (hs : tsz t ≤ 60) : okA (sP A p t) := by
  obtain ⟨o1, o2⟩ := ok
  refine ⟨fun q hq => ?_, o2⟩
  show wn (if q = p then t else aP A q) ∧ tsz (if q = p then t else aP A q) ≤ 60
  by_cases e : q = p
  · rw [if_pos e]
    exact ⟨hw, hs⟩
  · rw [if_neg e]
    exact o1 q hq
theorem ok_nth {x y : Int32} {z : Int64} (ok : okA A) : okA (xNth x y z A).2 := by
  unfold xNth
  cases g1 : iy 0 19 x with
  | none => exact ok
  | some p =>
    cases g2 : iy 1 15 y with
    | none => exact ok
    | some n =>
      dsimp only
      split
      · next hz =>
        obtain ⟨-, n1, n2, -⟩ := iy_s (by omega) g2
        obtain ⟨w1, w2⟩ := ng_ok (n := n) (i := z.toInt.toNat) (by omega) (by omega) (by omega)
        exact ok_sP ok (Or.inl w1) (by omega)
      · exact ok
theorem ok_node {x v : Int32} (ok : okA A) : okA (xNode x v A).2 := by
  unfold xNode
  cases g1 : iy 0 8 x with
  | none => exact ok
  | some k =>
    dsimp only
    split
    · exact ok
    · next nv =>
      split
      · exact ok
      · next nl1 =>
        split
        · exact ok
        · next nf =>
          obtain ⟨-, k1, k2, -⟩ := iy_s (by omega) g1
          obtain ⟨o1, o2, o3, o4⟩ := ok
          generalize hm : (aL A).length - ary k = m
          have hD : ((aL A).drop m).length = ary k := by rw [List.length_drop]; omega
          have pe := psz_take (aL A) m
          refine ⟨o1, fun t ht => ?_, ?_, o4⟩
          · have ht' : t ∈ (aL A).take m ++ [mkN k v ((aL A).drop m)] := ht
            rcases List.mem_append.mp ht' with q | q
            · exact o2 t (List.mem_of_mem_take q)
            · rw [List.mem_singleton.mp q]
              refine mkN_wf hD (by omega) (fun hk => ?_) (fun u hu => o2 u (List.mem_of_mem_drop hu))
              by_cases hv : v = 0
              · exact hv
              · exact absurd ⟨hk, hv⟩ nv
          · show psz ((aL A).take m ++ [mkN k v ((aL A).drop m)]) ≤ 60
            rw [psz_app, psz, psz, (mkN_sp (v := v) hD).2]
            omega
theorem ok_keep {x : Int32} (ok : okA A) : okA (xKeep x A).2 := by
  unfold xKeep
  cases g1 : iy 0 19 x with
  | none => exact ok
  | some p =>
    dsimp only
    split
    · next t hL =>
      have ht : wf t := ok.2.1 t (by rw [hL]; simp)
      have hs : tsz t ≤ 60 := by
        have := ok.2.2.1
        rw [hL, psz, psz] at this
        omega
      obtain ⟨o1, -, -, o4⟩ := ok_sP (p := p) ok (Or.inl ht) hs
      refine ⟨o1, fun u hu => ?_, ?_, o4⟩
      · exact absurd hu (by show ¬ u ∈ ([] : List Tr); simp)
      · show psz [] ≤ 60
        rw [psz]
        omega
    · exact ok
theorem ok_drop {x : Int32} (ok : okA A) : okA (xDrop x A).2 := by
  unfold xDrop
  cases pg A x with
  | none => exact ok
  | some p => exact ok_sP ok (Or.inr rfl) (by rw [tsz_nl]; omega)
theorem ok_breed {x y i z j : Int32} (ok : okA A) : okA (xBreed x y i z j A).2 := by
  unfold xBreed
  cases g1 : iy 0 19 x with
  | none => exact ok
  | some p =>
    cases g2 : pg A y with
    | none => exact ok
    | some q =>
      cases g3 : pg A z with
      | none => exact ok
      | some r =>
        dsimp only
        cases g4 : iy 0 ((tsz (aP A q) : Int) - 1) i with
        | none => exact ok
        | some i' =>
          cases g5 : iy 0 ((tsz (aP A r) : Int) - 1) j with
          | none => exact ok
          | some j' =>
            dsimp only
            split
            · exact ok
            · next nf =>
              obtain ⟨q1, -, q3⟩ := pg_s g2
              obtain ⟨r1, -, r3⟩ := pg_s g3
              obtain ⟨-, -, i2, -⟩ := iy_s (by omega) g4
              obtain ⟨-, -, j2, -⟩ := iy_s (by omega) g5
              have wq := wn_1 (ok.1 q q1).1 q3
              have wr' := wn_1 (ok.1 r r1).1 r3
              obtain ⟨-, -, -, -, u3, -⟩ := su_sp nl (aP A r) (Or.inl wr') j' (by omega)
              obtain ⟨s1, -⟩ := sb_ok u3 (aP A q) (Or.inl wq) i' (by omega)
              exact ok_sP ok (Or.inl s1) (by omega)
theorem ok_maker (ok : okA A) : okA (xMaker A).2 := by
  unfold xMaker
  split
  · exact ok
  · next nf =>
    obtain ⟨o1, o2, o3, o4, o5, o6⟩ := ok
    exact ⟨o1, o2, o3, by show aM A + 1 ≤ 8; omega, o5, o6⟩
theorem ok_turn {x y z : Int32} (ok : okA A) : okA (xTurn x y z A).2 := by
  unfold xTurn
  cases g1 : mg A x with
  | none => exact ok
  | some m =>
    cases g2 : iy 0 6 y with
    | none => exact ok
    | some s =>
      cases g3 : iy 0 2 z with
      | none => exact ok
      | some f =>
        dsimp only
        split
        · exact ok
        · next nf =>
          obtain ⟨-, -, s2, -⟩ := iy_s (by omega) g2
          obtain ⟨-, -, f2, -⟩ := iy_s (by omega) g3
          obtain ⟨o1, o2, o3, o4, o5, o6⟩ := ok
          refine ⟨o1, o2, o3, o4, fun m' hm' => ?_, o6⟩
          obtain ⟨t1, t2⟩ := o5 m' hm'
          show (if m' = m then aT A m + 1 else aT A m') ≤ 10 ∧ ∀ i, i < (if m' = m then aT A m + 1 else aT A m') → up2 (aS A) m (aT A m) s m' i ≤ 6 ∧ up2 (aF A) m (aT A m) f m' i ≤ 2
          unfold up2
          by_cases e : m' = m
          · subst e
            rw [if_pos rfl]
            refine ⟨by omega, fun i hi => ?_⟩
            by_cases ei : i = aT A m'
            · rw [if_pos ⟨rfl, ei⟩, if_pos ⟨rfl, ei⟩]
              exact ⟨by omega, by omega⟩
            · rw [if_neg (fun w => ei w.2), if_neg (fun w => ei w.2)]
              exact t2 i (by omega)
          · rw [if_neg e]
            refine ⟨t1, fun i hi => ?_⟩
            rw [if_neg (fun w => e w.1), if_neg (fun w => e w.1)]
            exact t2 i hi
theorem ok_plant {x y z : Int32} (ok : okA A) : okA (xPlant x y z A).2 := by
  unfold xPlant
  cases g1 : mg A x with
  | none => exact ok
  | some m =>
    cases g2 : iy 0 2 z with
    | none => exact ok
    | some f =>
      dsimp only
      cases g3 : tg A m y with
      | none => exact ok
      | some n =>
        obtain ⟨-, -, f2, -⟩ := iy_s (by omega) g2
        obtain ⟨o1, o2, o3, o4, o5, o6⟩ := ok
        refine ⟨o1, o2, o3, o4, fun m' hm' => ?_, o6⟩
        obtain ⟨t1, t2⟩ := o5 m' hm'
        refine ⟨t1, fun i hi => ?_⟩
        show aS A m' i ≤ 6 ∧ up2 (aF A) m n f m' i ≤ 2
        refine ⟨(t2 i hi).1, ?_⟩
        unfold up2
        split
        · omega
        · exact (t2 i hi).2
theorem ok_made {x y n : Int32} (ok : okA A) : okA (xMade x y n A).2 := by
  unfold xMade
  cases g1 : mg A x with
  | none => exact ok
  | some m =>
    cases g2 : pg A y with
    | none => exact ok
    | some p =>
      dsimp only
      cases g3 : iy 0 (aT A m) n with
      | none => exact ok
      | some n' =>
        obtain ⟨p1', -, p3'⟩ := pg_s g2
        have wp := wn_1 (ok.1 p p1').1 p3'
        have sp' := (ok.1 p p1').2
        obtain ⟨w1, w2⟩ := md_ok (aS A m) (aF A m) wp (by omega) n'
        obtain ⟨o1, o2, o3, o4, o5, -⟩ := ok
        exact ⟨o1, o2, o3, o4, o5, Or.inl w1, w2⟩
theorem ok_small {x y k : Int32} (ok : okA A) : okA (xSmall x y k A).2 := by
  unfold xSmall
  cases g1 : mg A x with
  | none => exact ok
  | some m =>
    cases g2 : pg A y with
    | none => exact ok
    | some p =>
      cases g3 : iy 0 6 k with
      | none => exact ok
      | some k' =>
        dsimp only
        split
        · obtain ⟨p1', -, p3'⟩ := pg_s g2
          have wp := wn_1 (ok.1 p p1').1 p3'
          have sp' := (ok.1 p p1').2
          obtain ⟨w1, w2⟩ := sml_ok (P := shB (aS A m) (aF A m) (aT A m) k') 120 (aP A p) wp
          exact ok_sP ok (Or.inl w1) (by omega)
        · exact ok
end

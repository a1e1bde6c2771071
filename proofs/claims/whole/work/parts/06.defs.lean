def wX0_add_109  (t : Nat) (s1 : Int32) (σ : Sg) (Q : Sg → Prop) : Prop :=
  (YC.2.1 t = 0) ∧ (
  (s1 = 0 ∨ s1 = 1) ∧ (
  lt (sI σ t (upd (σ.1 t) 5 s1)) fun σ_3 => (
  Q σ_3)))
def wX0_add_104  (t : Nat) (σ : Sg) (Q : Sg → Prop) : Prop :=
  wX0_add_109   t 1 σ Q
def wX0_add_87  (t : Nat) (x1 : Int32) (s1 : Int32) (σ : Sg) (Q : Sg → Prop) : Prop :=
  (YC.2.1 t = 0) ∧ (
  (s1 = 0 ∨ s1 = 1) ∧ (
  lt (sI σ t (upd (σ.1 t) 4 s1)) fun σ_7 => (
  if (σ_7.1 t 5) = 0 then (
    if x1 = 7 then (
      wX0_add_104   t σ_7 Q)
    else (
      wX0_add_109   t 0 σ_7 Q))
  else (
    wX0_add_104   t σ_7 Q))))
def wX0_add_82  (t : Nat) (x1 : Int32) (σ : Sg) (Q : Sg → Prop) : Prop :=
  wX0_add_87   t x1 1 σ Q
def wX0_add_66  (t : Nat) (x1 : Int32) (s1 : Int32) (σ : Sg) (Q : Sg → Prop) : Prop :=
  (YC.2.1 t = 0) ∧ (
  (s1 = 0 ∨ s1 = 1) ∧ (
  lt (sI σ t (upd (σ.1 t) 3 s1)) fun σ_11 => (
  if (σ_11.1 t 4) = 0 then (
    if x1 = 2 then (
      wX0_add_82   t x1 σ_11 Q)
    else (
      wX0_add_87   t x1 0 σ_11 Q))
  else (
    wX0_add_82   t x1 σ_11 Q))))
def wX0_add_61  (t : Nat) (x1 : Int32) (σ : Sg) (Q : Sg → Prop) : Prop :=
  wX0_add_66   t x1 1 σ Q
def wX0_add  (t : Nat) (x1 : Int32) (x2 : Int32) (σ : Sg) (Q : Sg → Prop) : Prop :=
  (YC.2.1 t = 0) ∧ (
  if (σ.1 t 2) < 0 then (
    Q σ)
  else (
    if (σ.1 t 2) < 400 then (
      (vp_in (σ.1 t 2) 400) ∧ (
      lt (sI σ (t + 1) (upd (σ.1 (t + 1)) (Int32.toNatClampNeg (σ.1 t 2)) x1)) fun σ_15 => (
      (vp_in (σ_15.1 t 2) 400) ∧ (
      lt (sI σ_15 (t + 2) (upd (σ_15.1 (t + 2)) (Int32.toNatClampNeg (σ_15.1 t 2)) x2)) fun σ_18 => (
      lt (sI σ_18 t (upd (σ_18.1 t) 2 ((σ_18.1 t 2) + 1))) fun σ_20 => (
      if (σ_20.1 t 3) = 0 then (
        if x1 = 1 then (
          wX0_add_61   t x1 σ_20 Q)
        else (
          wX0_add_66   t x1 0 σ_20 Q))
      else (
        wX0_add_61   t x1 σ_20 Q)))))))
    else (
      Q σ)))
def wX0_aim  (t : Nat) (x1 : Int32) (x2 : Int32) (σ : Sg) (Q : Sg → Prop) : Prop :=
  if x1 < 0 then (
    Q σ)
  else (
    (YC.2.1 t = 0) ∧ (
    if (σ.1 t 2) ≤ x1 then (
      Q σ)
    else (
      (vp_in x1 400) ∧ (
      lt (sI σ (t + 2) (upd (σ.1 (t + 2)) (Int32.toNatClampNeg x1) x2)) fun σ_3 => (
      Q σ_3)))))
def wX1_defer  (x1 : Int32) (x2 : Int64) (σ : Sg) (Q : Sg → Prop) : Prop :=
  if (σ.1 1 5) < 0 then (
    Q σ)
  else (
    if 15 < (σ.1 1 5) then (
      Q σ)
    else (
      (vp_in (σ.1 1 5) 16) ∧ (
      lt (sI σ 5 (upd (σ.1 5) (Int32.toNatClampNeg (σ.1 1 5)) x1)) fun σ_2 => (
      (vp_in (σ_2.1 1 5) 16) ∧ (
      lt (sJ σ_2 6 (vp_updL (σ_2.2.1 6) (Int32.toNatClampNeg (σ_2.1 1 5)) x2)) fun σ_5 => (
      lt (sI σ_5 1 (upd (σ_5.1 1) 5 ((σ_5.1 1 5) + 1))) fun σ_7 => (
      Q σ_7)))))))
def wX2_has  (t : Nat) (x1 : Int32) (σ : Sg) (Q : Int32 → Sg → Prop) : Prop :=
  if x1 < 0 then (
    Q 0 σ)
  else (
    (YC.2.1 t = 2) ∧ (
    if (σ.1 t 2) ≤ x1 then (
      Q 0 σ)
    else (
      Q 1 σ)))
def wX2_sortOf  (t : Nat) (x1 : Int32) (σ : Sg) (Q : Int32 → Sg → Prop) : Prop :=
  (YC.2.1 t = 2) ∧ (
  wX2_has t x1 σ fun r_3 σ_2 => (
  if r_3 = 0 then (
    Q 0 σ_2)
  else (
    (vp_in x1 10) ∧ (
    Q (σ_2.1 (t + 1) (Int32.toNatClampNeg x1)) σ_2))))
def wX2_faultOf  (t : Nat) (x1 : Int32) (σ : Sg) (Q : Int32 → Sg → Prop) : Prop :=
  (YC.2.1 t = 2) ∧ (
  wX2_has t x1 σ fun r_3 σ_2 => (
  if r_3 = 0 then (
    Q 0 σ_2)
  else (
    (vp_in x1 10) ∧ (
    Q (σ_2.1 (t + 2) (Int32.toNatClampNeg x1)) σ_2))))
def wX2_setFault  (t : Nat) (x1 : Int32) (x2 : Int32) (σ : Sg) (Q : Sg → Prop) : Prop :=
  (YC.2.1 t = 2) ∧ (
  wX2_has t x1 σ fun r_3 σ_2 => (
  if r_3 = 0 then (
    Q σ_2)
  else (
    (vp_in x1 10) ∧ (
    lt (sI σ_2 (t + 2) (upd (σ_2.1 (t + 2)) (Int32.toNatClampNeg x1) x2)) fun σ_5 => (
    Q σ_5)))))
def wX2_addTurn  (t : Nat) (x1 : Int32) (x2 : Int32) (σ : Sg) (Q : Sg → Prop) : Prop :=
  (YC.2.1 t = 2) ∧ (
  if (σ.1 t 2) < 0 then (
    Q σ)
  else (
    if 10 ≤ (σ.1 t 2) then (
      Q σ)
    else (
      (vp_in (σ.1 t 2) 10) ∧ (
      lt (sI σ (t + 1) (upd (σ.1 (t + 1)) (Int32.toNatClampNeg (σ.1 t 2)) x1)) fun σ_3 => (
      (vp_in (σ_3.1 t 2) 10) ∧ (
      lt (sI σ_3 (t + 2) (upd (σ_3.1 (t + 2)) (Int32.toNatClampNeg (σ_3.1 t 2)) x2)) fun σ_6 => (
      lt (sI σ_6 t (upd (σ_6.1 t) 2 ((σ_6.1 t 2) + 1))) fun σ_8 => (
      Q σ_8))))))))
def wX5_has  (t : Nat) (x1 : Int32) (σ : Sg) (Q : Int32 → Sg → Prop) : Prop :=
  if x1 < 0 then (
    Q 0 σ)
  else (
    (YC.2.1 t = 4) ∧ (
    if (σ.1 t 3) ≤ x1 then (
      Q 0 σ)
    else (
      Q 1 σ)))
def wX5_kindOf  (t : Nat) (x1 : Int32) (σ : Sg) (Q : Int32 → Sg → Prop) : Prop :=
  if x1 < 0 then (
    Q 0 σ)
  else (
    (YC.2.1 t = 4) ∧ (
    if (σ.1 t 3) ≤ x1 then (
      Q 0 σ)
    else (
      (vp_in x1 200) ∧ (
      Q (σ.1 (t + 1) (Int32.toNatClampNeg x1)) σ))))
def wX5_numberOf  (t : Nat) (x1 : Int32) (σ : Sg) (Q : Int32 → Sg → Prop) : Prop :=
  if x1 < 0 then (
    Q 0 σ)
  else (
    (YC.2.1 t = 4) ∧ (
    if (σ.1 t 3) ≤ x1 then (
      Q 0 σ)
    else (
      (vp_in x1 200) ∧ (
      Q (σ.1 (t + 2) (Int32.toNatClampNeg x1)) σ))))
def wX5_sizeOf  (t : Nat) (x1 : Int32) (σ : Sg) (Q : Int32 → Sg → Prop) : Prop :=
  if x1 < 0 then (
    Q 0 σ)
  else (
    (YC.2.1 t = 4) ∧ (
    if (σ.1 t 3) ≤ x1 then (
      Q 0 σ)
    else (
      (vp_in x1 200) ∧ (
      Q (σ.1 (t + 3) (Int32.toNatClampNeg x1)) σ))))
def wX5_behind  (t : Nat) (x1 : Int32) (σ : Sg) (Q : Int32 → Sg → Prop) : Prop :=
  if x1 < 0 then (
    (YC.2.1 t = 4) ∧ (
    Q (σ.1 t 3) σ))
  else (
    (YC.2.1 t = 4) ∧ (
    if (σ.1 t 3) ≤ x1 then (
      Q (σ.1 t 3) σ)
    else (
      (vp_in x1 200) ∧ (
      Q (x1 + (σ.1 (t + 3) (Int32.toNatClampNeg x1))) σ))))
def wX5_isNumber  (t : Nat) (x1 : Int32) (x2 : Int32) (σ : Sg) (Q : Int32 → Sg → Prop) : Prop :=
  if x1 < 0 then (
    Q 0 σ)
  else (
    (YC.2.1 t = 4) ∧ (
    if (σ.1 t 3) ≤ x1 then (
      Q 0 σ)
    else (
      (vp_in x1 200) ∧ (
      if (σ.1 (t + 1) (Int32.toNatClampNeg x1)) = 0 then (
        if (σ.1 (t + 2) (Int32.toNatClampNeg x1)) = x2 then (
          Q 1 σ)
        else (
          Q 0 σ))
      else (
        Q 0 σ)))))
def wX5_isSame_20_b  (K20 : Nat → Int32 → Int32 → Int32 → Int32 → Sg → Prop) (t : Nat) (x1 : Int32) (x2 : Int32) (x3 : Int32) (x4 : Int32) (σ : Sg) (Q : Int32 → Sg → Prop) : Prop :=
    if x3 ≤ x4 then (
      Q 1 σ)
    else (
      (YC.2.1 t = 4) ∧ (
      wX5_kindOf t (x1 + x4) σ fun r_3 σ_2 => (
      wX5_kindOf t (x2 + x4) σ_2 fun r_5 σ_4 => (
      if r_3 = r_5 then (
        wX5_numberOf t (x1 + x4) σ_4 fun r_7 σ_6 => (
        wX5_numberOf t (x2 + x4) σ_6 fun r_9 σ_8 => (
        if r_7 = r_9 then (
          lt (x4 + 1) fun x4_10 => (
          K20 t x1 x2 x3 x4_10 σ_8))
        else (
          Q 0 σ_8))))
      else (
        Q 0 σ_4)))))
def wX5_isSame_20  (Q : Int32 → Sg → Prop) : Nat → Nat → Int32 → Int32 → Int32 → Int32 → Sg → Prop
  | 0 => fun _ _ _ _ _ _ => False
  | n + 1 => fun t x1 x2 x3 x4 σ => wX5_isSame_20_b  (wX5_isSame_20  Q n) t x1 x2 x3 x4 σ Q
def wX5_isSame  (t : Nat) (x1 : Int32) (x2 : Int32) (σ : Sg) (Q : Int32 → Sg → Prop) : Prop :=
  (YC.2.1 t = 4) ∧ (
  wX5_sizeOf t x1 σ fun r_14 σ_13 => (
  wX5_sizeOf t x2 σ_13 fun r_16 σ_15 => (
  if r_14 = r_16 then (
    ∃ nn, wX5_isSame_20   Q nn t x1 x2 r_14 0 σ_15)
  else (
    Q 0 σ_15))))
def wX5_clear  (t : Nat) (σ : Sg) (Q : Sg → Prop) : Prop :=
  (YC.2.1 t = 4) ∧ (
  lt (sI σ t (upd (σ.1 t) 3 0)) fun σ_2 => (
  Q σ_2))
def wX5_append  (t : Nat) (x1 : Int32) (x2 : Int32) (σ : Sg) (Q : Sg → Prop) : Prop :=
  (YC.2.1 t = 4) ∧ (
  if (σ.1 t 3) < 0 then (
    Q σ)
  else (
    if 200 ≤ (σ.1 t 3) then (
      Q σ)
    else (
      (vp_in (σ.1 t 3) 200) ∧ (
      lt (sI σ (t + 1) (upd (σ.1 (t + 1)) (Int32.toNatClampNeg (σ.1 t 3)) x1)) fun σ_3 => (
      (vp_in (σ_3.1 t 3) 200) ∧ (
      lt (sI σ_3 (t + 2) (upd (σ_3.1 (t + 2)) (Int32.toNatClampNeg (σ_3.1 t 3)) x2)) fun σ_6 => (
      (vp_in (σ_6.1 t 3) 200) ∧ (
      lt (sI σ_6 (t + 3) (upd (σ_6.1 (t + 3)) (Int32.toNatClampNeg (σ_6.1 t 3)) 1)) fun σ_9 => (
      lt (sI σ_9 t (upd (σ_9.1 t) 3 ((σ_9.1 t 3) + 1))) fun σ_11 => (
      Q σ_11))))))))))
def wX5_appendRun  (t : Nat) (q1 : Nat) (x2 : Int32) (x3 : Int32) (σ : Sg) (Q : Sg → Prop) : Prop :=
  if x2 < 0 then (
    Q σ)
  else (
    if x3 < 0 then (
      Q σ)
    else (
      (YC.2.1 q1 = 4) ∧ (
      if ((σ.1 q1 3) - x3) < x2 then (
        Q σ)
      else (
        (YC.2.1 t = 4) ∧ (
        if (σ.1 t 3) ≤ (200 - x3) then (
          ((¬ x2 < 0) ∧ (¬ (σ.1 t 3) < 0) ∧ (¬ x3 < 0) ∧ Int32.toNatClampNeg x2 + Int32.toNatClampNeg x3 ≤ 200 ∧ Int32.toNatClampNeg (σ.1 t 3) + Int32.toNatClampNeg x3 ≤ 200) ∧ (
          lt (sI σ (t + 1) (va_cpy (σ.1 (q1 + 1)) (σ.1 (t + 1)) (Int32.toNatClampNeg x2) (Int32.toNatClampNeg (σ.1 t 3)) (Int32.toNatClampNeg x3))) fun σ_4 => (
          ((¬ x2 < 0) ∧ (¬ (σ_4.1 t 3) < 0) ∧ (¬ x3 < 0) ∧ Int32.toNatClampNeg x2 + Int32.toNatClampNeg x3 ≤ 200 ∧ Int32.toNatClampNeg (σ_4.1 t 3) + Int32.toNatClampNeg x3 ≤ 200) ∧ (
          lt (sI σ_4 (t + 2) (va_cpy (σ_4.1 (q1 + 2)) (σ_4.1 (t + 2)) (Int32.toNatClampNeg x2) (Int32.toNatClampNeg (σ_4.1 t 3)) (Int32.toNatClampNeg x3))) fun σ_7 => (
          ((¬ x2 < 0) ∧ (¬ (σ_7.1 t 3) < 0) ∧ (¬ x3 < 0) ∧ Int32.toNatClampNeg x2 + Int32.toNatClampNeg x3 ≤ 200 ∧ Int32.toNatClampNeg (σ_7.1 t 3) + Int32.toNatClampNeg x3 ≤ 200) ∧ (
          lt (sI σ_7 (t + 3) (va_cpy (σ_7.1 (q1 + 3)) (σ_7.1 (t + 3)) (Int32.toNatClampNeg x2) (Int32.toNatClampNeg (σ_7.1 t 3)) (Int32.toNatClampNeg x3))) fun σ_10 => (
          lt (sI σ_10 t (upd (σ_10.1 t) 3 ((σ_10.1 t 3) + x3))) fun σ_12 => (
          Q σ_12))))))))
        else (
          Q σ))))))
def wX5_become  (t : Nat) (q1 : Nat) (σ : Sg) (Q : Sg → Prop) : Prop :=
  (YC.2.1 t = 4) ∧ (
  lt (sI σ t (upd (σ.1 t) 3 0)) fun σ_2 => (
  (YC.2.1 q1 = 4) ∧ (
  wX5_appendRun t q1 0 (σ_2.1 q1 3) σ_2 fun  σ_5 => (
  Q σ_5))))
def wX5_close  (t : Nat) (x1 : Int32) (σ : Sg) (Q : Sg → Prop) : Prop :=
  (YC.2.1 t = 4) ∧ (
  wX5_has t x1 σ fun r_3 σ_2 => (
  if r_3 = 0 then (
    Q σ_2)
  else (
    (vp_in x1 200) ∧ (
    lt (sI σ_2 (t + 3) (upd (σ_2.1 (t + 3)) (Int32.toNatClampNeg x1) ((σ_2.1 t 3) - x1))) fun σ_5 => (
    Q σ_5)))))
def wX5_rename  (t : Nat) (x1 : Int32) (x2 : Int32) (σ : Sg) (Q : Sg → Prop) : Prop :=
  (YC.2.1 t = 4) ∧ (
  wX5_has t x1 σ fun r_3 σ_2 => (
  if r_3 = 0 then (
    Q σ_2)
  else (
    (vp_in x1 200) ∧ (
    lt (sI σ_2 (t + 1) (upd (σ_2.1 (t + 1)) (Int32.toNatClampNeg x1) x2)) fun σ_5 => (
    lt (sI σ_5 (t + 2) (upd (σ_5.1 (t + 2)) (Int32.toNatClampNeg x1) 0)) fun σ_7 => (
    lt (sI σ_7 (t + 3) (upd (σ_7.1 (t + 3)) (Int32.toNatClampNeg x1) ((σ_7.1 t 3) - x1))) fun σ_9 => (
    Q σ_9)))))))
def wX5_insert  (t : Nat) (x1 : Int32) (x2 : Int32) (x3 : Int32) (σ : Sg) (Q : Sg → Prop) : Prop :=
  if x1 < 0 then (
    Q σ)
  else (
    (YC.2.1 t = 4) ∧ (
    if (σ.1 t 3) < x1 then (
      Q σ)
    else (
      if (σ.1 t 3) < 200 then (
        ((¬ x1 < 0) ∧ (¬ (x1 + 1) < 0) ∧ (¬ ((σ.1 t 3) - x1) < 0) ∧ Int32.toNatClampNeg x1 + Int32.toNatClampNeg ((σ.1 t 3) - x1) ≤ 200 ∧ Int32.toNatClampNeg (x1 + 1) + Int32.toNatClampNeg ((σ.1 t 3) - x1) ≤ 200) ∧ (
        lt (sI σ (t + 1) (va_cpy (σ.1 (t + 1)) (σ.1 (t + 1)) (Int32.toNatClampNeg x1) (Int32.toNatClampNeg (x1 + 1)) (Int32.toNatClampNeg ((σ.1 t 3) - x1)))) fun σ_3 => (
        ((¬ x1 < 0) ∧ (¬ (x1 + 1) < 0) ∧ (¬ ((σ_3.1 t 3) - x1) < 0) ∧ Int32.toNatClampNeg x1 + Int32.toNatClampNeg ((σ_3.1 t 3) - x1) ≤ 200 ∧ Int32.toNatClampNeg (x1 + 1) + Int32.toNatClampNeg ((σ_3.1 t 3) - x1) ≤ 200) ∧ (
        lt (sI σ_3 (t + 2) (va_cpy (σ_3.1 (t + 2)) (σ_3.1 (t + 2)) (Int32.toNatClampNeg x1) (Int32.toNatClampNeg (x1 + 1)) (Int32.toNatClampNeg ((σ_3.1 t 3) - x1)))) fun σ_6 => (
        ((¬ x1 < 0) ∧ (¬ (x1 + 1) < 0) ∧ (¬ ((σ_6.1 t 3) - x1) < 0) ∧ Int32.toNatClampNeg x1 + Int32.toNatClampNeg ((σ_6.1 t 3) - x1) ≤ 200 ∧ Int32.toNatClampNeg (x1 + 1) + Int32.toNatClampNeg ((σ_6.1 t 3) - x1) ≤ 200) ∧ (
        lt (sI σ_6 (t + 3) (va_cpy (σ_6.1 (t + 3)) (σ_6.1 (t + 3)) (Int32.toNatClampNeg x1) (Int32.toNatClampNeg (x1 + 1)) (Int32.toNatClampNeg ((σ_6.1 t 3) - x1)))) fun σ_9 => (
        lt (sI σ_9 t (upd (σ_9.1 t) 3 ((σ_9.1 t 3) + 1))) fun σ_11 => (
        (vp_in x1 200) ∧ (
        lt (sI σ_11 (t + 1) (upd (σ_11.1 (t + 1)) (Int32.toNatClampNeg x1) x2)) fun σ_14 => (
        lt (sI σ_14 (t + 2) (upd (σ_14.1 (t + 2)) (Int32.toNatClampNeg x1) x3)) fun σ_16 => (
        lt (sI σ_16 (t + 3) (upd (σ_16.1 (t + 3)) (Int32.toNatClampNeg x1) ((σ_16.1 t 3) - x1))) fun σ_18 => (
        Q σ_18))))))))))))
      else (
        Q σ))))
def wX5_cut  (t : Nat) (x1 : Int32) (x2 : Int32) (σ : Sg) (Q : Sg → Prop) : Prop :=
  if x1 < 0 then (
    Q σ)
  else (
    if x2 < 0 then (
      Q σ)
    else (
      (YC.2.1 t = 4) ∧ (
      if x1 ≤ ((σ.1 t 3) - x2) then (
        lt (x1 + x2) fun x3_2 => (
        ((¬ x3_2 < 0) ∧ (¬ x1 < 0) ∧ (¬ ((σ.1 t 3) - x3_2) < 0) ∧ Int32.toNatClampNeg x3_2 + Int32.toNatClampNeg ((σ.1 t 3) - x3_2) ≤ 200 ∧ Int32.toNatClampNeg x1 + Int32.toNatClampNeg ((σ.1 t 3) - x3_2) ≤ 200) ∧ (
        lt (sI σ (t + 1) (va_cpy (σ.1 (t + 1)) (σ.1 (t + 1)) (Int32.toNatClampNeg x3_2) (Int32.toNatClampNeg x1) (Int32.toNatClampNeg ((σ.1 t 3) - x3_2)))) fun σ_5 => (
        ((¬ x3_2 < 0) ∧ (¬ x1 < 0) ∧ (¬ ((σ_5.1 t 3) - x3_2) < 0) ∧ Int32.toNatClampNeg x3_2 + Int32.toNatClampNeg ((σ_5.1 t 3) - x3_2) ≤ 200 ∧ Int32.toNatClampNeg x1 + Int32.toNatClampNeg ((σ_5.1 t 3) - x3_2) ≤ 200) ∧ (
        lt (sI σ_5 (t + 2) (va_cpy (σ_5.1 (t + 2)) (σ_5.1 (t + 2)) (Int32.toNatClampNeg x3_2) (Int32.toNatClampNeg x1) (Int32.toNatClampNeg ((σ_5.1 t 3) - x3_2)))) fun σ_8 => (
        ((¬ x3_2 < 0) ∧ (¬ x1 < 0) ∧ (¬ ((σ_8.1 t 3) - x3_2) < 0) ∧ Int32.toNatClampNeg x3_2 + Int32.toNatClampNeg ((σ_8.1 t 3) - x3_2) ≤ 200 ∧ Int32.toNatClampNeg x1 + Int32.toNatClampNeg ((σ_8.1 t 3) - x3_2) ≤ 200) ∧ (
        lt (sI σ_8 (t + 3) (va_cpy (σ_8.1 (t + 3)) (σ_8.1 (t + 3)) (Int32.toNatClampNeg x3_2) (Int32.toNatClampNeg x1) (Int32.toNatClampNeg ((σ_8.1 t 3) - x3_2)))) fun σ_11 => (
        lt (sI σ_11 t (upd (σ_11.1 t) 3 ((σ_11.1 t 3) - x2))) fun σ_13 => (
        Q σ_13)))))))))
      else (
        Q σ))))
def wX5_endAsNumber  (t : Nat) (x1 : Int32) (x2 : Int32) (σ : Sg) (Q : Sg → Prop) : Prop :=
  (YC.2.1 t = 4) ∧ (
  wX5_has t x1 σ fun r_3 σ_2 => (
  if r_3 = 0 then (
    Q σ_2)
  else (
    lt (sI σ_2 t (upd (σ_2.1 t) 3 x1)) fun σ_4 => (
    wX5_append t 0 x2 σ_4 fun  σ_6 => (
    Q σ_6)))))
def wX5_endAsPart  (t : Nat) (x1 : Int32) (x2 : Int32) (σ : Sg) (Q : Sg → Prop) : Prop :=
  if x1 < 0 then (
    Q σ)
  else (
    if x2 < x1 then (
      Q σ)
    else (
      (YC.2.1 t = 4) ∧ (
      if x2 < (σ.1 t 3) then (
        (vp_in x2 200) ∧ (
        lt (if ((σ.1 t 3) - x2) < (σ.1 (t + 3) (Int32.toNatClampNeg x2)) then ((σ.1 t 3) - x2) else (σ.1 (t + 3) (Int32.toNatClampNeg x2))) fun x3_3 => (
        ((¬ x2 < 0) ∧ (¬ x1 < 0) ∧ (¬ x3_3 < 0) ∧ Int32.toNatClampNeg x2 + Int32.toNatClampNeg x3_3 ≤ 200 ∧ Int32.toNatClampNeg x1 + Int32.toNatClampNeg x3_3 ≤ 200) ∧ (
        lt (sI σ (t + 1) (va_cpy (σ.1 (t + 1)) (σ.1 (t + 1)) (Int32.toNatClampNeg x2) (Int32.toNatClampNeg x1) (Int32.toNatClampNeg x3_3))) fun σ_6 => (
        lt (sI σ_6 (t + 2) (va_cpy (σ_6.1 (t + 2)) (σ_6.1 (t + 2)) (Int32.toNatClampNeg x2) (Int32.toNatClampNeg x1) (Int32.toNatClampNeg x3_3))) fun σ_8 => (
        lt (sI σ_8 (t + 3) (va_cpy (σ_8.1 (t + 3)) (σ_8.1 (t + 3)) (Int32.toNatClampNeg x2) (Int32.toNatClampNeg x1) (Int32.toNatClampNeg x3_3))) fun σ_10 => (
        lt (sI σ_10 t (upd (σ_10.1 t) 3 (x1 + x3_3))) fun σ_12 => (
        Q σ_12))))))))
      else (
        Q σ))))
def wX7_maker   (σ : Sg) (Q : Int32 → Sg → Prop) : Prop :=
  if (σ.1 0 10) < 8 then (
    lt (sI σ 0 (upd (σ.1 0) 10 ((σ.1 0 10) + 1))) fun σ_1 => (
    Q ((σ_1.1 0 10) - 1) σ_1))
  else (
    Q (-3) σ)
def wX7_steps   (σ : Sg) (Q : Int32 → Sg → Prop) : Prop :=
  Q (σ.1 0 11) σ
def wX7_within  (x0 : Int32) (x1 : Int32) (x2 : Int32) (σ : Sg) (Q : Int32 → Sg → Prop) : Prop :=
  if x0 < x1 then (
    Q 0 σ)
  else (
    if x2 < x0 then (
      Q 0 σ)
    else (
      Q 1 σ))
def wX7_partsOf  (x0 : Int32) (σ : Sg) (Q : Int32 → Sg → Prop) : Prop :=
  if x0 < 0 then (
    Q 0 σ)
  else (
    if 9 ≤ x0 then (
      Q 0 σ)
    else (
      (vp_in x0 9) ∧ (
      Q (pPn (Int32.toNatClampNeg x0)) σ)))
def wX7_combine  (x0 : Int32) (x1 : Int32) (x2 : Int32) (σ : Sg) (Q : Int32 → Sg → Prop) : Prop :=
  if x0 = 4 then (
    Q (x1 + x2) σ)
  else if x0 = 5 then (
    Q (x1 - x2) σ)
  else if x0 = 6 then (
    Q (x1 * x2) σ)
  else (
  if x2 = 0 then (
    Q 0 σ)
  else (
    (¬ x2 = 0) ∧ (
    Q (x1 / x2) σ)))
def wX7_tell  (q0 : Nat) (x1 : Int32) (x2 : Int32) (σ : Sg) (Q : Int32 → Sg → Prop) : Prop :=
  (YC.2.1 q0 = 4) ∧ (
  wX5_has q0 x1 σ fun r_3 σ_2 => (
  if r_3 = 0 then (
    Q (-2000000000) σ_2)
  else (
    if x2 = 0 then (
      wX5_kindOf q0 x1 σ_2 fun r_5 σ_4 => (
      Q r_5 σ_4))
    else if x2 = 1 then (
      wX5_numberOf q0 x1 σ_2 fun r_7 σ_6 => (
      Q r_7 σ_6))
    else if x2 = 2 then (
      wX5_sizeOf q0 x1 σ_2 fun r_9 σ_8 => (
      Q r_9 σ_8))
    else (
    Q (-2000000000) σ_2))))
def wX7_placeAt  (x1 : Int32) (σ : Sg) (Q : Option Nat → Sg → Prop) : Prop :=
  wX7_within x1 0 19 σ fun r_2 σ_1 => (
  if r_2 = 0 then (
    Q none σ_1)
  else (
    (vp_in x1 20) ∧ (
    Q (some (YC.2.2.2 14 (Int32.toNatClampNeg x1))) σ_1)))
def wX7_programAt_17   (σ : Sg) (Q : Option Nat → Sg → Prop) : Prop :=
  Q none σ
def wX7_programAt  (x1 : Int32) (σ : Sg) (Q : Option Nat → Sg → Prop) : Prop :=
  wX7_placeAt x1 σ fun o_2 σ_1 => (
  (o_2 = none → (
    wX7_programAt_17    σ_1 Q)) ∧ ∀ z_3, o_2 = some z_3 → (
    (YC.2.1 z_3 = 4) ∧ (
    if (σ_1.1 z_3 3) = 0 then (
      wX7_programAt_17    σ_1 Q)
    else (
      Q (some z_3) σ_1))))
def wX7_makerAt  (x1 : Int32) (σ : Sg) (Q : Option Nat → Sg → Prop) : Prop :=
  wX7_within x1 0 ((σ.1 0 10) - 1) σ fun r_2 σ_1 => (
  if r_2 = 0 then (
    Q none σ_1)
  else (
    if 8 ≤ x1 then (
      Q none σ_1)
    else (
      (vp_in x1 8) ∧ (
      Q (some (YC.2.2.2 15 (Int32.toNatClampNeg x1))) σ_1))))
def wX7_keptPrograms_21 (K4 : Int32 → Int32 → Sg → Prop) (x1 : Int32) (x2 : Int32) (σ : Sg) (Q : Int32 → Sg → Prop) : Prop :=
  lt (x2 + 1) fun x2_1 => (
  K4 x1 x2_1 σ)
def wX7_keptPrograms_4_b  (K4 : Int32 → Int32 → Sg → Prop) (x1 : Int32) (x2 : Int32) (σ : Sg) (Q : Int32 → Sg → Prop) : Prop :=
    if 20 ≤ x2 then (
      Q x1 σ)
    else (
      wX7_programAt x2 σ fun o_4 σ_3 => (
      (o_4 = none → (
        wX7_keptPrograms_21  K4 x1 x2 σ_3 Q)) ∧ ∀ z_5, o_4 = some z_5 → (
        lt (x1 + 1) fun x1_6 => (
        wX7_keptPrograms_21  K4 x1_6 x2 σ_3 Q))))
def wX7_keptPrograms_4  (Q : Int32 → Sg → Prop) : Nat → Int32 → Int32 → Sg → Prop
  | 0 => fun _ _ _ => False
  | n + 1 => fun x1 x2 σ => wX7_keptPrograms_4_b  (wX7_keptPrograms_4  Q n) x1 x2 σ Q
def wX7_keptPrograms   (σ : Sg) (Q : Int32 → Sg → Prop) : Prop :=
  ∃ nn, wX7_keptPrograms_4   Q nn 0 0 σ
def wX7_keptNodes_27 (K4 : Int32 → Int32 → Sg → Prop) (x1 : Int32) (x2 : Int32) (σ : Sg) (Q : Int32 → Sg → Prop) : Prop :=
  lt (x2 + 1) fun x2_1 => (
  K4 x1 x2_1 σ)
def wX7_keptNodes_4_b  (K4 : Int32 → Int32 → Sg → Prop) (x1 : Int32) (x2 : Int32) (σ : Sg) (Q : Int32 → Sg → Prop) : Prop :=
    if 20 ≤ x2 then (
      Q x1 σ)
    else (
      wX7_programAt x2 σ fun o_4 σ_3 => (
      (o_4 = none → (
        wX7_keptNodes_27  K4 x1 x2 σ_3 Q)) ∧ ∀ z_5, o_4 = some z_5 → (
        (YC.2.1 z_5 = 4) ∧ (
        lt (x1 + (σ_3.1 z_5 3)) fun x1_7 => (
        wX7_keptNodes_27  K4 x1_7 x2 σ_3 Q)))))
def wX7_keptNodes_4  (Q : Int32 → Sg → Prop) : Nat → Int32 → Int32 → Sg → Prop
  | 0 => fun _ _ _ => False
  | n + 1 => fun x1 x2 σ => wX7_keptNodes_4_b  (wX7_keptNodes_4  Q n) x1 x2 σ Q
def wX7_keptNodes   (σ : Sg) (Q : Int32 → Sg → Prop) : Prop :=
  ∃ nn, wX7_keptNodes_4   Q nn 0 0 σ
def wX8_in  (x0 : Int64) (x2 : Int64) (x4 : Int64) (σ : Sg) (Q : Int32 → Sg → Prop) : Prop :=
  if x0 < x2 then (
    Q 0 σ)
  else (
    if x4 < x0 then (
      Q 0 σ)
    else (
      Q 1 σ))
def wX8_parts  (x0 : Int32) (σ : Sg) (Q : Int32 → Sg → Prop) : Prop :=
  if 3 ≤ x0 then (
    if x0 = 3 then (
      Q 1 σ)
    else (
      if x0 = 8 then (
        Q 3 σ)
      else (
        Q 2 σ)))
  else (
    Q 0 σ)
def wX8_make_109  (s1 : Int32) (s2 : Int32) (s3 : Int32) (σ : Sg) (Q : Int32 → Sg → Prop) : Prop :=
  (vp_in s1 9000) ∧ (
  lt (sI σ 6 (upd (σ.1 6) (Int32.toNatClampNeg s1) (s2 + s3))) fun σ_2 => (
  lt (sI σ_2 0 (upd (σ_2.1 0) 1 ((σ_2.1 0 1) + 1))) fun σ_4 => (
  Q ((σ_4.1 0 1) - 1) σ_4)))
def wX8_make_92  (x5 : Int32) (s1 : Int32) (s2 : Int32) (s3 : Int32) (σ : Sg) (Q : Int32 → Sg → Prop) : Prop :=
  if 0 ≤ x5 then (
    (vp_in x5 9000) ∧ (
    wX8_make_109   s1 (s2 + s3) (σ.1 6 (Int32.toNatClampNeg x5)) σ Q))
  else (
    wX8_make_109   s1 (s2 + s3) 0 σ Q)
def wX8_make_75  (x4 : Int32) (x5 : Int32) (s1 : Int32) (s2 : Int32) (s3 : Int32) (σ : Sg) (Q : Int32 → Sg → Prop) : Prop :=
  if 0 ≤ x4 then (
    (vp_in x4 9000) ∧ (
    wX8_make_92   x5 s1 (s2 + s3) (σ.1 6 (Int32.toNatClampNeg x4)) σ Q))
  else (
    wX8_make_92   x5 s1 (s2 + s3) 0 σ Q)
def wX8_make  (x1 : Int32) (x2 : Int32) (x3 : Int32) (x4 : Int32) (x5 : Int32) (σ : Sg) (Q : Int32 → Sg → Prop) : Prop :=
  (vp_in (σ.1 0 1) 9000) ∧ (
  lt (sI σ 1 (upd (σ.1 1) (Int32.toNatClampNeg (σ.1 0 1)) x1)) fun σ_9 => (
  (vp_in (σ_9.1 0 1) 9000) ∧ (
  lt (sI σ_9 2 (upd (σ_9.1 2) (Int32.toNatClampNeg (σ_9.1 0 1)) x2)) fun σ_12 => (
  (vp_in (σ_12.1 0 1) 9000) ∧ (
  lt (sI σ_12 3 (upd (σ_12.1 3) (Int32.toNatClampNeg (σ_12.1 0 1)) x3)) fun σ_15 => (
  (vp_in (σ_15.1 0 1) 9000) ∧ (
  lt (sI σ_15 4 (upd (σ_15.1 4) (Int32.toNatClampNeg (σ_15.1 0 1)) x4)) fun σ_18 => (
  (vp_in (σ_18.1 0 1) 9000) ∧ (
  lt (sI σ_18 5 (upd (σ_18.1 5) (Int32.toNatClampNeg (σ_18.1 0 1)) x5)) fun σ_21 => (
  if 0 ≤ x3 then (
    (vp_in x3 9000) ∧ (
    wX8_make_75   x4 x5 (σ_21.1 0 1) 1 (σ_21.1 6 (Int32.toNatClampNeg x3)) σ_21 Q))
  else (
    wX8_make_75   x4 x5 (σ_21.1 0 1) 1 0 σ_21 Q)))))))))))
def wX8_numeral  (x1 : Int32) (σ : Sg) (Q : Int32 → Sg → Prop) : Prop :=
  wX8_make 0 x1 (-1) (-1) (-1) σ fun r_2 σ_1 => (
  Q r_2 σ_1)
def wX8_pair  (x1 : Int32) (x2 : Int32) (x3 : Int32) (σ : Sg) (Q : Int32 → Sg → Prop) : Prop :=
  wX8_make x1 0 x2 x3 (-1) σ fun r_2 σ_1 => (
  Q r_2 σ_1)
def wX8_isNumber  (x1 : Int32) (x2 : Int32) (σ : Sg) (Q : Int32 → Sg → Prop) : Prop :=
  (vp_in x1 9000) ∧ (
  if (σ.1 1 (Int32.toNatClampNeg x1)) = 0 then (
    if (σ.1 2 (Int32.toNatClampNeg x1)) = x2 then (
      Q 1 σ)
    else (
      Q 0 σ))
  else (
    Q 0 σ))
def wX8_areSame_b (F : Int32 → Int32 → Sg → (Int32 → Sg → Prop) → Prop) (x1 : Int32) (x2 : Int32) (σ : Sg) (Q : Int32 → Sg → Prop) : Prop :=
  if x1 = x2 then (
    Q 1 σ)
  else (
    if x1 < 0 then (
      Q 0 σ)
    else (
      if x2 < 0 then (
        Q 0 σ)
      else (
        (vp_in x1 9000) ∧ (
        (vp_in x2 9000) ∧ (
        if (σ.1 1 (Int32.toNatClampNeg x1)) = (σ.1 1 (Int32.toNatClampNeg x2)) then (
          if (σ.1 2 (Int32.toNatClampNeg x1)) = (σ.1 2 (Int32.toNatClampNeg x2)) then (
            if (σ.1 6 (Int32.toNatClampNeg x1)) = (σ.1 6 (Int32.toNatClampNeg x2)) then (
              F (σ.1 3 (Int32.toNatClampNeg x1)) (σ.1 3 (Int32.toNatClampNeg x2)) σ fun r_4 σ_3 => (
              if r_4 = 0 then (
                Q 0 σ_3)
              else (
                F (σ_3.1 4 (Int32.toNatClampNeg x1)) (σ_3.1 4 (Int32.toNatClampNeg x2)) σ_3 fun r_6 σ_5 => (
                if r_6 = 0 then (
                  Q 0 σ_5)
                else (
                  F (σ_5.1 5 (Int32.toNatClampNeg x1)) (σ_5.1 5 (Int32.toNatClampNeg x2)) σ_5 fun r_8 σ_7 => (
                  if r_8 = 0 then (
                    Q 0 σ_7)
                  else (
                    Q 1 σ_7)))))))
            else (
              Q 0 σ))
          else (
            Q 0 σ))
        else (
          Q 0 σ))))))
def wX8_areSame : Nat → Int32 → Int32 → Sg → (Int32 → Sg → Prop) → Prop
  | 0 => fun _ _ _ _ => False
  | n + 1 => fun x1 x2 σ Q => wX8_areSame_b (wX8_areSame n) x1 x2 σ Q
def wX8_both  (x0 : Int32) (x1 : Int32) (x2 : Int32) (σ : Sg) (Q : Int32 → Sg → Prop) : Prop :=
  if x0 = 4 then (
    Q (x1 + x2) σ)
  else (
    if x0 = 5 then (
      Q (x1 - x2) σ)
    else (
      if x0 = 6 then (
        Q (x1 * x2) σ)
      else (
        if x2 = (-1) then (
          Q (-x1) σ)
        else (
          (¬ x2 = 0) ∧ (
          Q (x1 / x2) σ)))))
def wX8_works_242 (F : Int32 → Int32 → Int32 → Sg → (Int32 → Sg → Prop) → Prop) (x1 : Int32) (x4 : Int32) (x5 : Int32) (s1 : Int32) (σ : Sg) (Q : Int32 → Sg → Prop) : Prop :=
  (s1 = 0 ∨ s1 = 1) ∧ (
  lt (sI σ 0 (upd (σ.1 0) 8 s1)) fun σ_2 => (
  if (σ_2.1 0 8) = 0 then (
    (vp_in x1 9000) ∧ (
    wX8_both (σ_2.1 1 (Int32.toNatClampNeg x1)) x4 x5 σ_2 fun r_6 σ_5 => (
    Q r_6 σ_5)))
  else (
    Q 0 σ_2)))
def wX8_works_241 (F : Int32 → Int32 → Int32 → Sg → (Int32 → Sg → Prop) → Prop) (x1 : Int32) (x4 : Int32) (x5 : Int32) (σ : Sg) (Q : Int32 → Sg → Prop) : Prop :=
  wX8_works_242 F  x1 x4 x5 0 σ Q
def wX8_works_180 (F : Int32 → Int32 → Int32 → Sg → (Int32 → Sg → Prop) → Prop) (x5 : Int32) (s1 : Int32) (s2 : Int32) (σ : Sg) (Q : Int32 → Sg → Prop) : Prop :=
  lt (sI σ 0 (upd (σ.1 0) 9 (s1 + s2))) fun σ_7 => (
  Q x5 σ_7)
def wX8_works_b (F : Int32 → Int32 → Int32 → Sg → (Int32 → Sg → Prop) → Prop) (x1 : Int32) (x2 : Int32) (x3 : Int32) (σ : Sg) (Q : Int32 → Sg → Prop) : Prop :=
  if (σ.1 0 8) = 0 then (
    (vp_in x1 9000) ∧ (
    if 3 ≤ (σ.1 1 (Int32.toNatClampNeg x1)) then (
      F (σ.1 3 (Int32.toNatClampNeg x1)) x2 x3 σ fun r_11 σ_10 => (
      if (σ_10.1 0 8) = 0 then (
        if (σ_10.1 1 (Int32.toNatClampNeg x1)) = 3 then (
          lt (sI σ_10 0 (upd (σ_10.1 0) 9 ((σ_10.1 0 9) + 1))) fun σ_22 => (
          Q (-r_11) σ_22))
        else (
          if (σ_10.1 1 (Int32.toNatClampNeg x1)) = 8 then (
            lt (sI σ_10 0 (upd (σ_10.1 0) 9 ((σ_10.1 0 9) + 1))) fun σ_16 => (
            if r_11 = 0 then (
              F (σ_16.1 5 (Int32.toNatClampNeg x1)) x2 x3 σ_16 fun r_21 σ_20 => (
              Q r_21 σ_20))
            else (
              F (σ_16.1 4 (Int32.toNatClampNeg x1)) x2 x3 σ_16 fun r_19 σ_18 => (
              if (σ_18.1 0 8) = 0 then (
                wX8_works_180 F  r_19 (σ_18.1 0 9) 1 σ_18 Q)
              else (
                wX8_works_180 F  r_19 (σ_18.1 0 9) 0 σ_18 Q)))))
          else (
            F (σ_10.1 4 (Int32.toNatClampNeg x1)) x2 x3 σ_10 fun r_13 σ_12 => (
            if (σ_12.1 0 8) = 0 then (
              lt (sI σ_12 0 (upd (σ_12.1 0) 9 ((σ_12.1 0 9) + 1))) fun σ_14 => (
              if (σ_14.1 1 (Int32.toNatClampNeg x1)) = 7 then (
                if r_13 = 0 then (
                  wX8_works_242 F  x1 r_11 r_13 1 σ_14 Q)
                else (
                  wX8_works_241 F  x1 r_11 r_13 σ_14 Q))
              else (
                wX8_works_241 F  x1 r_11 r_13 σ_14 Q)))
            else (
              Q 0 σ_12)))))
      else (
        Q 0 σ_10)))
    else (
      lt (sI σ 0 (upd (σ.1 0) 9 ((σ.1 0 9) + 1))) fun σ_24 => (
      if (σ_24.1 1 (Int32.toNatClampNeg x1)) = 0 then (
        Q (σ_24.1 2 (Int32.toNatClampNeg x1)) σ_24)
      else (
        if (σ_24.1 1 (Int32.toNatClampNeg x1)) = 1 then (
          Q x2 σ_24)
        else (
          Q x3 σ_24))))))
  else (
    Q 0 σ)
def wX8_works : Nat → Int32 → Int32 → Int32 → Sg → (Int32 → Sg → Prop) → Prop
  | 0 => fun _ _ _ _ _ => False
  | n + 1 => fun x1 x2 x3 σ Q => wX8_works_b (wX8_works n) x1 x2 x3 σ Q
def wX8_valueOf (d : Nat) (x1 : Int32) (x2 : Int32) (x3 : Int32) (σ : Sg) (Q : Int32 → Sg → Prop) : Prop :=
  lt (sI σ 0 (upd (σ.1 0) 8 0)) fun σ_1 => (
  lt (sI σ_1 0 (upd (σ_1.1 0) 9 0)) fun σ_3 => (
  wX8_works d x1 x2 x3 σ_3 fun r_6 σ_5 => (
  Q r_6 σ_5)))
def wX8_isSafe_12_b (d : Nat) (K3 : Int32 → Int32 → Int32 → Sg → Prop) (K12 : Int32 → Int32 → Int32 → Int32 → Sg → Prop) (x1 : Int32) (x2 : Int32) (x3 : Int32) (x4 : Int32) (σ : Sg) (Q : Int32 → Sg → Prop) : Prop :=
    if x2 < x4 then (
      lt (x3 + 1) fun x3_1 => (
      K3 x1 x2 x3_1 σ))
    else (
      wX8_valueOf d x1 x3 x4 σ fun r_4 σ_3 => (
      if (σ_3.1 0 8) = 0 then (
        lt (x4 + 1) fun x4_5 => (
        K12 x1 x2 x3 x4_5 σ_3))
      else (
        Q 0 σ_3)))
def wX8_isSafe_12 (d : Nat) (K3 : Int32 → Int32 → Int32 → Sg → Prop) (Q : Int32 → Sg → Prop) : Nat → Int32 → Int32 → Int32 → Int32 → Sg → Prop
  | 0 => fun _ _ _ _ _ => False
  | n + 1 => fun x1 x2 x3 x4 σ => wX8_isSafe_12_b d K3 (wX8_isSafe_12 d K3 Q n) x1 x2 x3 x4 σ Q
def wX8_isSafe_3_b (d : Nat) (K3 : Int32 → Int32 → Int32 → Sg → Prop) (x1 : Int32) (x2 : Int32) (x3 : Int32) (σ : Sg) (Q : Int32 → Sg → Prop) : Prop :=
    if x2 < x3 then (
      Q 1 σ)
    else (
      lt (-x2) fun x4_7 => (
      ∃ nn, wX8_isSafe_12 d K3 Q nn x1 x2 x3 x4_7 σ))
def wX8_isSafe_3 (d : Nat) (Q : Int32 → Sg → Prop) : Nat → Int32 → Int32 → Int32 → Sg → Prop
  | 0 => fun _ _ _ _ => False
  | n + 1 => fun x1 x2 x3 σ => wX8_isSafe_3_b d (wX8_isSafe_3 d Q n) x1 x2 x3 σ Q
def wX8_isSafe (d : Nat) (x1 : Int32) (x2 : Int32) (σ : Sg) (Q : Int32 → Sg → Prop) : Prop :=
  lt (-x2) fun x3_9 => (
  ∃ nn, wX8_isSafe_3 d  Q nn x1 x2 x3_9 σ)
def wX8_folded_151  (s1 : Int32) (σ : Sg) (Q : Int32 → Sg → Prop) : Prop :=
  wX8_numeral s1 σ fun r_2 σ_1 => (
  Q r_2 σ_1)
def wX8_folded_143  (x3 : Int32) (x4 : Int32) (x5 : Int32) (σ : Sg) (Q : Int32 → Sg → Prop) : Prop :=
  wX8_both x3 x4 x5 σ fun r_4 σ_3 => (
  wX8_folded_151   r_4 σ_3 Q)
def wX8_folded_122  (x2 : Int32) (x3 : Int32) (x4 : Int32) (x5 : Int32) (σ : Sg) (Q : Int32 → Sg → Prop) : Prop :=
  if x3 = 6 then (
    if x2 = 2 then (
      wX8_folded_151   (Int16.toInt32 (Int32.toInt16 (x4 * x5))) σ Q)
    else (
      wX8_folded_143   x3 x4 x5 σ Q))
  else (
    wX8_folded_143   x3 x4 x5 σ Q)
def wX8_folded_102  (x2 : Int32) (x3 : Int32) (x4 : Int32) (x5 : Int32) (σ : Sg) (Q : Int32 → Sg → Prop) : Prop :=
  if x3 = 5 then (
    if x2 = 1 then (
      wX8_numeral (x5 - x4) σ fun r_6 σ_5 => (
      Q r_6 σ_5))
    else (
      wX8_folded_122   x2 x3 x4 x5 σ Q))
  else (
    wX8_folded_122   x2 x3 x4 x5 σ Q)
def wX8_folded  (x1 : Int32) (x2 : Int32) (σ : Sg) (Q : Int32 → Sg → Prop) : Prop :=
  (vp_in x1 9000) ∧ (
  lt (σ.1 1 (Int32.toNatClampNeg x1)) fun x3_8 => (
  if x3_8 < 3 then (
    Q x1 σ)
  else (
    if x3_8 = 8 then (
      Q x1 σ)
    else (
      (vp_in (σ.1 3 (Int32.toNatClampNeg x1)) 9000) ∧ (
      if (σ.1 1 (Int32.toNatClampNeg (σ.1 3 (Int32.toNatClampNeg x1)))) = 0 then (
        lt (σ.1 2 (Int32.toNatClampNeg (σ.1 3 (Int32.toNatClampNeg x1)))) fun x4_11 => (
        if x3_8 = 3 then (
          wX8_numeral (-x4_11) σ fun r_17 σ_16 => (
          Q r_17 σ_16))
        else (
          (vp_in (σ.1 4 (Int32.toNatClampNeg x1)) 9000) ∧ (
          if (σ.1 1 (Int32.toNatClampNeg (σ.1 4 (Int32.toNatClampNeg x1)))) = 0 then (
            lt (σ.1 2 (Int32.toNatClampNeg (σ.1 4 (Int32.toNatClampNeg x1)))) fun x5_14 => (
            if x3_8 = 7 then (
              if x5_14 = 0 then (
                Q x1 σ)
              else (
                wX8_folded_102   x2 x3_8 x4_11 x5_14 σ Q))
            else (
              wX8_folded_102   x2 x3_8 x4_11 x5_14 σ Q)))
          else (
            Q x1 σ)))))
      else (
        Q x1 σ))))))
def wX8_zeroed  (x1 : Int32) (x2 : Int32) (σ : Sg) (Q : Int32 → Sg → Prop) : Prop :=
  (vp_in x1 9000) ∧ (
  lt (σ.1 1 (Int32.toNatClampNeg x1)) fun x3_2 => (
  if x3_2 < 4 then (
    Q x1 σ)
  else (
    if x3_2 = 8 then (
      Q x1 σ)
    else (
      lt (σ.1 3 (Int32.toNatClampNeg x1)) fun x4_4 => (
      lt (σ.1 4 (Int32.toNatClampNeg x1)) fun x5_6 => (
      if x3_2 = 4 then (
        wX8_isNumber x5_6 0 σ fun r_27 σ_26 => (
        if r_27 = 0 then (
          wX8_isNumber x4_4 0 σ_26 fun r_29 σ_28 => (
          if r_29 = 0 then (
            Q x1 σ_28)
          else (
            Q x5_6 σ_28)))
        else (
          Q x4_4 σ_26)))
      else (
        if x3_2 = 5 then (
          wX8_isNumber x5_6 0 σ fun r_23 σ_22 => (
          if r_23 = 0 then (
            if x2 = 1 then (
              wX8_isNumber x4_4 0 σ_22 fun r_25 σ_24 => (
              if r_25 = 0 then (
                Q x1 σ_24)
              else (
                Q x5_6 σ_24)))
            else (
              Q x1 σ_22))
          else (
            Q x4_4 σ_22)))
        else (
          if x3_2 = 7 then (
            wX8_isNumber x5_6 1 σ fun r_21 σ_20 => (
            if r_21 = 0 then (
              Q x1 σ_20)
            else (
              Q x4_4 σ_20)))
          else (
            wX8_isNumber x5_6 1 σ fun r_9 σ_8 => (
            if r_9 = 0 then (
              wX8_isNumber x4_4 1 σ_8 fun r_11 σ_10 => (
              if r_11 = 0 then (
                wX8_isNumber x5_6 0 σ_10 fun r_13 σ_12 => (
                if r_13 = 0 then (
                  wX8_isNumber x4_4 0 σ_12 fun r_15 σ_14 => (
                  if r_15 = 0 then (
                    Q x1 σ_14)
                  else (
                    if x2 = 2 then (
                      Q x5_6 σ_14)
                    else (
                      wX8_numeral 0 σ_14 fun r_17 σ_16 => (
                      Q r_17 σ_16)))))
                else (
                  if x2 = 2 then (
                    Q x4_4 σ_12)
                  else (
                    wX8_numeral 0 σ_12 fun r_19 σ_18 => (
                    Q r_19 σ_18)))))
              else (
                Q x5_6 σ_10)))
            else (
              Q x4_4 σ_8)))))))))))
def wX8_lookSame_63 (d : Nat)  (σ : Sg) (Q : Int32 → Sg → Prop) : Prop :=
  Q 0 σ
def wX8_lookSame_59 (d : Nat)  (σ : Sg) (Q : Int32 → Sg → Prop) : Prop :=
  Q 1 σ
def wX8_lookSame (d : Nat) (x1 : Int32) (x2 : Int32) (x3 : Int32) (σ : Sg) (Q : Int32 → Sg → Prop) : Prop :=
  if x3 = 2 then (
    (vp_in x1 9000) ∧ (
    (vp_in x2 9000) ∧ (
    if (σ.1 1 (Int32.toNatClampNeg x1)) = (σ.1 1 (Int32.toNatClampNeg x2)) then (
      if (σ.1 6 (Int32.toNatClampNeg x1)) = (σ.1 6 (Int32.toNatClampNeg x2)) then (
        if (σ.1 1 (Int32.toNatClampNeg x1)) = 0 then (
          if (σ.1 2 (Int32.toNatClampNeg x1)) = (σ.1 2 (Int32.toNatClampNeg x2)) then (
            wX8_lookSame_59 d   σ Q)
          else (
            wX8_lookSame_63 d   σ Q))
        else (
          wX8_lookSame_59 d   σ Q))
      else (
        wX8_lookSame_63 d   σ Q))
    else (
      wX8_lookSame_63 d   σ Q))))
  else (
    wX8_areSame d x1 x2 σ fun r_2 σ_1 => (
    (r_2 = 0 ∨ r_2 = 1) ∧ (
    Q r_2 σ_1)))
def wX8_samed_36 (d : Nat) (x1 : Int32) (x2 : Int32) (σ : Sg) (Q : Int32 → Sg → Prop) : Prop :=
  (vp_in x1 9000) ∧ (
  if (σ.1 1 (Int32.toNatClampNeg x1)) = 4 then (
    if x2 = 1 then (
      wX8_areSame d (σ.1 3 (Int32.toNatClampNeg x1)) (σ.1 4 (Int32.toNatClampNeg x1)) σ fun r_3 σ_2 => (
      if r_3 = 0 then (
        Q x1 σ_2)
      else (
        wX8_numeral 0 σ_2 fun r_5 σ_4 => (
        Q r_5 σ_4))))
    else (
      Q x1 σ))
  else (
    Q x1 σ))
def wX8_samed (d : Nat) (x1 : Int32) (x2 : Int32) (σ : Sg) (Q : Int32 → Sg → Prop) : Prop :=
  (vp_in x1 9000) ∧ (
  if (σ.1 1 (Int32.toNatClampNeg x1)) = 5 then (
    wX8_lookSame d (σ.1 3 (Int32.toNatClampNeg x1)) (σ.1 4 (Int32.toNatClampNeg x1)) x2 σ fun r_8 σ_7 => (
    if r_8 = 0 then (
      wX8_samed_36 d  x1 x2 σ_7 Q)
    else (
      wX8_numeral 0 σ_7 fun r_10 σ_9 => (
      Q r_10 σ_9))))
  else (
    wX8_samed_36 d  x1 x2 σ Q))
def wX8_picked_73  (x1 : Int32) (σ : Sg) (Q : Int32 → Sg → Prop) : Prop :=
  (vp_in x1 9000) ∧ (
  Q (σ.1 4 (Int32.toNatClampNeg x1)) σ)
def wX8_picked_64  (x1 : Int32) (σ : Sg) (Q : Int32 → Sg → Prop) : Prop :=
  (vp_in x1 9000) ∧ (
  Q (σ.1 5 (Int32.toNatClampNeg x1)) σ)
def wX8_picked  (x1 : Int32) (x2 : Int32) (σ : Sg) (Q : Int32 → Sg → Prop) : Prop :=
  (vp_in x1 9000) ∧ (
  if (σ.1 1 (Int32.toNatClampNeg x1)) = 8 then (
    (vp_in (σ.1 3 (Int32.toNatClampNeg x1)) 9000) ∧ (
    if (σ.1 1 (Int32.toNatClampNeg (σ.1 3 (Int32.toNatClampNeg x1)))) = 0 then (
      lt (σ.1 2 (Int32.toNatClampNeg (σ.1 3 (Int32.toNatClampNeg x1)))) fun x3_5 => (
      if x2 = 2 then (
        Q (σ.1 4 (Int32.toNatClampNeg x1)) σ)
      else (
        if x3_5 = 0 then (
          wX8_picked_64   x1 σ Q)
        else (
          if x2 = 1 then (
            if 0 ≤ x3_5 then (
              wX8_picked_73   x1 σ Q)
            else (
              wX8_picked_64   x1 σ Q))
          else (
            wX8_picked_73   x1 σ Q)))))
    else (
      Q x1 σ)))
  else (
    Q x1 σ))
def wX8_melted_67 (d : Nat) (x1 : Int32) (x2 : Int32) (s0 : Int32) (σ : Sg) (Q : Int32 → Sg → Prop) : Prop :=
  if s0 = 0 then (
    if x2 = 2 then (
      (vp_in x1 9000) ∧ (
      wX8_areSame d (σ.1 3 (Int32.toNatClampNeg x1)) (σ.1 4 (Int32.toNatClampNeg x1)) σ fun r_3 σ_2 => (
      if r_3 = 0 then (
        Q x1 σ_2)
      else (
        Q (σ_2.1 3 (Int32.toNatClampNeg x1)) σ_2))))
    else (
      Q x1 σ))
  else (
    (vp_in x1 9000) ∧ (
    Q (σ.1 4 (Int32.toNatClampNeg x1)) σ))
def wX8_melted (d : Nat) (x1 : Int32) (x2 : Int32) (σ : Sg) (Q : Int32 → Sg → Prop) : Prop :=
  (vp_in x1 9000) ∧ (
  if (σ.1 1 (Int32.toNatClampNeg x1)) = 8 then (
    if x2 = 1 then (
      (vp_in (σ.1 4 (Int32.toNatClampNeg x1)) 9000) ∧ (
      (vp_in (σ.1 5 (Int32.toNatClampNeg x1)) 9000) ∧ (
      if (σ.1 6 (Int32.toNatClampNeg (σ.1 4 (Int32.toNatClampNeg x1)))) = (σ.1 6 (Int32.toNatClampNeg (σ.1 5 (Int32.toNatClampNeg x1)))) then (
        wX8_melted_67 d  x1 x2 1 σ Q)
      else (
        wX8_melted_67 d  x1 x2 0 σ Q))))
    else (
      wX8_areSame d (σ.1 4 (Int32.toNatClampNeg x1)) (σ.1 5 (Int32.toNatClampNeg x1)) σ fun r_7 σ_6 => (
      wX8_melted_67 d  x1 x2 r_7 σ_6 Q)))
  else (
    Q x1 σ))
def wX8_twice  (x1 : Int32) (x2 : Int32) (x3 : Int32) (σ : Sg) (Q : Int32 → Sg → Prop) : Prop :=
  (vp_in x1 9000) ∧ (
  (vp_in x3 9000) ∧ (
  if ((((σ.1 0 11) - (σ.1 6 (Int32.toNatClampNeg x1))) + 1) + (2 * (σ.1 6 (Int32.toNatClampNeg x3)))) ≤ 200 then (
    wX8_pair x2 x3 x3 σ fun r_4 σ_3 => (
    Q r_4 σ_3))
  else (
    Q x1 σ)))
def wX8_twiced_129  (x1 : Int32) (x2 : Int32) (σ : Sg) (Q : Int32 → Sg → Prop) : Prop :=
  (vp_in x1 9000) ∧ (
  if (σ.1 1 (Int32.toNatClampNeg x1)) = 7 then (
    if x2 = 2 then (
      wX8_isNumber (σ.1 4 (Int32.toNatClampNeg x1)) 2 σ fun r_3 σ_2 => (
      if r_3 = 0 then (
        Q x1 σ_2)
      else (
        wX8_twice x1 5 (σ_2.1 3 (Int32.toNatClampNeg x1)) σ_2 fun r_5 σ_4 => (
        Q r_5 σ_4))))
    else (
      Q x1 σ))
  else (
    Q x1 σ))
def wX8_twiced_97  (x1 : Int32) (x2 : Int32) (σ : Sg) (Q : Int32 → Sg → Prop) : Prop :=
  if x2 = 1 then (
    (vp_in x1 9000) ∧ (
    wX8_isNumber (σ.1 3 (Int32.toNatClampNeg x1)) 3 σ fun r_8 σ_7 => (
    if r_8 = 0 then (
      wX8_twiced_129   x1 x2 σ_7 Q)
    else (
      wX8_twice x1 4 (σ_7.1 4 (Int32.toNatClampNeg x1)) σ_7 fun r_10 σ_9 => (
      Q r_10 σ_9)))))
  else (
    wX8_twiced_129   x1 x2 σ Q)
def wX8_twiced  (x1 : Int32) (x2 : Int32) (σ : Sg) (Q : Int32 → Sg → Prop) : Prop :=
  (vp_in x1 9000) ∧ (
  if (σ.1 1 (Int32.toNatClampNeg x1)) = 6 then (
    wX8_isNumber (σ.1 4 (Int32.toNatClampNeg x1)) 2 σ fun r_13 σ_12 => (
    if r_13 = 0 then (
      wX8_isNumber (σ_12.1 3 (Int32.toNatClampNeg x1)) 2 σ_12 fun r_15 σ_14 => (
      if r_15 = 0 then (
        if x2 = 1 then (
          wX8_isNumber (σ_14.1 4 (Int32.toNatClampNeg x1)) 3 σ_14 fun r_17 σ_16 => (
          if r_17 = 0 then (
            wX8_twiced_97   x1 x2 σ_16 Q)
          else (
            wX8_twice x1 4 (σ_16.1 3 (Int32.toNatClampNeg x1)) σ_16 fun r_19 σ_18 => (
            Q r_19 σ_18))))
        else (
          wX8_twiced_97   x1 x2 σ_14 Q))
      else (
        wX8_twice x1 4 (σ_14.1 4 (Int32.toNatClampNeg x1)) σ_14 fun r_21 σ_20 => (
        Q r_21 σ_20))))
    else (
      wX8_twice x1 4 (σ_12.1 3 (Int32.toNatClampNeg x1)) σ_12 fun r_23 σ_22 => (
      Q r_23 σ_22))))
  else (
    wX8_twiced_129   x1 x2 σ Q))
def wX8_sunk_172  (x1 : Int32) (s1 : Int32) (σ : Sg) (Q : Int32 → Sg → Prop) : Prop :=
  (vp_in x1 9000) ∧ (
  (vp_in (σ.1 4 (Int32.toNatClampNeg x1)) 9000) ∧ (
  wX8_pair s1 (σ.1 3 (Int32.toNatClampNeg x1)) (σ.1 3 (Int32.toNatClampNeg (σ.1 4 (Int32.toNatClampNeg x1)))) σ fun r_4 σ_3 => (
  Q r_4 σ_3)))
def wX8_sunk  (x1 : Int32) (x2 : Int32) (σ : Sg) (Q : Int32 → Sg → Prop) : Prop :=
  (vp_in x1 9000) ∧ (
  if (σ.1 1 (Int32.toNatClampNeg x1)) = 3 then (
    (vp_in (σ.1 3 (Int32.toNatClampNeg x1)) 9000) ∧ (
    if (σ.1 1 (Int32.toNatClampNeg (σ.1 3 (Int32.toNatClampNeg x1)))) = 3 then (
      Q (σ.1 3 (Int32.toNatClampNeg (σ.1 3 (Int32.toNatClampNeg x1)))) σ)
    else (
      Q x1 σ)))
  else (
    if (σ.1 1 (Int32.toNatClampNeg x1)) = 4 then (
      (vp_in (σ.1 4 (Int32.toNatClampNeg x1)) 9000) ∧ (
      if (σ.1 1 (Int32.toNatClampNeg (σ.1 4 (Int32.toNatClampNeg x1)))) = 3 then (
        wX8_pair 5 (σ.1 3 (Int32.toNatClampNeg x1)) (σ.1 3 (Int32.toNatClampNeg (σ.1 4 (Int32.toNatClampNeg x1)))) σ fun r_12 σ_11 => (
        Q r_12 σ_11))
      else (
        if x2 = 1 then (
          (vp_in (σ.1 3 (Int32.toNatClampNeg x1)) 9000) ∧ (
          if (σ.1 1 (Int32.toNatClampNeg (σ.1 3 (Int32.toNatClampNeg x1)))) = 3 then (
            wX8_pair 5 (σ.1 3 (Int32.toNatClampNeg (σ.1 3 (Int32.toNatClampNeg x1)))) (σ.1 4 (Int32.toNatClampNeg x1)) σ fun r_10 σ_9 => (
            Q r_10 σ_9))
          else (
            Q x1 σ)))
        else (
          Q x1 σ))))
    else (
      if (σ.1 1 (Int32.toNatClampNeg x1)) = 5 then (
        (vp_in (σ.1 4 (Int32.toNatClampNeg x1)) 9000) ∧ (
        if (σ.1 1 (Int32.toNatClampNeg (σ.1 4 (Int32.toNatClampNeg x1)))) = 3 then (
          if x2 = 2 then (
            wX8_sunk_172   x1 5 σ Q)
          else (
            wX8_sunk_172   x1 4 σ Q))
        else (
          Q x1 σ)))
      else (
        Q x1 σ))))
def wX8_isPlace  (x0 : Int32) (σ : Sg) (Q : Int32 → Sg → Prop) : Prop :=
  wX8_in (Int32.toInt64 x0) 0 19 σ fun r_2 σ_1 => (
  (r_2 = 0 ∨ r_2 = 1) ∧ (
  Q r_2 σ_1))
def wX8_has  (x1 : Int32) (σ : Sg) (Q : Int32 → Sg → Prop) : Prop :=
  wX8_isPlace x1 σ fun r_2 σ_1 => (
  if r_2 = 0 then (
    Q 0 σ_1)
  else (
    (vp_in x1 20) ∧ (
    if (σ_1.1 7 (Int32.toNatClampNeg x1)) ≤ 0 then (
      Q 0 σ_1)
    else (
      Q 1 σ_1))))
def wX8_take_12_b  (K12 : Int32 → Int32 → Sg → Prop) (x1 : Int32) (x2 : Int32) (σ : Sg) (Q : Sg → Prop) : Prop :=
    if (σ.1 0 17) ≤ x2 then (
      Q σ)
    else (
      (vp_in ((60 * x1) + x2) 1200) ∧ (
      (vp_in x2 400) ∧ (
      lt (sI σ 10 (upd (σ.1 10) (Int32.toNatClampNeg x2) (σ.1 8 (Int32.toNatClampNeg ((60 * x1) + x2))))) fun σ_3 => (
      lt (sI σ_3 11 (upd (σ_3.1 11) (Int32.toNatClampNeg x2) (σ_3.1 9 (Int32.toNatClampNeg ((60 * x1) + x2))))) fun σ_5 => (
      lt (x2 + 1) fun x2_7 => (
      K12 x1 x2_7 σ_5))))))
def wX8_take_12  (Q : Sg → Prop) : Nat → Int32 → Int32 → Sg → Prop
  | 0 => fun _ _ _ => False
  | n + 1 => fun x1 x2 σ => wX8_take_12_b  (wX8_take_12  Q n) x1 x2 σ Q
def wX8_take  (x1 : Int32) (σ : Sg) (Q : Sg → Prop) : Prop :=
  (vp_in x1 20) ∧ (
  lt (sI σ 0 (upd (σ.1 0) 17 (σ.1 7 (Int32.toNatClampNeg x1)))) fun σ_10 => (
  ∃ nn, wX8_take_12   Q nn x1 0 σ_10))
def wX8_put_12_b  (K12 : Int32 → Int32 → Sg → Prop) (x1 : Int32) (x2 : Int32) (σ : Sg) (Q : Int32 → Sg → Prop) : Prop :=
    if (σ.1 0 17) ≤ x2 then (
      Q (σ.1 0 17) σ)
    else (
      (vp_in x2 400) ∧ (
      (vp_in ((60 * x1) + x2) 1200) ∧ (
      lt (sI σ 8 (upd (σ.1 8) (Int32.toNatClampNeg ((60 * x1) + x2)) (σ.1 10 (Int32.toNatClampNeg x2)))) fun σ_3 => (
      lt (sI σ_3 9 (upd (σ_3.1 9) (Int32.toNatClampNeg ((60 * x1) + x2)) (σ_3.1 11 (Int32.toNatClampNeg x2)))) fun σ_5 => (
      lt (x2 + 1) fun x2_7 => (
      K12 x1 x2_7 σ_5))))))
def wX8_put_12  (Q : Int32 → Sg → Prop) : Nat → Int32 → Int32 → Sg → Prop
  | 0 => fun _ _ _ => False
  | n + 1 => fun x1 x2 σ => wX8_put_12_b  (wX8_put_12  Q n) x1 x2 σ Q
def wX8_put  (x1 : Int32) (σ : Sg) (Q : Int32 → Sg → Prop) : Prop :=
  (vp_in x1 20) ∧ (
  lt (sI σ 7 (upd (σ.1 7) (Int32.toNatClampNeg x1) (σ.1 0 17))) fun σ_10 => (
  ∃ nn, wX8_put_12   Q nn x1 0 σ_10))
def wX8_grow_80 (F : Sg → (Int32 → Sg → Prop) → Prop) (x1 : Int32) (x2 : Int32) (x3 : Int32) (x4 : Int32) (s0 : Int32) (σ : Sg) (Q : Int32 → Sg → Prop) : Prop :=
  wX8_make x1 x2 x3 x4 s0 σ fun r_2 σ_1 => (
  Q r_2 σ_1)
def wX8_grow_62 (F : Sg → (Int32 → Sg → Prop) → Prop) (x1 : Int32) (x2 : Int32) (x3 : Int32) (s0 : Int32) (σ : Sg) (Q : Int32 → Sg → Prop) : Prop :=
  wX8_parts x1 σ fun r_4 σ_3 => (
  if r_4 ≤ 2 then (
    wX8_grow_80 F  x1 x2 x3 s0 (-1) σ_3 Q)
  else (
    F  σ_3 fun r_6 σ_5 => (
    wX8_grow_80 F  x1 x2 x3 s0 r_6 σ_5 Q)))
def wX8_grow_45 (F : Sg → (Int32 → Sg → Prop) → Prop) (x1 : Int32) (x2 : Int32) (s0 : Int32) (σ : Sg) (Q : Int32 → Sg → Prop) : Prop :=
  wX8_parts x1 σ fun r_8 σ_7 => (
  if r_8 ≤ 1 then (
    wX8_grow_62 F  x1 x2 s0 (-1) σ_7 Q)
  else (
    F  σ_7 fun r_10 σ_9 => (
    wX8_grow_62 F  x1 x2 s0 r_10 σ_9 Q)))
def wX8_grow_b (F : Sg → (Int32 → Sg → Prop) → Prop)  (σ : Sg) (Q : Int32 → Sg → Prop) : Prop :=
  (vp_in (σ.1 0 18) 400) ∧ (
  lt (σ.1 10 (Int32.toNatClampNeg (σ.1 0 18))) fun x1_12 => (
  lt (σ.1 11 (Int32.toNatClampNeg (σ.1 0 18))) fun x2_14 => (
  lt (sI σ 0 (upd (σ.1 0) 18 ((σ.1 0 18) + 1))) fun σ_16 => (
  wX8_parts x1_12 σ_16 fun r_19 σ_18 => (
  if r_19 ≤ 0 then (
    wX8_grow_45 F  x1_12 x2_14 (-1) σ_18 Q)
  else (
    F  σ_18 fun r_21 σ_20 => (
    wX8_grow_45 F  x1_12 x2_14 r_21 σ_20 Q)))))))
def wX8_grow : Nat → Sg → (Int32 → Sg → Prop) → Prop
  | 0 => fun  _ _ => False
  | n + 1 => fun  σ Q => wX8_grow_b (wX8_grow n)  σ Q
def wX8_tree (d : Nat)  (σ : Sg) (Q : Int32 → Sg → Prop) : Prop :=
  lt (sI σ 0 (upd (σ.1 0) 1 0)) fun σ_1 => (
  lt (sI σ_1 0 (upd (σ_1.1 0) 18 0)) fun σ_3 => (
  wX8_grow d  σ_3 fun r_6 σ_5 => (
  Q r_6 σ_5)))
def wX8_treeOf (d : Nat) (x1 : Int32) (σ : Sg) (Q : Int32 → Sg → Prop) : Prop :=
  wX8_take x1 σ fun  σ_1 => (
  wX8_tree d  σ_1 fun r_3 σ_2 => (
  Q r_3 σ_2))
def wX8_flatten_78 (F : Int32 → Sg → (Sg → Prop) → Prop) (x1 : Int32) (σ : Sg) (Q : Sg → Prop) : Prop :=
  (vp_in x1 9000) ∧ (
  if (σ.1 5 (Int32.toNatClampNeg x1)) < 0 then (
    Q σ)
  else (
    F (σ.1 5 (Int32.toNatClampNeg x1)) σ fun  σ_2 => (
    Q σ_2)))
def wX8_flatten_59 (F : Int32 → Sg → (Sg → Prop) → Prop) (x1 : Int32) (σ : Sg) (Q : Sg → Prop) : Prop :=
  (vp_in x1 9000) ∧ (
  if (σ.1 4 (Int32.toNatClampNeg x1)) < 0 then (
    wX8_flatten_78 F  x1 σ Q)
  else (
    F (σ.1 4 (Int32.toNatClampNeg x1)) σ fun  σ_4 => (
    wX8_flatten_78 F  x1 σ_4 Q)))
def wX8_flatten_b (F : Int32 → Sg → (Sg → Prop) → Prop) (x1 : Int32) (σ : Sg) (Q : Sg → Prop) : Prop :=
  (vp_in x1 9000) ∧ (
  (vp_in (σ.1 0 17) 400) ∧ (
  lt (sI σ 10 (upd (σ.1 10) (Int32.toNatClampNeg (σ.1 0 17)) (σ.1 1 (Int32.toNatClampNeg x1)))) fun σ_7 => (
  (vp_in (σ_7.1 0 17) 400) ∧ (
  lt (sI σ_7 11 (upd (σ_7.1 11) (Int32.toNatClampNeg (σ_7.1 0 17)) (σ_7.1 2 (Int32.toNatClampNeg x1)))) fun σ_10 => (
  lt (sI σ_10 0 (upd (σ_10.1 0) 17 ((σ_10.1 0 17) + 1))) fun σ_12 => (
  if (σ_12.1 3 (Int32.toNatClampNeg x1)) < 0 then (
    wX8_flatten_59 F  x1 σ_12 Q)
  else (
    F (σ_12.1 3 (Int32.toNatClampNeg x1)) σ_12 fun  σ_14 => (
    wX8_flatten_59 F  x1 σ_14 Q))))))))
def wX8_flatten : Nat → Int32 → Sg → (Sg → Prop) → Prop
  | 0 => fun _ _ _ => False
  | n + 1 => fun x1 σ Q => wX8_flatten_b (wX8_flatten n) x1 σ Q
def wX8_endOf_4_b  (K4 : Int32 → Int32 → Sg → Prop) (x2 : Int32) (x3 : Int32) (σ : Sg) (Q : Int32 → Sg → Prop) : Prop :=
    if x2 ≤ 0 then (
      Q x3 σ)
    else (
      (vp_in x3 400) ∧ (
      wX8_parts (σ.1 10 (Int32.toNatClampNeg x3)) σ fun r_3 σ_2 => (
      lt (x2 + (r_3 - 1)) fun x2_4 => (
      lt (x3 + 1) fun x3_6 => (
      K4 x2_4 x3_6 σ_2)))))
def wX8_endOf_4  (Q : Int32 → Sg → Prop) : Nat → Int32 → Int32 → Sg → Prop
  | 0 => fun _ _ _ => False
  | n + 1 => fun x2 x3 σ => wX8_endOf_4_b  (wX8_endOf_4  Q n) x2 x3 σ Q
def wX8_endOf  (x1 : Int32) (σ : Sg) (Q : Int32 → Sg → Prop) : Prop :=
  ∃ nn, wX8_endOf_4   Q nn 1 x1 σ
def wX8_pairs_5_b  (K5 : Int32 → Int64 → Int32 → Sg → Prop) (x1 : Int32) (x2 : Int64) (x4 : Int32) (σ : Sg) (Q : Int64 → Sg → Prop) : Prop :=
    if x1 ≤ x4 then (
      Q x2 σ)
    else (
      (vp_in x4 16) ∧ (
      (vp_in (x1 - x4) 16) ∧ (
      lt (x2 + ((σ.2.1 12 (Int32.toNatClampNeg x4)) * (σ.2.1 12 (Int32.toNatClampNeg (x1 - x4))))) fun x2_3 => (
      lt (x4 + 1) fun x4_5 => (
      K5 x1 x2_3 x4_5 σ)))))
def wX8_pairs_5  (Q : Int64 → Sg → Prop) : Nat → Int32 → Int64 → Int32 → Sg → Prop
  | 0 => fun _ _ _ _ => False
  | n + 1 => fun x1 x2 x4 σ => wX8_pairs_5_b  (wX8_pairs_5  Q n) x1 x2 x4 σ Q
def wX8_pairs  (x1 : Int32) (σ : Sg) (Q : Int64 → Sg → Prop) : Prop :=
  ∃ nn, wX8_pairs_5   Q nn x1 0 1 σ
def wX8_hand  (x1 : Int32) (x2 : Int32) (σ : Sg) (Q : Sg → Prop) : Prop :=
  (vp_in (σ.1 0 17) 400) ∧ (
  lt (sI σ 10 (upd (σ.1 10) (Int32.toNatClampNeg (σ.1 0 17)) x1)) fun σ_2 => (
  (vp_in (σ_2.1 0 17) 400) ∧ (
  lt (sI σ_2 11 (upd (σ_2.1 11) (Int32.toNatClampNeg (σ_2.1 0 17)) x2)) fun σ_5 => (
  lt (sI σ_5 0 (upd (σ_5.1 0) 17 ((σ_5.1 0 17) + 1))) fun σ_7 => (
  Q σ_7)))))
def wX8_nthPair_6_b (F : Int32 → Int64 → Sg → (Sg → Prop) → Prop) (K6 : Int32 → Int64 → Int32 → Sg → Prop) (x1 : Int32) (x4 : Int64) (x6 : Int32) (σ : Sg) (Q : Sg → Prop) : Prop :=
    (vp_in x6 16) ∧ (
    (vp_in (x1 - x6) 16) ∧ (
    if x4 < ((σ.2.1 12 (Int32.toNatClampNeg x6)) * (σ.2.1 12 (Int32.toNatClampNeg (x1 - x6)))) then (
      (¬ (σ.2.1 12 (Int32.toNatClampNeg (x1 - x6))) = 0) ∧ (
      F x6 (x4 / (σ.2.1 12 (Int32.toNatClampNeg (x1 - x6)))) σ fun  σ_4 => (
      (¬ (σ_4.2.1 12 (Int32.toNatClampNeg (x1 - x6))) = 0) ∧ (
      F (x1 - x6) (x4 - x4 / (σ_4.2.1 12 (Int32.toNatClampNeg (x1 - x6))) * (σ_4.2.1 12 (Int32.toNatClampNeg (x1 - x6)))) σ_4 fun  σ_6 => (
      Q σ_6)))))
    else (
      lt (x4 - ((σ.2.1 12 (Int32.toNatClampNeg x6)) * (σ.2.1 12 (Int32.toNatClampNeg (x1 - x6))))) fun x4_7 => (
      lt (x6 + 1) fun x6_9 => (
      K6 x1 x4_7 x6_9 σ)))))
def wX8_nthPair_6 (F : Int32 → Int64 → Sg → (Sg → Prop) → Prop) (Q : Sg → Prop) : Nat → Int32 → Int64 → Int32 → Sg → Prop
  | 0 => fun _ _ _ _ => False
  | n + 1 => fun x1 x4 x6 σ => wX8_nthPair_6_b F (wX8_nthPair_6 F Q n) x1 x4 x6 σ Q
def wX8_nthPair (F : Int32 → Int64 → Sg → (Sg → Prop) → Prop) (x1 : Int32) (x2 : Int64) (σ : Sg) (Q : Sg → Prop) : Prop :=
  ∃ nn, wX8_nthPair_6 F  Q nn x1 x2 1 σ
def wX8_nth0_153_b (F : Int32 → Int64 → Sg → (Sg → Prop) → Prop) (K153 : Int32 → Int64 → Int32 → Sg → Prop) (x1 : Int32) (x4 : Int64) (x8 : Int32) (σ : Sg) (Q : Sg → Prop) : Prop :=
    (vp_in x8 16) ∧ (
    wX8_pairs ((x1 - 1) - x8) σ fun r_3 σ_2 => (
    if x4 < ((σ.2.1 12 (Int32.toNatClampNeg x8)) * r_3) then (
      wX8_pairs ((x1 - 1) - x8) σ_2 fun r_5 σ_4 => (
      (¬ r_5 = 0) ∧ (
      F x8 (x4 / r_5) σ_4 fun  σ_7 => (
      wX8_nthPair F ((x1 - 1) - x8) (x4 - x4 / r_5 * r_5) σ_7 fun  σ_8 => (
      Q σ_8)))))
    else (
      wX8_pairs ((x1 - 1) - x8) σ_2 fun r_10 σ_9 => (
      lt (x4 - ((σ_2.2.1 12 (Int32.toNatClampNeg x8)) * r_10)) fun x4_11 => (
      lt (x8 + 1) fun x8_13 => (
      K153 x1 x4_11 x8_13 σ_9))))))
def wX8_nth0_153 (F : Int32 → Int64 → Sg → (Sg → Prop) → Prop) (Q : Sg → Prop) : Nat → Int32 → Int64 → Int32 → Sg → Prop
  | 0 => fun _ _ _ _ => False
  | n + 1 => fun x1 x4 x8 σ => wX8_nth0_153_b F (wX8_nth0_153 F Q n) x1 x4 x8 σ Q
def wX8_nth0_98_b (F : Int32 → Int64 → Sg → (Sg → Prop) → Prop) (K98 : Int32 → Int64 → Int64 → Int32 → Sg → Prop) (x1 : Int32) (x4 : Int64) (x6 : Int64) (x8 : Int32) (σ : Sg) (Q : Sg → Prop) : Prop :=
    if 7 < x8 then (
      wX8_hand 8 0 σ fun  σ_15 => (
      ∃ nn, wX8_nth0_153 F  Q nn x1 x4 1 σ_15))
    else (
      if x6 ≤ x4 then (
        lt (x4 - x6) fun x4_16 => (
        lt (x8 + 1) fun x8_18 => (
        K98 x1 x4_16 x6 x8_18 σ)))
      else (
        wX8_hand x8 0 σ fun  σ_20 => (
        wX8_nthPair F (x1 - 1) x4 σ_20 fun  σ_21 => (
        Q σ_21))))
def wX8_nth0_98 (F : Int32 → Int64 → Sg → (Sg → Prop) → Prop) (Q : Sg → Prop) : Nat → Int32 → Int64 → Int64 → Int32 → Sg → Prop
  | 0 => fun _ _ _ _ _ => False
  | n + 1 => fun x1 x4 x6 x8 σ => wX8_nth0_98_b F (wX8_nth0_98 F Q n) x1 x4 x6 x8 σ Q
def wX8_nth0_36 (F : Int32 → Int64 → Sg → (Sg → Prop) → Prop) (s1 : Int32) (s2 : Int32) (σ : Sg) (Q : Sg → Prop) : Prop :=
  wX8_hand s1 s2 σ fun  σ_22 => (
  Q σ_22)
def wX8_nth0_22 (F : Int32 → Int64 → Sg → (Sg → Prop) → Prop) (x2 : Int64) (s1 : Int32) (σ : Sg) (Q : Sg → Prop) : Prop :=
  if 3 ≤ x2 then (
    wX8_nth0_36 F  s1 0 σ Q)
  else (
    wX8_nth0_36 F  s1 (Int64.toInt32 x2) σ Q)
def wX8_nth0_b (F : Int32 → Int64 → Sg → (Sg → Prop) → Prop) (x1 : Int32) (x2 : Int64) (σ : Sg) (Q : Sg → Prop) : Prop :=
  if x1 = 1 then (
    if 3 ≤ x2 then (
      wX8_nth0_22 F  x2 ((Int64.toInt32 x2) - 2) σ Q)
    else (
      wX8_nth0_22 F  x2 0 σ Q))
  else (
    (vp_in (x1 - 1) 16) ∧ (
    if (σ.2.1 12 (Int32.toNatClampNeg (x1 - 1))) ≤ x2 then (
      lt (x2 - (σ.2.1 12 (Int32.toNatClampNeg (x1 - 1)))) fun x4_24 => (
      wX8_pairs (x1 - 1) σ fun r_27 σ_26 => (
      ∃ nn, wX8_nth0_98 F  Q nn x1 x4_24 r_27 4 σ_26)))
    else (
      wX8_hand 3 0 σ fun  σ_28 => (
      F (x1 - 1) x2 σ_28 fun  σ_29 => (
      Q σ_29)))))
def wX8_nth0 : Nat → Int32 → Int64 → Sg → (Sg → Prop) → Prop
  | 0 => fun _ _ _ _ => False
  | n + 1 => fun x1 x2 σ Q => wX8_nth0_b (wX8_nth0 n) x1 x2 σ Q
def wX8_pairRank_20_b (F : Int32 → Sg → (Int64 → Sg → Prop) → Prop) (K20 : Int32 → Int32 → Int32 → Int64 → Int32 → Sg → Prop) (x1 : Int32) (x2 : Int32) (x3 : Int32) (x4 : Int64) (x6 : Int32) (σ : Sg) (Q : Int64 → Sg → Prop) : Prop :=
    (vp_in x1 9000) ∧ (
    if (σ.1 6 (Int32.toNatClampNeg x1)) ≤ x6 then (
      F x1 σ fun r_3 σ_2 => (
      (vp_in x2 9000) ∧ (
      (vp_in (σ_2.1 6 (Int32.toNatClampNeg x2)) 16) ∧ (
      F x2 σ_2 fun r_7 σ_6 => (
      Q ((x4 + (r_3 * (σ_2.2.1 12 (Int32.toNatClampNeg (σ_2.1 6 (Int32.toNatClampNeg x2)))))) + r_7) σ_6)))))
    else (
      (vp_in x6 16) ∧ (
      (vp_in (x3 - x6) 16) ∧ (
      lt (x4 + ((σ.2.1 12 (Int32.toNatClampNeg x6)) * (σ.2.1 12 (Int32.toNatClampNeg (x3 - x6))))) fun x4_10 => (
      lt (x6 + 1) fun x6_12 => (
      K20 x1 x2 x3 x4_10 x6_12 σ))))))
def wX8_pairRank_20 (F : Int32 → Sg → (Int64 → Sg → Prop) → Prop) (Q : Int64 → Sg → Prop) : Nat → Int32 → Int32 → Int32 → Int64 → Int32 → Sg → Prop
  | 0 => fun _ _ _ _ _ _ => False
  | n + 1 => fun x1 x2 x3 x4 x6 σ => wX8_pairRank_20_b F (wX8_pairRank_20 F Q n) x1 x2 x3 x4 x6 σ Q
def wX8_pairRank (F : Int32 → Sg → (Int64 → Sg → Prop) → Prop) (x1 : Int32) (x2 : Int32) (σ : Sg) (Q : Int64 → Sg → Prop) : Prop :=
  (vp_in x1 9000) ∧ (
  (vp_in x2 9000) ∧ (
  lt ((σ.1 6 (Int32.toNatClampNeg x1)) + (σ.1 6 (Int32.toNatClampNeg x2))) fun x3_16 => (
  ∃ nn, wX8_pairRank_20 F  Q nn x1 x2 x3_16 0 1 σ)))
def wX8_rank_136_b (F : Int32 → Sg → (Int64 → Sg → Prop) → Prop) (K136 : Int32 → Int32 → Int64 → Int32 → Sg → Prop) (x1 : Int32) (x2 : Int32) (x3 : Int64) (x5 : Int32) (σ : Sg) (Q : Int64 → Sg → Prop) : Prop :=
    (vp_in x1 9000) ∧ (
    (vp_in (σ.1 3 (Int32.toNatClampNeg x1)) 9000) ∧ (
    if (σ.1 6 (Int32.toNatClampNeg (σ.1 3 (Int32.toNatClampNeg x1)))) ≤ x5 then (
      F (σ.1 3 (Int32.toNatClampNeg x1)) σ fun r_4 σ_3 => (
      (vp_in (σ_3.1 3 (Int32.toNatClampNeg x1)) 9000) ∧ (
      wX8_pairs ((x2 - 1) - (σ_3.1 6 (Int32.toNatClampNeg (σ_3.1 3 (Int32.toNatClampNeg x1))))) σ_3 fun r_7 σ_6 => (
      wX8_pairRank F (σ_6.1 4 (Int32.toNatClampNeg x1)) (σ_6.1 5 (Int32.toNatClampNeg x1)) σ_6 fun r_9 σ_8 => (
      Q ((x3 + (r_4 * r_7)) + r_9) σ_8)))))
    else (
      (vp_in x5 16) ∧ (
      wX8_pairs ((x2 - 1) - x5) σ fun r_12 σ_11 => (
      lt (x3 + ((σ.2.1 12 (Int32.toNatClampNeg x5)) * r_12)) fun x3_13 => (
      lt (x5 + 1) fun x5_15 => (
      K136 x1 x2 x3_13 x5_15 σ_11)))))))
def wX8_rank_136 (F : Int32 → Sg → (Int64 → Sg → Prop) → Prop) (Q : Int64 → Sg → Prop) : Nat → Int32 → Int32 → Int64 → Int32 → Sg → Prop
  | 0 => fun _ _ _ _ _ => False
  | n + 1 => fun x1 x2 x3 x5 σ => wX8_rank_136_b F (wX8_rank_136 F Q n) x1 x2 x3 x5 σ Q
def wX8_rank_b (F : Int32 → Sg → (Int64 → Sg → Prop) → Prop) (x1 : Int32) (σ : Sg) (Q : Int64 → Sg → Prop) : Prop :=
  (vp_in x1 9000) ∧ (
  lt (σ.1 6 (Int32.toNatClampNeg x1)) fun x2_18 => (
  if x2_18 = 1 then (
    if (σ.1 1 (Int32.toNatClampNeg x1)) = 0 then (
      Q (Int32.toInt64 (σ.1 2 (Int32.toNatClampNeg x1))) σ)
    else (
      Q (Int32.toInt64 ((σ.1 1 (Int32.toNatClampNeg x1)) + 2)) σ))
  else (
    if (σ.1 1 (Int32.toNatClampNeg x1)) = 3 then (
      F (σ.1 3 (Int32.toNatClampNeg x1)) σ fun r_32 σ_31 => (
      Q r_32 σ_31))
    else (
      (vp_in (x2_18 - 1) 16) ∧ (
      lt (σ.2.1 12 (Int32.toNatClampNeg (x2_18 - 1))) fun x3_21 => (
      if (σ.1 1 (Int32.toNatClampNeg x1)) = 8 then (
        wX8_pairs (x2_18 - 1) σ fun r_24 σ_23 => (
        lt (x3_21 + (4 * r_24)) fun x3_25 => (
        ∃ nn, wX8_rank_136 F  Q nn x1 x2_18 x3_25 1 σ_23)))
      else (
        wX8_pairs (x2_18 - 1) σ fun r_28 σ_27 => (
        wX8_pairRank F (σ_27.1 3 (Int32.toNatClampNeg x1)) (σ_27.1 4 (Int32.toNatClampNeg x1)) σ_27 fun r_30 σ_29 => (
        Q ((x3_21 + ((Int32.toInt64 ((σ.1 1 (Int32.toNatClampNeg x1)) - 4)) * r_28)) + r_30) σ_29)))))))))
def wX8_rank : Nat → Int32 → Sg → (Int64 → Sg → Prop) → Prop
  | 0 => fun _ _ _ => False
  | n + 1 => fun x1 σ Q => wX8_rank_b (wX8_rank n) x1 σ Q
def wX8_node_91_b  (K91 : Int32 → Int32 → Int32 → Int32 → Sg → Prop) (x1 : Int32) (x2 : Int32) (x3 : Int32) (x4 : Int32) (σ : Sg) (Q : Int32 → Sg → Prop) : Prop :=
    if x4 ≤ x3 then (
      (vp_in x3 60) ∧ (
      lt (sI σ 14 (upd (σ.1 14) (Int32.toNatClampNeg x3) x1)) fun σ_2 => (
      lt (sI σ_2 15 (upd (σ_2.1 15) (Int32.toNatClampNeg x3) x2)) fun σ_4 => (
      lt (sI σ_4 0 (upd (σ_4.1 0) 24 ((σ_4.1 0 24) + 1))) fun σ_6 => (
      (vp_in (σ_6.1 0 20) 61) ∧ (
      lt (sI σ_6 13 (upd (σ_6.1 13) (Int32.toNatClampNeg (σ_6.1 0 20)) x3)) fun σ_9 => (
      lt (sI σ_9 0 (upd (σ_9.1 0) 20 ((σ_9.1 0 20) + 1))) fun σ_11 => (
      Q (σ_11.1 0 20) σ_11))))))))
    else (
      (vp_in (x4 - 1) 60) ∧ (
      (vp_in x4 60) ∧ (
      lt (sI σ 14 (upd (σ.1 14) (Int32.toNatClampNeg x4) (σ.1 14 (Int32.toNatClampNeg (x4 - 1))))) fun σ_15 => (
      lt (sI σ_15 15 (upd (σ_15.1 15) (Int32.toNatClampNeg x4) (σ_15.1 15 (Int32.toNatClampNeg (x4 - 1))))) fun σ_17 => (
      lt (x4 + (-1)) fun x4_19 => (
      K91 x1 x2 x3 x4_19 σ_17))))))
def wX8_node_91  (Q : Int32 → Sg → Prop) : Nat → Int32 → Int32 → Int32 → Int32 → Sg → Prop
  | 0 => fun _ _ _ _ _ => False
  | n + 1 => fun x1 x2 x3 x4 σ => wX8_node_91_b  (wX8_node_91  Q n) x1 x2 x3 x4 σ Q
def wX8_node_84  (x1 : Int32) (x2 : Int32) (s0 : Int32) (σ : Sg) (Q : Int32 → Sg → Prop) : Prop :=
  lt (σ.1 0 24) fun x4_21 => (
  ∃ nn, wX8_node_91   Q nn x1 x2 s0 x4_21 σ)
def wX8_node_22  (x1 : Int32) (x2 : Int32) (σ : Sg) (Q : Int32 → Sg → Prop) : Prop :=
  wX8_parts x1 σ fun r_24 σ_23 => (
  if r_24 ≤ (σ.1 0 20) then (
    if (σ_23.1 0 24) = 60 then (
      Q (-3) σ_23)
    else (
      wX8_parts x1 σ_23 fun r_26 σ_25 => (
      lt (sI σ_25 0 (upd (σ_25.1 0) 20 ((σ_23.1 0 20) - r_26))) fun σ_27 => (
      wX8_parts x1 σ_27 fun r_30 σ_29 => (
      if r_30 = 0 then (
        wX8_node_84   x1 x2 (σ_29.1 0 24) σ_29 Q)
      else (
        (vp_in (σ_29.1 0 20) 61) ∧ (
        wX8_node_84   x1 x2 (σ_29.1 13 (Int32.toNatClampNeg (σ_29.1 0 20))) σ_29 Q)))))))
  else (
    Q (-2) σ_23))
def wX8_node  (x1 : Int32) (x2 : Int32) (σ : Sg) (Q : Int32 → Sg → Prop) : Prop :=
  wX8_in (Int32.toInt64 x1) 0 8 σ fun r_33 σ_32 => (
  if r_33 = 0 then (
    Q (-1) σ_32)
  else (
    if x1 = 0 then (
      wX8_node_22   x1 x2 σ_32 Q)
    else (
      if x2 = 0 then (
        wX8_node_22   x1 x2 σ_32 Q)
      else (
        Q (-1) σ_32))))
def wX8_keep_30_b  (K30 : Int32 → Int32 → Sg → Prop) (x1 : Int32) (x2 : Int32) (σ : Sg) (Q : Int32 → Sg → Prop) : Prop :=
    if (σ.1 0 24) ≤ x2 then (
      lt (sI σ 0 (upd (σ.1 0) 20 0)) fun σ_1 => (
      lt (sI σ_1 0 (upd (σ_1.1 0) 24 0)) fun σ_3 => (
      wX8_put x1 σ_3 fun r_6 σ_5 => (
      Q r_6 σ_5))))
    else (
      (vp_in x2 60) ∧ (
      (vp_in x2 400) ∧ (
      lt (sI σ 10 (upd (σ.1 10) (Int32.toNatClampNeg x2) (σ.1 14 (Int32.toNatClampNeg x2)))) fun σ_9 => (
      lt (sI σ_9 11 (upd (σ_9.1 11) (Int32.toNatClampNeg x2) (σ_9.1 15 (Int32.toNatClampNeg x2)))) fun σ_11 => (
      lt (x2 + 1) fun x2_13 => (
      K30 x1 x2_13 σ_11))))))
def wX8_keep_30  (Q : Int32 → Sg → Prop) : Nat → Int32 → Int32 → Sg → Prop
  | 0 => fun _ _ _ => False
  | n + 1 => fun x1 x2 σ => wX8_keep_30_b  (wX8_keep_30  Q n) x1 x2 σ Q
def wX8_keep  (x1 : Int32) (σ : Sg) (Q : Int32 → Sg → Prop) : Prop :=
  wX8_isPlace x1 σ fun r_16 σ_15 => (
  if r_16 = 0 then (
    Q (-1) σ_15)
  else (
    if (σ_15.1 0 20) = 1 then (
      lt (sI σ_15 0 (upd (σ_15.1 0) 17 (σ_15.1 0 24))) fun σ_17 => (
      ∃ nn, wX8_keep_30   Q nn x1 0 σ_17))
    else (
      Q (-2) σ_15)))
def wX8_drop  (x1 : Int32) (σ : Sg) (Q : Int32 → Sg → Prop) : Prop :=
  wX8_has x1 σ fun r_2 σ_1 => (
  if r_2 = 0 then (
    Q (-1) σ_1)
  else (
    (vp_in x1 20) ∧ (
    lt (σ_1.1 7 (Int32.toNatClampNeg x1)) fun x2_4 => (
    lt (sI σ_1 7 (upd (σ_1.1 7) (Int32.toNatClampNeg x1) 0)) fun σ_6 => (
    Q x2_4 σ_6)))))
def wX8_read  (x1 : Int32) (x2 : Int32) (x3 : Int32) (σ : Sg) (Q : Int32 → Sg → Prop) : Prop :=
  wX8_has x1 σ fun r_2 σ_1 => (
  if r_2 = 0 then (
    Q (-2000000000) σ_1)
  else (
    (vp_in x1 20) ∧ (
    wX8_in (Int32.toInt64 x2) 0 (Int32.toInt64 ((σ_1.1 7 (Int32.toNatClampNeg x1)) - 1)) σ_1 fun r_5 σ_4 => (
    if r_5 = 0 then (
      Q (-2000000000) σ_4)
    else (
      wX8_in (Int32.toInt64 x3) 0 2 σ_4 fun r_7 σ_6 => (
      if r_7 = 0 then (
        Q (-2000000000) σ_6)
      else (
        wX8_take x1 σ_6 fun  σ_8 => (
        if x3 = 0 then (
          (vp_in x2 400) ∧ (
          Q (σ_8.1 10 (Int32.toNatClampNeg x2)) σ_8))
        else (
          if x3 = 1 then (
            (vp_in x2 400) ∧ (
            Q (σ_8.1 11 (Int32.toNatClampNeg x2)) σ_8))
          else (
            wX8_endOf x2 σ_8 fun r_10 σ_9 => (
            Q (r_10 - x2) σ_9)))))))))))
def wX8_value (d : Nat) (x1 : Int32) (x2 : Int32) (x3 : Int32) (σ : Sg) (Q : Int32 → Sg → Prop) : Prop :=
  wX8_has x1 σ fun r_2 σ_1 => (
  if r_2 = 0 then (
    Q (-2000000000) σ_1)
  else (
    wX8_treeOf d x1 σ_1 fun r_4 σ_3 => (
    wX8_valueOf d r_4 x2 x3 σ_3 fun r_6 σ_5 => (
    if (σ_5.1 0 8) = 0 then (
      Q r_6 σ_5)
    else (
      Q (-2000000000) σ_5)))))
def wX8_safe_20 (d : Nat)  (σ : Sg) (Q : Int32 → Sg → Prop) : Prop :=
  Q (-1) σ
def wX8_safe (d : Nat) (x1 : Int32) (x2 : Int32) (σ : Sg) (Q : Int32 → Sg → Prop) : Prop :=
  wX8_has x1 σ fun r_2 σ_1 => (
  if r_2 = 0 then (
    wX8_safe_20 d   σ_1 Q)
  else (
    wX8_in (Int32.toInt64 x2) 0 6 σ_1 fun r_4 σ_3 => (
    if r_4 = 0 then (
      wX8_safe_20 d   σ_3 Q)
    else (
      wX8_treeOf d x1 σ_3 fun r_6 σ_5 => (
      wX8_isSafe d r_6 x2 σ_5 fun r_8 σ_7 => (
      if r_8 = 0 then (
        Q 0 σ_7)
      else (
        Q 1 σ_7)))))))
def wX8_shift  (x1 : Int32) (x2 : Int32) (σ : Sg) (Q : Sg → Prop) : Prop :=
  (vp_in x1 400) ∧ (
  (vp_in x2 400) ∧ (
  lt (sI σ 10 (upd (σ.1 10) (Int32.toNatClampNeg x2) (σ.1 10 (Int32.toNatClampNeg x1)))) fun σ_3 => (
  lt (sI σ_3 11 (upd (σ_3.1 11) (Int32.toNatClampNeg x2) (σ_3.1 11 (Int32.toNatClampNeg x1)))) fun σ_5 => (
  Q σ_5))))
def wX8_spare_2_b  (K2 : Int32 → Int32 → Int32 → Sg → Prop) (x1 : Int32) (x2 : Int32) (x3 : Int32) (σ : Sg) (Q : Sg → Prop) : Prop :=
    if x2 ≤ x3 then (
      Q σ)
    else (
      (vp_in x3 400) ∧ (
      (vp_in (x3 - x1) 60) ∧ (
      lt (sI σ 16 (upd (σ.1 16) (Int32.toNatClampNeg (x3 - x1)) (σ.1 10 (Int32.toNatClampNeg x3)))) fun σ_3 => (
      lt (sI σ_3 17 (upd (σ_3.1 17) (Int32.toNatClampNeg (x3 - x1)) (σ_3.1 11 (Int32.toNatClampNeg x3)))) fun σ_5 => (
      lt (x3 + 1) fun x3_7 => (
      K2 x1 x2 x3_7 σ_5))))))
def wX8_spare_2  (Q : Sg → Prop) : Nat → Int32 → Int32 → Int32 → Sg → Prop
  | 0 => fun _ _ _ _ => False
  | n + 1 => fun x1 x2 x3 σ => wX8_spare_2_b  (wX8_spare_2  Q n) x1 x2 x3 σ Q
def wX8_spare  (x1 : Int32) (x2 : Int32) (σ : Sg) (Q : Sg → Prop) : Prop :=
  ∃ nn, wX8_spare_2   Q nn x1 x2 x1 σ
def wX8_isMaker  (x1 : Int32) (σ : Sg) (Q : Int32 → Sg → Prop) : Prop :=
  wX8_in (Int32.toInt64 x1) 0 (Int32.toInt64 ((σ.1 0 27) - 1)) σ fun r_2 σ_1 => (
  (r_2 = 0 ∨ r_2 = 1) ∧ (
  Q r_2 σ_1))
def wX8_isTurn  (x1 : Int32) (x2 : Int32) (σ : Sg) (Q : Int32 → Sg → Prop) : Prop :=
  wX8_isMaker x1 σ fun r_2 σ_1 => (
  if r_2 = 0 then (
    Q 0 σ_1)
  else (
    (vp_in x1 8) ∧ (
    wX8_in (Int32.toInt64 x2) 0 (Int32.toInt64 ((σ_1.1 18 (Int32.toNatClampNeg x1)) - 1)) σ_1 fun r_5 σ_4 => (
    if r_5 = 0 then (
      Q 0 σ_4)
    else (
      Q 1 σ_4)))))
def wX8_maker   (σ : Sg) (Q : Int32 → Sg → Prop) : Prop :=
  if (σ.1 0 27) = 8 then (
    Q (-3) σ)
  else (
    lt (sI σ 0 (upd (σ.1 0) 27 ((σ.1 0 27) + 1))) fun σ_1 => (
    Q ((σ_1.1 0 27) - 1) σ_1))
def wX8_turn  (x1 : Int32) (x2 : Int32) (x3 : Int32) (σ : Sg) (Q : Int32 → Sg → Prop) : Prop :=
  wX8_isMaker x1 σ fun r_2 σ_1 => (
  if r_2 = 0 then (
    Q (-1) σ_1)
  else (
    wX8_in (Int32.toInt64 x2) 0 6 σ_1 fun r_4 σ_3 => (
    if r_4 = 0 then (
      Q (-1) σ_3)
    else (
      wX8_in (Int32.toInt64 x3) 0 2 σ_3 fun r_6 σ_5 => (
      if r_6 = 0 then (
        Q (-1) σ_5)
      else (
        (vp_in x1 8) ∧ (
        if (σ_5.1 18 (Int32.toNatClampNeg x1)) = 10 then (
          Q (-3) σ_5)
        else (
          (vp_in ((10 * x1) + (σ_5.1 18 (Int32.toNatClampNeg x1))) 80) ∧ (
          lt (sI σ_5 19 (upd (σ_5.1 19) (Int32.toNatClampNeg ((10 * x1) + (σ_5.1 18 (Int32.toNatClampNeg x1)))) x2)) fun σ_9 => (
          (vp_in ((10 * x1) + (σ_9.1 18 (Int32.toNatClampNeg x1))) 80) ∧ (
          lt (sI σ_9 20 (upd (σ_9.1 20) (Int32.toNatClampNeg ((10 * x1) + (σ_9.1 18 (Int32.toNatClampNeg x1)))) x3)) fun σ_12 => (
          lt (sI σ_12 18 (upd (σ_12.1 18) (Int32.toNatClampNeg x1) ((σ_12.1 18 (Int32.toNatClampNeg x1)) + 1))) fun σ_14 => (
          Q (σ_14.1 18 (Int32.toNatClampNeg x1)) σ_14)))))))))))))
def wX8_plant  (x1 : Int32) (x2 : Int32) (x3 : Int32) (σ : Sg) (Q : Int32 → Sg → Prop) : Prop :=
  wX8_isTurn x1 x2 σ fun r_2 σ_1 => (
  if r_2 = 0 then (
    Q (-1) σ_1)
  else (
    wX8_in (Int32.toInt64 x3) 0 2 σ_1 fun r_4 σ_3 => (
    if r_4 = 0 then (
      Q (-1) σ_3)
    else (
      (vp_in ((10 * x1) + x2) 80) ∧ (
      lt (σ_3.1 20 (Int32.toNatClampNeg ((10 * x1) + x2))) fun x4_6 => (
      lt (sI σ_3 20 (upd (σ_3.1 20) (Int32.toNatClampNeg ((10 * x1) + x2)) x3)) fun σ_8 => (
      Q x4_6 σ_8)))))))
def wX8_part  (x1 : Int32) (x2 : Int32) (σ : Sg) (Q : Int32 → Sg → Prop) : Prop :=
  wX8_in (Int32.toInt64 x1) 0 (Int32.toInt64 ((σ.1 0 31) - 1)) σ fun r_2 σ_1 => (
  if r_2 = 0 then (
    Q (-2000000000) σ_1)
  else (
    wX8_in (Int32.toInt64 x2) 0 2 σ_1 fun r_4 σ_3 => (
    if r_4 = 0 then (
      Q (-2000000000) σ_3)
    else (
      if x2 = 0 then (
        (vp_in x1 400) ∧ (
        Q (σ_3.1 21 (Int32.toNatClampNeg x1)) σ_3))
      else (
        if x2 = 1 then (
          (vp_in x1 400) ∧ (
          Q (σ_3.1 22 (Int32.toNatClampNeg x1)) σ_3))
        else (
          (vp_in x1 400) ∧ (
          Q (σ_3.1 23 (Int32.toNatClampNeg x1)) σ_3)))))))
def wX8_isOther_34 (d : Nat)  (σ : Sg) (Q : Int32 → Sg → Prop) : Prop :=
  Q 1 σ
def wX8_isOther (d : Nat) (x1 : Int32) (x2 : Int32) (x3 : Int32) (x4 : Int32) (σ : Sg) (Q : Int32 → Sg → Prop) : Prop :=
  wX8_valueOf d x1 x3 x4 σ fun r_2 σ_1 => (
  wX8_valueOf d x2 x3 x4 σ_1 fun r_4 σ_3 => (
  if (σ_3.1 0 8) = 0 then (
    if r_2 = r_4 then (
      Q 0 σ_3)
    else (
      wX8_isOther_34 d   σ_3 Q))
  else (
    wX8_isOther_34 d   σ_3 Q)))
def wX8_remember_10_b  (K10 : Int32 → Sg → Prop) (x1 : Int32) (σ : Sg) (Q : Sg → Prop) : Prop :=
    if (σ.1 0 17) ≤ x1 then (
      Q σ)
    else (
      (vp_in x1 400) ∧ (
      (vp_in x1 60) ∧ (
      lt (sI σ 24 (upd (σ.1 24) (Int32.toNatClampNeg x1) (σ.1 10 (Int32.toNatClampNeg x1)))) fun σ_3 => (
      lt (sI σ_3 25 (upd (σ_3.1 25) (Int32.toNatClampNeg x1) (σ_3.1 11 (Int32.toNatClampNeg x1)))) fun σ_5 => (
      lt (x1 + 1) fun x1_7 => (
      K10 x1_7 σ_5))))))
def wX8_remember_10  (Q : Sg → Prop) : Nat → Int32 → Sg → Prop
  | 0 => fun _ _ => False
  | n + 1 => fun x1 σ => wX8_remember_10_b  (wX8_remember_10  Q n) x1 σ Q
def wX8_remember   (σ : Sg) (Q : Sg → Prop) : Prop :=
  lt (sI σ 0 (upd (σ.1 0) 38 (σ.1 0 17))) fun σ_9 => (
  ∃ nn, wX8_remember_10   Q nn 0 σ_9)
def wX8_recall_10_b  (K10 : Int32 → Sg → Prop) (x1 : Int32) (σ : Sg) (Q : Sg → Prop) : Prop :=
    if (σ.1 0 38) ≤ x1 then (
      Q σ)
    else (
      (vp_in x1 60) ∧ (
      (vp_in x1 400) ∧ (
      lt (sI σ 10 (upd (σ.1 10) (Int32.toNatClampNeg x1) (σ.1 24 (Int32.toNatClampNeg x1)))) fun σ_3 => (
      lt (sI σ_3 11 (upd (σ_3.1 11) (Int32.toNatClampNeg x1) (σ_3.1 25 (Int32.toNatClampNeg x1)))) fun σ_5 => (
      lt (x1 + 1) fun x1_7 => (
      K10 x1_7 σ_5))))))
def wX8_recall_10  (Q : Sg → Prop) : Nat → Int32 → Sg → Prop
  | 0 => fun _ _ => False
  | n + 1 => fun x1 σ => wX8_recall_10_b  (wX8_recall_10  Q n) x1 σ Q
def wX8_recall   (σ : Sg) (Q : Sg → Prop) : Prop :=
  lt (sI σ 0 (upd (σ.1 0) 17 (σ.1 0 38))) fun σ_9 => (
  ∃ nn, wX8_recall_10   Q nn 0 σ_9)
def wX8_steps   (σ : Sg) (Q : Int32 → Sg → Prop) : Prop :=
  Q (σ.1 0 35) σ
def wX8_nthTree (d : Nat) (x1 : Int32) (x2 : Int64) (σ : Sg) (Q : Int32 → Sg → Prop) : Prop :=
  lt (sI σ 0 (upd (σ.1 0) 17 0)) fun σ_1 => (
  wX8_nth0 d x1 x2 σ_1 fun  σ_3 => (
  wX8_tree d  σ_3 fun r_5 σ_4 => (
  Q r_5 σ_4)))
def wX8_count_86_b  (K86 : Int32 → Int32 → Sg → Prop) (x2 : Int32) (x3 : Int32) (σ : Sg) (Q : Int32 → Sg → Prop) : Prop :=
    if 20 ≤ x3 then (
      Q x2 σ)
    else (
      (vp_in x3 20) ∧ (
      lt (x2 + (σ.1 7 (Int32.toNatClampNeg x3))) fun x2_2 => (
      lt (x3 + 1) fun x3_4 => (
      K86 x2_2 x3_4 σ))))
def wX8_count_86  (Q : Int32 → Sg → Prop) : Nat → Int32 → Int32 → Sg → Prop
  | 0 => fun _ _ _ => False
  | n + 1 => fun x2 x3 σ => wX8_count_86_b  (wX8_count_86  Q n) x2 x3 σ Q
def wX8_count_59 (K38 : Int32 → Int32 → Sg → Prop) (x3 : Int32) (s0 : Int32) (s1 : Int32) (σ : Sg) (Q : Int32 → Sg → Prop) : Prop :=
  lt (s0 + s1) fun x2_6 => (
  lt (x3 + 1) fun x3_8 => (
  K38 x2_6 x3_8 σ))
def wX8_count_38_b  (K38 : Int32 → Int32 → Sg → Prop) (x2 : Int32) (x3 : Int32) (σ : Sg) (Q : Int32 → Sg → Prop) : Prop :=
    if 20 ≤ x3 then (
      Q x2 σ)
    else (
      (vp_in x3 20) ∧ (
      if (σ.1 7 (Int32.toNatClampNeg x3)) ≤ 0 then (
        wX8_count_59  K38 x3 x2 0 σ Q)
      else (
        wX8_count_59  K38 x3 x2 1 σ Q)))
def wX8_count_38  (Q : Int32 → Sg → Prop) : Nat → Int32 → Int32 → Sg → Prop
  | 0 => fun _ _ _ => False
  | n + 1 => fun x2 x3 σ => wX8_count_38_b  (wX8_count_38  Q n) x2 x3 σ Q
def wX8_count  (x1 : Int32) (σ : Sg) (Q : Int32 → Sg → Prop) : Prop :=
  if x1 = 0 then (
    ∃ nn, wX8_count_38   Q nn 0 0 σ)
  else if x1 = 1 then (
    Q (σ.1 0 27) σ)
  else if x1 = 2 then (
    Q (σ.1 0 20) σ)
  else if x1 = 3 then (
    Q (σ.1 0 24) σ)
  else if x1 = 4 then (
    ∃ nn, wX8_count_86   Q nn 0 0 σ)
  else (
  Q (-1) σ)
def wX8_ofMaker  (x1 : Int32) (x2 : Int32) (σ : Sg) (Q : Int32 → Sg → Prop) : Prop :=
  wX8_isMaker x1 σ fun r_2 σ_1 => (
  if r_2 = 0 then (
    Q (-1) σ_1)
  else (
    (vp_in x1 8) ∧ (
    wX8_in (Int32.toInt64 x2) (-1) (Int32.toInt64 ((σ_1.1 18 (Int32.toNatClampNeg x1)) - 1)) σ_1 fun r_5 σ_4 => (
    if r_5 = 0 then (
      Q (-1) σ_4)
    else (
      if 0 ≤ x2 then (
        (vp_in ((10 * x1) + x2) 80) ∧ (
        Q ((10 * (σ_4.1 19 (Int32.toNatClampNeg ((10 * x1) + x2)))) + (σ_4.1 20 (Int32.toNatClampNeg ((10 * x1) + x2)))) σ_4))
      else (
        Q (σ_4.1 18 (Int32.toNatClampNeg x1)) σ_4))))))
def wX0_jumpBehindPart  (t : Nat) (x1 : Int32) (σ : Sg) (Q : Sg → Prop) : Prop :=
  (YC.2.1 t = 0) ∧ (
  (vp_in x1 200) ∧ (
  if (σ.1 (t + 4) (Int32.toNatClampNeg x1)) = 1 then (
    lt (sI σ (t + 5) (upd (σ.1 (t + 5)) (Int32.toNatClampNeg x1) (σ.1 t 2))) fun σ_8 => (
    wX0_add t 9 0 σ_8 fun  σ_10 => (
    Q σ_10)))
  else (
    if (σ.1 (t + 4) (Int32.toNatClampNeg x1)) = 2 then (
      wX0_aim t (σ.1 (t + 5) (Int32.toNatClampNeg x1)) ((σ.1 t 2) + 1) σ fun  σ_4 => (
      lt (sI σ_4 (t + 5) (upd (σ_4.1 (t + 5)) (Int32.toNatClampNeg x1) (σ_4.1 t 2))) fun σ_5 => (
      wX0_add t 10 0 σ_5 fun  σ_7 => (
      Q σ_7))))
    else (
      wX0_aim t (σ.1 (t + 5) (Int32.toNatClampNeg x1)) (σ.1 t 2) σ fun  σ_3 => (
      Q σ_3)))))
def wX0_run_267  (t : Nat) (s1 : Int32) (σ : Sg) (Q : Int32 → Sg → Prop) : Prop :=
  (YC.2.1 t = 0) ∧ (
  lt (sI σ t (upd (σ.1 t) 10 s1)) fun σ_2 => (
  Q 1 σ_2))
def wX0_run_250  (t : Nat) (x3 : Int32) (σ : Sg) (Q : Int32 → Sg → Prop) : Prop :=
  if x3 ≤ 0 then (
    wX0_run_267   t 0 σ Q)
  else (
    (YC.2.1 t = 0) ∧ (
    (vp_in (x3 - 1) 200) ∧ (
    wX0_run_267   t (σ.1 (t + 6) (Int32.toNatClampNeg (x3 - 1))) σ Q)))
def wX0_run_244 (K8 : Nat → Int32 → Int32 → Int32 → Int32 → Int32 → Sg → Prop) (t : Nat) (x1 : Int32) (x2 : Int32) (x3 : Int32) (x4 : Int32) (x5 : Int32) (σ : Sg) (Q : Int32 → Sg → Prop) : Prop :=
  lt (x5 + 1) fun x5_6 => (
  K8 t x1 x2 x3 x4 x5_6 σ)
def wX0_run_214 (K8 : Nat → Int32 → Int32 → Int32 → Int32 → Int32 → Sg → Prop) (t : Nat) (x1 : Int32) (x2 : Int32) (x3 : Int32) (x4 : Int32) (x5 : Int32) (x6 : Int32) (σ : Sg) (Q : Int32 → Sg → Prop) : Prop :=
  lt (x3 + (-1)) fun x3_8 => (
  (YC.2.1 t = 0) ∧ (
  (vp_in (x3_8 - 1) 200) ∧ (
  (vp_in x3_8 200) ∧ (
  wX7_combine x6 (σ.1 (t + 6) (Int32.toNatClampNeg (x3_8 - 1))) (σ.1 (t + 6) (Int32.toNatClampNeg x3_8)) σ fun r_14 σ_13 => (
  lt (sI σ_13 (t + 6) (upd (σ_13.1 (t + 6)) (Int32.toNatClampNeg (x3_8 - 1)) r_14)) fun σ_15 => (
  wX0_run_244  K8 t x1 x2 x3_8 x4 x5 σ_15 Q))))))
def wX0_run_158 (K8 : Nat → Int32 → Int32 → Int32 → Int32 → Int32 → Sg → Prop) (t : Nat) (x1 : Int32) (x2 : Int32) (x3 : Int32) (x5 : Int32) (s0 : Int32) (σ : Sg) (Q : Int32 → Sg → Prop) : Prop :=
  wX0_run_244  K8 t x1 x2 x3 s0 x5 σ Q
def wX0_run_94 (K8 : Nat → Int32 → Int32 → Int32 → Int32 → Int32 → Sg → Prop) (t : Nat) (x1 : Int32) (x2 : Int32) (x3 : Int32) (x4 : Int32) (x5 : Int32) (s1 : Int32) (s2 : Int32) (σ : Sg) (Q : Int32 → Sg → Prop) : Prop :=
  (YC.2.1 t = 0) ∧ (
  (vp_in s1 200) ∧ (
  lt (sI σ (t + 6) (upd (σ.1 (t + 6)) (Int32.toNatClampNeg s1) s2)) fun σ_19 => (
  lt (x3 + 1) fun x3_21 => (
  wX0_run_244  K8 t x1 x2 x3_21 x4 x5 σ_19 Q))))
def wX0_run_8_b  (K8 : Nat → Int32 → Int32 → Int32 → Int32 → Int32 → Sg → Prop) (t : Nat) (x1 : Int32) (x2 : Int32) (x3 : Int32) (x4 : Int32) (x5 : Int32) (σ : Sg) (Q : Int32 → Sg → Prop) : Prop :=
    (YC.2.1 t = 0) ∧ (
    if (σ.1 t 2) < x5 then (
      wX0_run_250   t x3 σ Q)
    else (
      if (σ.1 t 2) ≤ x4 then (
        wX0_run_250   t x3 σ Q)
      else (
        lt (sI σ t (upd (σ.1 t) 11 x5)) fun σ_24 => (
        (vp_in x4 400) ∧ (
        lt (σ_24.1 (t + 1) (Int32.toNatClampNeg x4)) fun x6_27 => (
        lt (σ_24.1 (t + 2) (Int32.toNatClampNeg x4)) fun x7_29 => (
        lt (x4 + 1) fun x4_31 => (
        if 2 < x6_27 then (
          if x6_27 = 10 then (
            lt (if x4_31 < x7_29 then x7_29 else x4_31) fun x4_40 => (
            wX0_run_244  K8 t x1 x2 x3 x4_40 x5 σ_24 Q))
          else (
            if 1 ≤ x3 then (
              if x6_27 = 9 then (
                lt (x3 + (-1)) fun x3_37 => (
                (vp_in x3_37 200) ∧ (
                if (σ_24.1 (t + 6) (Int32.toNatClampNeg x3_37)) = 0 then (
                  wX0_run_158  K8 t x1 x2 x3_37 x5 (if x4_31 < x7_29 then x7_29 else x4_31) σ_24 Q)
                else (
                  wX0_run_158  K8 t x1 x2 x3_37 x5 x4_31 σ_24 Q))))
              else (
                if x6_27 = 3 then (
                  (vp_in (x3 - 1) 200) ∧ (
                  lt (sI σ_24 (t + 6) (upd (σ_24.1 (t + 6)) (Int32.toNatClampNeg (x3 - 1)) (-(σ_24.1 (t + 6) (Int32.toNatClampNeg (x3 - 1)))))) fun σ_35 => (
                  wX0_run_244  K8 t x1 x2 x3 x4_31 x5 σ_35 Q)))
                else (
                  if x3 < 2 then (
                    Q 0 σ_24)
                  else (
                    if x6_27 = 7 then (
                      (vp_in (x3 - 1) 200) ∧ (
                      if (σ_24.1 (t + 6) (Int32.toNatClampNeg (x3 - 1))) = 0 then (
                        Q 0 σ_24)
                      else (
                        wX0_run_214  K8 t x1 x2 x3 x4_31 x5 x6_27 σ_24 Q)))
                    else (
                      wX0_run_214  K8 t x1 x2 x3 x4_31 x5 x6_27 σ_24 Q)))))
            else (
              Q 0 σ_24)))
        else (
          if x3 < 200 then (
            if x6_27 = 0 then (
              wX0_run_94  K8 t x1 x2 x3 x4_31 x5 x3 x7_29 σ_24 Q)
            else (
              if x6_27 = 1 then (
                wX0_run_94  K8 t x1 x2 x3 x4_31 x5 x3 x1 σ_24 Q)
              else (
                wX0_run_94  K8 t x1 x2 x3 x4_31 x5 x3 x2 σ_24 Q)))
          else (
            Q 0 σ_24))))))))))
def wX0_run_8  (Q : Int32 → Sg → Prop) : Nat → Nat → Int32 → Int32 → Int32 → Int32 → Int32 → Sg → Prop
  | 0 => fun _ _ _ _ _ _ _ => False
  | n + 1 => fun t x1 x2 x3 x4 x5 σ => wX0_run_8_b  (wX0_run_8  Q n) t x1 x2 x3 x4 x5 σ Q
def wX0_run  (t : Nat) (x1 : Int32) (x2 : Int32) (σ : Sg) (Q : Int32 → Sg → Prop) : Prop :=
  ∃ nn, wX0_run_8   Q nn t x1 x2 0 0 1 σ
def wX0_isNeverFree_49_b (K32 : Nat → Int32 → Int32 → Int32 → Int32 → Sg → Prop) (K49 : Nat → Int32 → Int32 → Int32 → Int32 → Int32 → Sg → Prop) (t : Nat) (x1 : Int32) (x2 : Int32) (x3 : Int32) (x4 : Int32) (x5 : Int32) (σ : Sg) (Q : Int32 → Sg → Prop) : Prop :=
    if x3 < x5 then (
      lt (x4 + 1) fun x4_1 => (
      K32 t x1 x2 x3 x4_1 σ))
    else (
      (YC.2.1 t = 0) ∧ (
      wX0_run t x4 x5 σ fun r_5 σ_4 => (
      if r_5 = 0 then (
        Q 0 σ_4)
      else (
        lt (x5 + 1) fun x5_6 => (
        K49 t x1 x2 x3 x4 x5_6 σ_4)))))
def wX0_isNeverFree_49 (K32 : Nat → Int32 → Int32 → Int32 → Int32 → Sg → Prop) (Q : Int32 → Sg → Prop) : Nat → Nat → Int32 → Int32 → Int32 → Int32 → Int32 → Sg → Prop
  | 0 => fun _ _ _ _ _ _ _ => False
  | n + 1 => fun t x1 x2 x3 x4 x5 σ => wX0_isNeverFree_49_b K32 (wX0_isNeverFree_49 K32 Q n) t x1 x2 x3 x4 x5 σ Q
def wX0_isNeverFree_32_b  (K32 : Nat → Int32 → Int32 → Int32 → Int32 → Sg → Prop) (t : Nat) (x1 : Int32) (x2 : Int32) (x3 : Int32) (x4 : Int32) (σ : Sg) (Q : Int32 → Sg → Prop) : Prop :=
    (YC.2.1 t = 0) ∧ (
    if (σ.1 t 5) = 0 then (
      Q 1 σ)
    else (
      if x2 < x4 then (
        Q 1 σ)
      else (
        lt (-x1) fun x5_9 => (
        ∃ nn, wX0_isNeverFree_49  K32 Q nn t x1 x2 x3 x4 x5_9 σ))))
def wX0_isNeverFree_32  (Q : Int32 → Sg → Prop) : Nat → Nat → Int32 → Int32 → Int32 → Int32 → Sg → Prop
  | 0 => fun _ _ _ _ _ _ => False
  | n + 1 => fun t x1 x2 x3 x4 σ => wX0_isNeverFree_32_b  (wX0_isNeverFree_32  Q n) t x1 x2 x3 x4 σ Q
def wX0_isNeverFree_27  (t : Nat) (x1 : Int32) (x2 : Int32) (s0 : Int32) (σ : Sg) (Q : Int32 → Sg → Prop) : Prop :=
  lt (-x1) fun x4_11 => (
  ∃ nn, wX0_isNeverFree_32   Q nn t x1 x2 s0 x4_11 σ)
def wX0_isNeverFree_13  (t : Nat) (x1 : Int32) (s0 : Int32) (σ : Sg) (Q : Int32 → Sg → Prop) : Prop :=
  (YC.2.1 t = 0) ∧ (
  if (σ.1 t 4) = 0 then (
    wX0_isNeverFree_27   t x1 s0 (-x1) σ Q)
  else (
    wX0_isNeverFree_27   t x1 s0 x1 σ Q))
def wX0_isNeverFree  (t : Nat) (x1 : Int32) (σ : Sg) (Q : Int32 → Sg → Prop) : Prop :=
  (YC.2.1 t = 0) ∧ (
  if (σ.1 t 3) = 0 then (
    wX0_isNeverFree_13   t x1 (-x1) σ Q)
  else (
    wX0_isNeverFree_13   t x1 x1 σ Q))
def wX1_howMany  (x1 : Int32) (σ : Sg) (Q : Int64 → Sg → Prop) : Prop :=
  wX7_within x1 1 15 σ fun r_2 σ_1 => (
  if r_2 = 0 then (
    Q 0 σ_1)
  else (
    (vp_in x1 16) ∧ (
    Q (σ_1.2.1 2 (Int32.toNatClampNeg x1)) σ_1)))
def wX1_unfoldLeaf_25  (s0 : Nat) (s1 : Int32) (σ : Sg) (Q : Sg → Prop) : Prop :=
  (YC.2.1 s0 = 4) ∧ (
  wX5_append s0 s1 0 σ fun  σ_2 => (
  Q σ_2))
def wX1_unfoldLeaf  (q1 : Nat) (x2 : Int32) (σ : Sg) (Q : Sg → Prop) : Prop :=
  if 3 ≤ x2 then (
    if x2 = 3 then (
      wX1_unfoldLeaf_25   q1 1 σ Q)
    else (
      wX1_unfoldLeaf_25   q1 2 σ Q))
  else (
    (YC.2.1 q1 = 4) ∧ (
    wX5_append q1 0 x2 σ fun  σ_4 => (
    Q σ_4)))
def wX1_deferTwo_73 (K6 : Int32 → Int64 → Int32 → Sg → Prop) (x1 : Int32) (x4 : Int64) (x6 : Int32) (x9 : Int64) (σ : Sg) (Q : Sg → Prop) : Prop :=
  lt (x4 - x9) fun x4_1 => (
  lt (x6 + 1) fun x6_3 => (
  K6 x1 x4_1 x6_3 σ))
def wX1_deferTwo_6_b  (K6 : Int32 → Int64 → Int32 → Sg → Prop) (x1 : Int32) (x4 : Int64) (x6 : Int32) (σ : Sg) (Q : Sg → Prop) : Prop :=
    if x1 ≤ x6 then (
      Q σ)
    else (
      wX1_howMany (x1 - x6) σ fun r_6 σ_5 => (
      wX1_howMany x6 σ_5 fun r_8 σ_7 => (
      lt (r_8 * r_6) fun x9_9 => (
      if r_6 ≤ 0 then (
        wX1_deferTwo_73  K6 x1 x4 x6 x9_9 σ_7 Q)
      else (
        if x9_9 ≤ x4 then (
          wX1_deferTwo_73  K6 x1 x4 x6 x9_9 σ_7 Q)
        else (
          (¬ r_6 = 0) ∧ (
          wX1_defer (x1 - x6) (x4 - x4 / r_6 * r_6) σ_7 fun  σ_12 => (
          wX1_defer x6 (x4 / r_6) σ_12 fun  σ_13 => (
          Q σ_13)))))))))
def wX1_deferTwo_6  (Q : Sg → Prop) : Nat → Int32 → Int64 → Int32 → Sg → Prop
  | 0 => fun _ _ _ _ => False
  | n + 1 => fun x1 x4 x6 σ => wX1_deferTwo_6_b  (wX1_deferTwo_6  Q n) x1 x4 x6 σ Q
def wX1_deferTwo  (x1 : Int32) (x2 : Int64) (σ : Sg) (Q : Sg → Prop) : Prop :=
  ∃ nn, wX1_deferTwo_6   Q nn x1 x2 1 σ
def wX1_deferThree_80 (K6 : Int32 → Int64 → Int32 → Sg → Prop) (x1 : Int32) (x4 : Int64) (x6 : Int32) (x9 : Int64) (σ : Sg) (Q : Sg → Prop) : Prop :=
  lt (x4 - x9) fun x4_1 => (
  lt (x6 + 1) fun x6_3 => (
  K6 x1 x4_1 x6_3 σ))
def wX1_deferThree_6_b  (K6 : Int32 → Int64 → Int32 → Sg → Prop) (x1 : Int32) (x4 : Int64) (x6 : Int32) (σ : Sg) (Q : Sg → Prop) : Prop :=
    if x1 ≤ x6 then (
      Q σ)
    else (
      if 15 < x1 then (
        Q σ)
      else (
        (vp_in (x1 - x6) 16) ∧ (
        lt (σ.2.1 3 (Int32.toNatClampNeg (x1 - x6))) fun x7_6 => (
        wX1_howMany x6 σ fun r_9 σ_8 => (
        lt (r_9 * x7_6) fun x9_10 => (
        if x7_6 ≤ 0 then (
          wX1_deferThree_80  K6 x1 x4 x6 x9_10 σ_8 Q)
        else (
          if x9_10 ≤ x4 then (
            wX1_deferThree_80  K6 x1 x4 x6 x9_10 σ_8 Q)
          else (
            (¬ x7_6 = 0) ∧ (
            wX1_deferTwo (x1 - x6) (x4 - x4 / x7_6 * x7_6) σ_8 fun  σ_13 => (
            wX1_defer x6 (x4 / x7_6) σ_13 fun  σ_14 => (
            Q σ_14)))))))))))
def wX1_deferThree_6  (Q : Sg → Prop) : Nat → Int32 → Int64 → Int32 → Sg → Prop
  | 0 => fun _ _ _ _ => False
  | n + 1 => fun x1 x4 x6 σ => wX1_deferThree_6_b  (wX1_deferThree_6  Q n) x1 x4 x6 σ Q
def wX1_deferThree  (x1 : Int32) (x2 : Int64) (σ : Sg) (Q : Sg → Prop) : Prop :=
  ∃ nn, wX1_deferThree_6   Q nn x1 x2 1 σ
def wX1_isNumbered_44 (K13 : Nat → Int32 → Sg → Prop) (q1 : Nat) (x2 : Int32) (σ : Sg) (Q : Int32 → Sg → Prop) : Prop :=
  lt (x2 + 1) fun x2_1 => (
  K13 q1 x2_1 σ)
def wX1_isNumbered_13_b  (K13 : Nat → Int32 → Sg → Prop) (q1 : Nat) (x2 : Int32) (σ : Sg) (Q : Int32 → Sg → Prop) : Prop :=
    (YC.2.1 q1 = 4) ∧ (
    if (σ.1 q1 3) ≤ x2 then (
      Q 1 σ)
    else (
      wX5_kindOf q1 x2 σ fun r_5 σ_4 => (
      if r_5 = 0 then (
        wX5_numberOf q1 x2 σ_4 fun r_7 σ_6 => (
        wX7_within r_7 0 2 σ_6 fun r_9 σ_8 => (
        if r_9 = 0 then (
          Q 0 σ_8)
        else (
          wX1_isNumbered_44  K13 q1 x2 σ_8 Q))))
      else (
        wX1_isNumbered_44  K13 q1 x2 σ_4 Q))))
def wX1_isNumbered_13  (Q : Int32 → Sg → Prop) : Nat → Nat → Int32 → Sg → Prop
  | 0 => fun _ _ _ => False
  | n + 1 => fun q1 x2 σ => wX1_isNumbered_13_b  (wX1_isNumbered_13  Q n) q1 x2 σ Q
def wX1_isNumbered  (q1 : Nat) (σ : Sg) (Q : Int32 → Sg → Prop) : Prop :=
  (YC.2.1 q1 = 4) ∧ (
  if (σ.1 q1 3) ≤ 15 then (
    ∃ nn, wX1_isNumbered_13   Q nn q1 0 σ)
  else (
    Q 0 σ))
def wX1_rankAt  (x1 : Int32) (σ : Sg) (Q : Int64 → Sg → Prop) : Prop :=
  wX7_within x1 0 15 σ fun r_2 σ_1 => (
  if r_2 = 0 then (
    Q 0 σ_1)
  else (
    (vp_in x1 16) ∧ (
    Q (σ_1.2.1 7 (Int32.toNatClampNeg x1)) σ_1)))
def wX1_rankOfTwo_49_b  (K49 : Int32 → Int32 → Int64 → Int32 → Sg → Prop) (x4 : Int32) (x5 : Int32) (x6 : Int64) (x8 : Int32) (σ : Sg) (Q : Int64 → Sg → Prop) : Prop :=
    if x4 ≤ x8 then (
      Q x6 σ)
    else (
      wX1_howMany x8 σ fun r_2 σ_1 => (
      wX1_howMany (x5 - x8) σ_1 fun r_4 σ_3 => (
      lt (x6 + (r_2 * r_4)) fun x6_5 => (
      lt (x8 + 1) fun x8_7 => (
      K49 x4 x5 x6_5 x8_7 σ_3)))))
def wX1_rankOfTwo_49  (Q : Int64 → Sg → Prop) : Nat → Int32 → Int32 → Int64 → Int32 → Sg → Prop
  | 0 => fun _ _ _ _ _ => False
  | n + 1 => fun x4 x5 x6 x8 σ => wX1_rankOfTwo_49_b  (wX1_rankOfTwo_49  Q n) x4 x5 x6 x8 σ Q
def wX1_rankOfTwo  (q1 : Nat) (x2 : Int32) (σ : Sg) (Q : Int64 → Sg → Prop) : Prop :=
  (YC.2.1 q1 = 4) ∧ (
  wX5_behind q1 x2 σ fun r_11 σ_10 => (
  wX5_sizeOf q1 x2 σ_10 fun r_13 σ_12 => (
  wX5_sizeOf q1 r_11 σ_12 fun r_15 σ_14 => (
  lt (r_13 + r_15) fun x5_16 => (
  wX1_rankAt x2 σ_14 fun r_19 σ_18 => (
  wX1_howMany (x5_16 - r_13) σ_18 fun r_21 σ_20 => (
  wX1_rankAt r_11 σ_20 fun r_23 σ_22 => (
  lt ((r_19 * r_21) + r_23) fun x6_24 => (
  ∃ nn, wX1_rankOfTwo_49   Q nn r_13 x5_16 x6_24 1 σ_22)))))))))
def wX1_rankOfThree_64 (K22 : Int32 → Int32 → Int32 → Int64 → Int32 → Sg → Prop) (x2 : Int32) (x3 : Int32) (x4 : Int32) (x7 : Int32) (s0 : Int64) (s1 : Int64) (σ : Sg) (Q : Int64 → Sg → Prop) : Prop :=
  (vp_in (x3 - x7) 16) ∧ (
  lt (s0 + (s1 * (σ.2.1 3 (Int32.toNatClampNeg (x3 - x7))))) fun x5_2 => (
  lt (x7 + 1) fun x7_4 => (
  K22 x2 x3 x4 x5_2 x7_4 σ)))
def wX1_rankOfThree_22_b  (K22 : Int32 → Int32 → Int32 → Int64 → Int32 → Sg → Prop) (x2 : Int32) (x3 : Int32) (x4 : Int32) (x5 : Int64) (x7 : Int32) (σ : Sg) (Q : Int64 → Sg → Prop) : Prop :=
    if x4 < x7 then (
      Q x5 σ)
    else (
      if x3 < x7 then (
        Q x5 σ)
      else (
        if 15 < x3 then (
          Q x5 σ)
        else (
          if x4 ≤ x7 then (
            wX1_rankAt x2 σ fun r_7 σ_6 => (
            wX1_rankOfThree_64  K22 x2 x3 x4 x7 x5 r_7 σ_6 Q))
          else (
            wX1_howMany x7 σ fun r_9 σ_8 => (
            wX1_rankOfThree_64  K22 x2 x3 x4 x7 x5 r_9 σ_8 Q)))))
def wX1_rankOfThree_22  (Q : Int64 → Sg → Prop) : Nat → Int32 → Int32 → Int32 → Int64 → Int32 → Sg → Prop
  | 0 => fun _ _ _ _ _ _ => False
  | n + 1 => fun x2 x3 x4 x5 x7 σ => wX1_rankOfThree_22_b  (wX1_rankOfThree_22  Q n) x2 x3 x4 x5 x7 σ Q
def wX1_rankOfThree  (q1 : Nat) (x2 : Int32) (x3 : Int32) (σ : Sg) (Q : Int64 → Sg → Prop) : Prop :=
  (YC.2.1 q1 = 4) ∧ (
  wX5_sizeOf q1 x2 σ fun r_12 σ_11 => (
  wX5_behind q1 x2 σ_11 fun r_14 σ_13 => (
  wX1_rankOfTwo q1 r_14 σ_13 fun r_16 σ_15 => (
  ∃ nn, wX1_rankOfThree_22   Q nn x2 x3 r_12 r_16 1 σ_15))))
def wX3_clear   (σ : Sg) (Q : Sg → Prop) : Prop :=
  wX5_clear 9 σ fun  σ_1 => (
  lt (sI σ_1 8 (upd (σ_1.1 8) 2 0)) fun σ_2 => (
  Q σ_2))
def wX3_put_45  (x1 : Int32) (x2 : Int32) (x3 : Int32) (s0 : Int32) (σ : Sg) (Q : Sg → Prop) : Prop :=
  wX5_insert 9 s0 x1 x2 σ fun  σ_1 => (
  (vp_in x3 60) ∧ (
  lt (sI σ_1 13 (upd (σ_1.1 13) (Int32.toNatClampNeg x3) s0)) fun σ_3 => (
  lt (sI σ_3 8 (upd (σ_3.1 8) 2 (x3 + 1))) fun σ_5 => (
  Q σ_5))))
def wX3_put  (x1 : Int32) (x2 : Int32) (σ : Sg) (Q : Sg → Prop) : Prop :=
  wX7_partsOf x1 σ fun r_8 σ_7 => (
  lt ((σ.1 8 2) - r_8) fun x3_9 => (
  if x3_9 < 0 then (
    Q σ_7)
  else (
    if x3_9 < 60 then (
      if (σ_7.1 8 2) ≤ x3_9 then (
        wX3_put_45   x1 x2 x3_9 (σ_7.1 9 3) σ_7 Q)
      else (
        (vp_in x3_9 60) ∧ (
        wX3_put_45   x1 x2 x3_9 (σ_7.1 13 (Int32.toNatClampNeg x3_9)) σ_7 Q)))
    else (
      Q σ_7))))
def wX4_fold_148  (q0 : Nat) (x1 : Int32) (x6 : Int32) (σ : Sg) (Q : Int32 → Sg → Prop) : Prop :=
  (YC.2.1 q0 = 4) ∧ (
  wX5_endAsNumber q0 x1 x6 σ fun  σ_2 => (
  Q 1 σ_2))
def wX4_fold_132  (q0 : Nat) (x1 : Int32) (x2 : Int32) (x3 : Int32) (x6 : Int32) (σ : Sg) (Q : Int32 → Sg → Prop) : Prop :=
  if x3 = 6 then (
    if x2 = 2 then (
      lt (Int16.toInt32 (Int32.toInt16 x6)) fun x6_3 => (
      wX4_fold_148   q0 x1 x6_3 σ Q))
    else (
      wX4_fold_148   q0 x1 x6 σ Q))
  else (
    wX4_fold_148   q0 x1 x6 σ Q)
def wX4_fold_86  (q0 : Nat) (x1 : Int32) (x2 : Int32) (x3 : Int32) (x4 : Int32) (x5 : Int32) (σ : Sg) (Q : Int32 → Sg → Prop) : Prop :=
  (YC.2.1 q0 = 4) ∧ (
  wX5_numberOf q0 x4 σ fun r_7 σ_6 => (
  wX5_numberOf q0 x5 σ_6 fun r_9 σ_8 => (
  wX7_combine x3 r_7 r_9 σ_8 fun r_11 σ_10 => (
  if x3 = 5 then (
    if x2 = 1 then (
      wX5_numberOf q0 x5 σ_10 fun r_13 σ_12 => (
      wX5_numberOf q0 x4 σ_12 fun r_15 σ_14 => (
      lt (r_13 - r_15) fun x6_16 => (
      wX4_fold_148   q0 x1 x6_16 σ_14 Q))))
    else (
      wX4_fold_132   q0 x1 x2 x3 r_11 σ_10 Q))
  else (
    wX4_fold_132   q0 x1 x2 x3 r_11 σ_10 Q)))))
def wX4_fold  (q0 : Nat) (x1 : Int32) (x2 : Int32) (σ : Sg) (Q : Int32 → Sg → Prop) : Prop :=
  (YC.2.1 q0 = 4) ∧ (
  wX5_kindOf q0 x1 σ fun r_20 σ_19 => (
  lt (x1 + 1) fun x4_21 => (
  if r_20 < 3 then (
    Q 0 σ_19)
  else (
    if 7 < r_20 then (
      Q 0 σ_19)
    else (
      wX5_kindOf q0 x4_21 σ_19 fun r_24 σ_23 => (
      if r_24 = 0 then (
        if r_20 = 3 then (
          wX5_numberOf q0 x4_21 σ_23 fun r_32 σ_31 => (
          wX5_endAsNumber q0 x1 (-r_32) σ_31 fun  σ_33 => (
          Q 1 σ_33)))
        else (
          wX5_behind q0 x4_21 σ_23 fun r_26 σ_25 => (
          wX5_kindOf q0 r_26 σ_25 fun r_28 σ_27 => (
          if r_28 = 0 then (
            if r_20 = 7 then (
              wX5_numberOf q0 r_26 σ_27 fun r_30 σ_29 => (
              if r_30 = 0 then (
                Q 0 σ_29)
              else (
                wX4_fold_86   q0 x1 x2 r_20 x4_21 r_26 σ_29 Q)))
            else (
              wX4_fold_86   q0 x1 x2 r_20 x4_21 r_26 σ_27 Q))
          else (
            Q 0 σ_27)))))
      else (
        Q 0 σ_23)))))))
def wX4_staysOfTimes  (q0 : Nat) (x1 : Int32) (x2 : Int32) (x3 : Int32) (σ : Sg) (Q : Int32 → Sg → Prop) : Prop :=
  (YC.2.1 q0 = 4) ∧ (
  wX5_isNumber q0 x2 1 σ fun r_3 σ_2 => (
  if r_3 = 0 then (
    wX5_isNumber q0 x1 1 σ_2 fun r_5 σ_4 => (
    if r_5 = 0 then (
      wX5_isNumber q0 x2 0 σ_4 fun r_7 σ_6 => (
      if r_7 = 0 then (
        wX5_isNumber q0 x1 0 σ_6 fun r_9 σ_8 => (
        if r_9 = 0 then (
          Q (-1) σ_8)
        else (
          if x3 = 2 then (
            Q x2 σ_8)
          else (
            Q x1 σ_8))))
      else (
        if x3 = 2 then (
          Q x1 σ_6)
        else (
          Q x2 σ_6))))
    else (
      Q x2 σ_4)))
  else (
    Q x1 σ_2)))
def wX4_isAlike  (q0 : Nat) (x1 : Int32) (x2 : Int32) (σ : Sg) (Q : Int32 → Sg → Prop) : Prop :=
  (YC.2.1 q0 = 4) ∧ (
  wX5_kindOf q0 x1 σ fun r_3 σ_2 => (
  wX5_kindOf q0 x2 σ_2 fun r_5 σ_4 => (
  if r_3 = r_5 then (
    wX5_numberOf q0 x1 σ_4 fun r_7 σ_6 => (
    wX5_numberOf q0 x2 σ_6 fun r_9 σ_8 => (
    if r_7 = r_9 then (
      wX5_sizeOf q0 x1 σ_8 fun r_11 σ_10 => (
      wX5_sizeOf q0 x2 σ_10 fun r_13 σ_12 => (
      if r_11 = r_13 then (
        Q 1 σ_12)
      else (
        Q 0 σ_12))))
    else (
      Q 0 σ_8))))
  else (
    Q 0 σ_4))))
def wX4_pick_86  (s0 : Nat) (s1 : Int32) (s2 : Int32) (σ : Sg) (Q : Int32 → Sg → Prop) : Prop :=
  (YC.2.1 s0 = 4) ∧ (
  wX5_endAsPart s0 s1 s2 σ fun  σ_2 => (
  Q 1 σ_2))
def wX4_pick_66  (q0 : Nat) (x1 : Int32) (x4 : Int32) (s0 : Int32) (σ : Sg) (Q : Int32 → Sg → Prop) : Prop :=
  if s0 = 0 then (
    (YC.2.1 q0 = 4) ∧ (
    wX5_behind q0 x4 σ fun r_5 σ_4 => (
    wX4_pick_86   q0 x1 r_5 σ_4 Q)))
  else (
    wX4_pick_86   q0 x1 x4 σ Q)
def wX4_pick_65  (q0 : Nat) (x1 : Int32) (x4 : Int32) (σ : Sg) (Q : Int32 → Sg → Prop) : Prop :=
  wX4_pick_66   q0 x1 x4 0 σ Q
def wX4_pick_61  (q0 : Nat) (x1 : Int32) (x4 : Int32) (σ : Sg) (Q : Int32 → Sg → Prop) : Prop :=
  wX4_pick_66   q0 x1 x4 1 σ Q
def wX4_pick  (q0 : Nat) (x1 : Int32) (x2 : Int32) (σ : Sg) (Q : Int32 → Sg → Prop) : Prop :=
  lt (x1 + 1) fun x3_6 => (
  (YC.2.1 q0 = 4) ∧ (
  wX5_kindOf q0 x1 σ fun r_10 σ_9 => (
  if r_10 = 8 then (
    wX5_kindOf q0 x3_6 σ_9 fun r_12 σ_11 => (
    if r_12 = 0 then (
      wX5_behind q0 x3_6 σ_11 fun r_14 σ_13 => (
      wX5_numberOf q0 x3_6 σ_13 fun r_16 σ_15 => (
      if x2 = 2 then (
        wX4_pick_61   q0 x1 r_14 σ_15 Q)
      else (
        if x2 = 1 then (
          if r_16 ≤ 0 then (
            wX4_pick_65   q0 x1 r_14 σ_15 Q)
          else (
            wX4_pick_61   q0 x1 r_14 σ_15 Q))
        else (
          if r_16 = 0 then (
            wX4_pick_65   q0 x1 r_14 σ_15 Q)
          else (
            wX4_pick_61   q0 x1 r_14 σ_15 Q))))))
    else (
      Q 0 σ_11)))
  else (
    Q 0 σ_9))))
def wX4_melt_91  (q0 : Nat) (x1 : Int32) (x4 : Int32) (σ : Sg) (Q : Int32 → Sg → Prop) : Prop :=
  (YC.2.1 q0 = 4) ∧ (
  wX5_endAsPart q0 x1 x4 σ fun  σ_2 => (
  Q 1 σ_2))
def wX4_melt_67  (q0 : Nat) (x1 : Int32) (x2 : Int32) (x3 : Int32) (x4 : Int32) (s0 : Int32) (σ : Sg) (Q : Int32 → Sg → Prop) : Prop :=
  if s0 = 0 then (
    if x2 = 2 then (
      (YC.2.1 q0 = 4) ∧ (
      wX5_isSame q0 x3 x4 σ fun r_5 σ_4 => (
      if r_5 = 0 then (
        Q 0 σ_4)
      else (
        wX4_melt_91   q0 x1 x4 σ_4 Q))))
    else (
      Q 0 σ))
  else (
    wX4_melt_91   q0 x1 x4 σ Q)
def wX4_melt  (q0 : Nat) (x1 : Int32) (x2 : Int32) (σ : Sg) (Q : Int32 → Sg → Prop) : Prop :=
  (YC.2.1 q0 = 4) ∧ (
  wX5_kindOf q0 x1 σ fun r_8 σ_7 => (
  if r_8 = 8 then (
    lt (x1 + 1) fun x3_9 => (
    wX5_behind q0 x3_9 σ_7 fun r_12 σ_11 => (
    wX5_behind q0 r_12 σ_11 fun r_14 σ_13 => (
    if x2 = 1 then (
      wX5_sizeOf q0 r_12 σ_13 fun r_18 σ_17 => (
      wX5_sizeOf q0 r_14 σ_17 fun r_20 σ_19 => (
      if r_18 = r_20 then (
        wX4_melt_67   q0 x1 x2 x3_9 r_12 1 σ_19 Q)
      else (
        wX4_melt_67   q0 x1 x2 x3_9 r_12 0 σ_19 Q))))
    else (
      wX5_isSame q0 r_12 r_14 σ_13 fun r_16 σ_15 => (
      wX4_melt_67   q0 x1 x2 x3_9 r_12 r_16 σ_15 Q))))))
  else (
    Q 0 σ_7)))
def wX4_otherThan  (q0 : Nat) (x1 : Int32) (x2 : Int32) (x3 : Int32) (σ : Sg) (Q : Int32 → Sg → Prop) : Prop :=
  (YC.2.1 q0 = 4) ∧ (
  wX5_isNumber q0 x2 x3 σ fun r_3 σ_2 => (
  if r_3 = 0 then (
    wX5_isNumber q0 x1 x3 σ_2 fun r_5 σ_4 => (
    if r_5 = 0 then (
      Q (-1) σ_4)
    else (
      Q x2 σ_4)))
  else (
    Q x1 σ_2)))
def wX4_sink_91  (s0 : Nat) (s1 : Int32) (s2 : Int32) (σ : Sg) (Q : Int32 → Sg → Prop) : Prop :=
  (YC.2.1 s0 = 4) ∧ (
  wX5_rename s0 s1 s2 σ fun  σ_2 => (
  Q 1 σ_2))
def wX4_sink_86  (s0 : Nat) (s1 : Int32) (σ : Sg) (Q : Int32 → Sg → Prop) : Prop :=
  wX4_sink_91   s0 s1 5 σ Q
def wX4_sink_49  (q0 : Nat) (x1 : Int32) (x2 : Int32) (x3 : Int32) (x4 : Int32) (σ : Sg) (Q : Int32 → Sg → Prop) : Prop :=
  (YC.2.1 q0 = 4) ∧ (
  wX5_behind q0 x4 σ fun r_5 σ_4 => (
  wX5_kindOf q0 r_5 σ_4 fun r_7 σ_6 => (
  if r_7 = 3 then (
    wX5_cut q0 r_5 1 σ_6 fun  σ_12 => (
    if x3 = 4 then (
      wX4_sink_86   q0 x1 σ_12 Q)
    else (
      if x2 = 2 then (
        wX4_sink_86   q0 x1 σ_12 Q)
      else (
        wX4_sink_91   q0 x1 4 σ_12 Q))))
  else (
    if x3 = 4 then (
      if x2 = 1 then (
        wX5_kindOf q0 x4 σ_6 fun r_9 σ_8 => (
        if r_9 = 3 then (
          wX5_cut q0 x4 1 σ_8 fun  σ_10 => (
          wX5_rename q0 x1 5 σ_10 fun  σ_11 => (
          Q 1 σ_11)))
        else (
          Q 0 σ_8)))
      else (
        Q 0 σ_6))
    else (
      Q 0 σ_6)))))
def wX4_sink_37  (q0 : Nat) (x1 : Int32) (x2 : Int32) (x3 : Int32) (x4 : Int32) (σ : Sg) (Q : Int32 → Sg → Prop) : Prop :=
  if x3 = 4 then (
    wX4_sink_49   q0 x1 x2 x3 x4 σ Q)
  else (
    if x3 = 5 then (
      wX4_sink_49   q0 x1 x2 x3 x4 σ Q)
    else (
      Q 0 σ))
def wX4_sink  (q0 : Nat) (x1 : Int32) (x2 : Int32) (σ : Sg) (Q : Int32 → Sg → Prop) : Prop :=
  (YC.2.1 q0 = 4) ∧ (
  wX5_kindOf q0 x1 σ fun r_15 σ_14 => (
  lt (x1 + 1) fun x4_16 => (
  if r_15 = 3 then (
    wX5_kindOf q0 x4_16 σ_14 fun r_19 σ_18 => (
    if r_19 = 3 then (
      wX5_endAsPart q0 x1 (x4_16 + 1) σ_18 fun  σ_20 => (
      Q 1 σ_20))
    else (
      wX4_sink_37   q0 x1 x2 r_15 x4_16 σ_18 Q)))
  else (
    wX4_sink_37   q0 x1 x2 r_15 x4_16 σ_14 Q))))
def wX5_measure_25_b (K7 : Nat → Int32 → Sg → Prop) (K25 : Nat → Int32 → Int32 → Int32 → Sg → Prop) (t : Nat) (x1 : Int32) (x2 : Int32) (x3 : Int32) (σ : Sg) (Q : Sg → Prop) : Prop :=
    if x3 ≤ 0 then (
      (YC.2.1 t = 4) ∧ (
      (vp_in x1 200) ∧ (
      lt (sI σ (t + 3) (upd (σ.1 (t + 3)) (Int32.toNatClampNeg x1) (x2 - x1))) fun σ_3 => (
      lt (x1 + (-1)) fun x1_5 => (
      K7 t x1_5 σ_3)))))
    else (
      (YC.2.1 t = 4) ∧ (
      wX5_behind t x2 σ fun r_9 σ_8 => (
      lt (x3 + (-1)) fun x3_10 => (
      K25 t x1 r_9 x3_10 σ_8))))
def wX5_measure_25 (K7 : Nat → Int32 → Sg → Prop) (Q : Sg → Prop) : Nat → Nat → Int32 → Int32 → Int32 → Sg → Prop
  | 0 => fun _ _ _ _ _ => False
  | n + 1 => fun t x1 x2 x3 σ => wX5_measure_25_b K7 (wX5_measure_25 K7 Q n) t x1 x2 x3 σ Q
def wX5_measure_7_b  (K7 : Nat → Int32 → Sg → Prop) (t : Nat) (x1 : Int32) (σ : Sg) (Q : Sg → Prop) : Prop :=
    if x1 < 0 then (
      Q σ)
    else (
      lt (x1 + 1) fun x2_12 => (
      (YC.2.1 t = 4) ∧ (
      (vp_in x1 200) ∧ (
      wX7_partsOf (σ.1 (t + 1) (Int32.toNatClampNeg x1)) σ fun r_17 σ_16 => (
      ∃ nn, wX5_measure_25  K7 Q nn t x1 x2_12 r_17 σ_16)))))
def wX5_measure_7  (Q : Sg → Prop) : Nat → Nat → Int32 → Sg → Prop
  | 0 => fun _ _ _ => False
  | n + 1 => fun t x1 σ => wX5_measure_7_b  (wX5_measure_7  Q n) t x1 σ Q
def wX5_measure  (t : Nat) (σ : Sg) (Q : Sg → Prop) : Prop :=
  (YC.2.1 t = 4) ∧ (
  lt ((σ.1 t 3) - 1) fun x1_19 => (
  ∃ nn, wX5_measure_7   Q nn t x1_19 σ))
def wX7_many  (x1 : Int32) (σ : Sg) (Q : Int64 → Sg → Prop) : Prop :=
  wX7_within x1 1 15 σ fun r_2 σ_1 => (
  if r_2 = 0 then (
    Q (-1) σ_1)
  else (
    wX1_howMany x1 σ_1 fun r_4 σ_3 => (
    Q r_4 σ_3)))
def wX7_node_20  (x1 : Int32) (x2 : Int32) (σ : Sg) (Q : Int32 → Sg → Prop) : Prop :=
  wX7_partsOf x1 σ fun r_2 σ_1 => (
  if r_2 ≤ (σ.1 8 2) then (
    if (σ_1.1 9 3) < 60 then (
      wX3_put x1 x2 σ_1 fun  σ_3 => (
      Q (σ_3.1 8 2) σ_3))
    else (
      Q (-3) σ_1))
  else (
    Q (-2) σ_1))
def wX7_node  (x1 : Int32) (x2 : Int32) (σ : Sg) (Q : Int32 → Sg → Prop) : Prop :=
  wX7_within x1 0 8 σ fun r_5 σ_4 => (
  if r_5 = 0 then (
    Q (-1) σ_4)
  else (
    if x1 = 0 then (
      wX7_node_20   x1 x2 σ_4 Q)
    else (
      if x2 = 0 then (
        wX7_node_20   x1 x2 σ_4 Q)
      else (
        Q (-1) σ_4))))
def wX7_keep  (x1 : Int32) (σ : Sg) (Q : Int32 → Sg → Prop) : Prop :=
  wX7_placeAt x1 σ fun o_2 σ_1 => (
  (o_2 = none → (
    Q (-1) σ_1)) ∧ ∀ z_3, o_2 = some z_3 → (
    if (σ_1.1 8 2) = 1 then (
      (YC.2.1 z_3 = 4) ∧ (
      wX5_become z_3 9 σ_1 fun  σ_5 => (
      wX3_clear  σ_5 fun  σ_6 => (
      Q (σ_6.1 z_3 3) σ_6))))
    else (
      Q (-2) σ_1)))
def wX7_drop  (x1 : Int32) (σ : Sg) (Q : Int32 → Sg → Prop) : Prop :=
  wX7_programAt x1 σ fun o_2 σ_1 => (
  (o_2 = none → (
    Q (-1) σ_1)) ∧ ∀ z_3, o_2 = some z_3 → (
    (YC.2.1 z_3 = 4) ∧ (
    lt (σ_1.1 z_3 3) fun x3_5 => (
    wX5_clear z_3 σ_1 fun  σ_7 => (
    Q x3_5 σ_7)))))
def wX7_read  (x1 : Int32) (x2 : Int32) (x3 : Int32) (σ : Sg) (Q : Int32 → Sg → Prop) : Prop :=
  wX7_programAt x1 σ fun o_2 σ_1 => (
  (o_2 = none → (
    Q (-2000000000) σ_1)) ∧ ∀ z_3, o_2 = some z_3 → (
    wX7_tell z_3 x2 x3 σ_1 fun r_5 σ_4 => (
    Q r_5 σ_4)))
def wX7_turn  (x1 : Int32) (x2 : Int32) (x3 : Int32) (σ : Sg) (Q : Int32 → Sg → Prop) : Prop :=
  wX7_makerAt x1 σ fun o_2 σ_1 => (
  (o_2 = none → (
    Q (-1) σ_1)) ∧ ∀ z_3, o_2 = some z_3 → (
    wX7_within x2 0 6 σ_1 fun r_5 σ_4 => (
    if r_5 = 0 then (
      Q (-1) σ_4)
    else (
      wX7_within x3 0 2 σ_4 fun r_7 σ_6 => (
      if r_7 = 0 then (
        Q (-1) σ_6)
      else (
        (YC.2.1 z_3 = 2) ∧ (
        if (σ_6.1 z_3 2) < 10 then (
          wX2_addTurn z_3 x2 x3 σ_6 fun  σ_9 => (
          Q (σ_9.1 z_3 2) σ_9))
        else (
          Q (-3) σ_6))))))))
def wX7_plant  (x1 : Int32) (x2 : Int32) (x3 : Int32) (σ : Sg) (Q : Int32 → Sg → Prop) : Prop :=
  wX7_makerAt x1 σ fun o_2 σ_1 => (
  (o_2 = none → (
    Q (-1) σ_1)) ∧ ∀ z_3, o_2 = some z_3 → (
    (YC.2.1 z_3 = 2) ∧ (
    wX2_has z_3 x2 σ_1 fun r_6 σ_5 => (
    if r_6 = 0 then (
      Q (-1) σ_5)
    else (
      wX7_within x3 0 2 σ_5 fun r_8 σ_7 => (
      if r_8 = 0 then (
        Q (-1) σ_7)
      else (
        wX2_faultOf z_3 x2 σ_7 fun r_10 σ_9 => (
        wX2_setFault z_3 x2 x3 σ_9 fun  σ_11 => (
        Q r_10 σ_11)))))))))
def wX7_part  (x1 : Int32) (x2 : Int32) (σ : Sg) (Q : Int32 → Sg → Prop) : Prop :=
  wX7_tell 41 x1 x2 σ fun r_2 σ_1 => (
  Q r_2 σ_1)
def wX7_count  (x1 : Int32) (σ : Sg) (Q : Int32 → Sg → Prop) : Prop :=
  if x1 = 0 then (
    wX7_keptPrograms  σ fun r_2 σ_1 => (
    Q r_2 σ_1))
  else if x1 = 1 then (
    Q (σ.1 0 10) σ)
  else if x1 = 2 then (
    Q (σ.1 8 2) σ)
  else if x1 = 3 then (
    Q (σ.1 9 3) σ)
  else if x1 = 4 then (
    wX7_keptNodes  σ fun r_4 σ_3 => (
    Q r_4 σ_3))
  else (
  Q (-1) σ)
def wX7_ofMaker  (x1 : Int32) (x2 : Int32) (σ : Sg) (Q : Int32 → Sg → Prop) : Prop :=
  wX7_makerAt x1 σ fun o_2 σ_1 => (
  (o_2 = none → (
    Q (-1) σ_1)) ∧ ∀ z_3, o_2 = some z_3 → (
    if x2 = (-1) then (
      (YC.2.1 z_3 = 2) ∧ (
      Q (σ_1.1 z_3 2) σ_1))
    else (
      (YC.2.1 z_3 = 2) ∧ (
      wX2_has z_3 x2 σ_1 fun r_6 σ_5 => (
      if r_6 = 0 then (
        Q (-1) σ_5)
      else (
        wX2_sortOf z_3 x2 σ_5 fun r_8 σ_7 => (
        wX2_faultOf z_3 x2 σ_7 fun r_10 σ_9 => (
        Q ((10 * r_8) + r_10) σ_9))))))))
def wX7_isWrongAt_39   (σ : Sg) (Q : Int32 → Sg → Prop) : Prop :=
  Q 1 σ
def wX7_isWrongAt  (x1 : Int32) (x2 : Int32) (σ : Sg) (Q : Int32 → Sg → Prop) : Prop :=
  wX0_run 27 x1 x2 σ fun r_2 σ_1 => (
  wX0_run 34 x1 x2 σ_1 fun r_4 σ_3 => (
  if r_4 = 0 then (
    wX7_isWrongAt_39    σ_3 Q)
  else (
    if (σ_3.1 34 10) = (σ_3.1 27 10) then (
      Q 0 σ_3)
    else (
      wX7_isWrongAt_39    σ_3 Q))))
def wX8_becomes (d : Nat) (x1 : Int32) (x2 : Int32) (x3 : Int32) (σ : Sg) (Q : Int32 → Sg → Prop) : Prop :=
  if x2 = 0 then (
    wX8_folded x1 x3 σ fun r_2 σ_1 => (
    Q r_2 σ_1))
  else if x2 = 1 then (
    wX8_zeroed x1 x3 σ fun r_4 σ_3 => (
    Q r_4 σ_3))
  else if x2 = 2 then (
    wX8_samed d x1 x3 σ fun r_6 σ_5 => (
    Q r_6 σ_5))
  else if x2 = 3 then (
    wX8_picked x1 x3 σ fun r_8 σ_7 => (
    Q r_8 σ_7))
  else if x2 = 4 then (
    wX8_melted d x1 x3 σ fun r_10 σ_9 => (
    Q r_10 σ_9))
  else if x2 = 5 then (
    wX8_twiced x1 x3 σ fun r_12 σ_11 => (
    Q r_12 σ_11))
  else (
  wX8_sunk x1 x3 σ fun r_14 σ_13 => (
  Q r_14 σ_13))
def wX8_turned_140 (F : Int32 → Int32 → Int32 → Sg → (Int32 → Sg → Prop) → Prop) (d : Nat) (x2 : Int32) (x3 : Int32) (s0 : Int32) (σ : Sg) (Q : Int32 → Sg → Prop) : Prop :=
  wX8_becomes d s0 x2 x3 σ fun r_2 σ_1 => (
  if r_2 = s0 then (
    Q r_2 σ_1)
  else (
    lt (sI σ_1 0 (upd (σ_1.1 0) 10 ((σ_1.1 0 10) + 1))) fun σ_3 => (
    (vp_in r_2 9000) ∧ (
    (vp_in s0 9000) ∧ (
    lt (sI σ_3 0 (upd (σ_3.1 0) 11 ((σ_3.1 0 11) + ((σ_3.1 6 (Int32.toNatClampNeg r_2)) - (σ_3.1 6 (Int32.toNatClampNeg s0)))))) fun σ_7 => (
    Q r_2 σ_7))))))
def wX8_turned_118 (F : Int32 → Int32 → Int32 → Sg → (Int32 → Sg → Prop) → Prop) (d : Nat) (x1 : Int32) (x2 : Int32) (x3 : Int32) (x4 : Int32) (x5 : Int32) (x6 : Int32) (σ : Sg) (Q : Int32 → Sg → Prop) : Prop :=
  (vp_in x1 9000) ∧ (
  wX8_make (σ.1 1 (Int32.toNatClampNeg x1)) (σ.1 2 (Int32.toNatClampNeg x1)) x4 x5 x6 σ fun r_11 σ_10 => (
  wX8_turned_140 F d  x2 x3 r_11 σ_10 Q))
def wX8_turned_79 (F : Int32 → Int32 → Int32 → Sg → (Int32 → Sg → Prop) → Prop) (d : Nat) (x1 : Int32) (x2 : Int32) (x3 : Int32) (x4 : Int32) (x5 : Int32) (s0 : Int32) (σ : Sg) (Q : Int32 → Sg → Prop) : Prop :=
  (vp_in x1 9000) ∧ (
  if x4 = (σ.1 3 (Int32.toNatClampNeg x1)) then (
    if x5 = (σ.1 4 (Int32.toNatClampNeg x1)) then (
      if s0 = (σ.1 5 (Int32.toNatClampNeg x1)) then (
        wX8_turned_140 F d  x2 x3 x1 σ Q)
      else (
        wX8_turned_118 F d  x1 x2 x3 x4 x5 s0 σ Q))
    else (
      wX8_turned_118 F d  x1 x2 x3 x4 x5 s0 σ Q))
  else (
    wX8_turned_118 F d  x1 x2 x3 x4 x5 s0 σ Q))
def wX8_turned_52 (F : Int32 → Int32 → Int32 → Sg → (Int32 → Sg → Prop) → Prop) (d : Nat) (x1 : Int32) (x2 : Int32) (x3 : Int32) (x4 : Int32) (s0 : Int32) (σ : Sg) (Q : Int32 → Sg → Prop) : Prop :=
  (vp_in x1 9000) ∧ (
  if 0 ≤ (σ.1 5 (Int32.toNatClampNeg x1)) then (
    F (σ.1 5 (Int32.toNatClampNeg x1)) x2 x3 σ fun r_15 σ_14 => (
    wX8_turned_79 F d  x1 x2 x3 x4 s0 r_15 σ_14 Q))
  else (
    wX8_turned_79 F d  x1 x2 x3 x4 s0 (-1) σ Q))
def wX8_turned_25 (F : Int32 → Int32 → Int32 → Sg → (Int32 → Sg → Prop) → Prop) (d : Nat) (x1 : Int32) (x2 : Int32) (x3 : Int32) (s0 : Int32) (σ : Sg) (Q : Int32 → Sg → Prop) : Prop :=
  (vp_in x1 9000) ∧ (
  if 0 ≤ (σ.1 4 (Int32.toNatClampNeg x1)) then (
    F (σ.1 4 (Int32.toNatClampNeg x1)) x2 x3 σ fun r_18 σ_17 => (
    wX8_turned_52 F d  x1 x2 x3 s0 r_18 σ_17 Q))
  else (
    wX8_turned_52 F d  x1 x2 x3 s0 (-1) σ Q))
def wX8_turned_b (F : Int32 → Int32 → Int32 → Sg → (Int32 → Sg → Prop) → Prop) (d : Nat) (x1 : Int32) (x2 : Int32) (x3 : Int32) (σ : Sg) (Q : Int32 → Sg → Prop) : Prop :=
  (vp_in x1 9000) ∧ (
  if 0 ≤ (σ.1 3 (Int32.toNatClampNeg x1)) then (
    F (σ.1 3 (Int32.toNatClampNeg x1)) x2 x3 σ fun r_21 σ_20 => (
    wX8_turned_25 F d  x1 x2 x3 r_21 σ_20 Q))
  else (
    wX8_turned_25 F d  x1 x2 x3 (-1) σ Q))
def wX8_turned (d : Nat) : Nat → Int32 → Int32 → Int32 → Sg → (Int32 → Sg → Prop) → Prop
  | 0 => fun _ _ _ _ _ => False
  | n + 1 => fun x1 x2 x3 σ Q => wX8_turned_b (wX8_turned d n) d x1 x2 x3 σ Q
def wX8_goOver (d : Nat) (x1 : Int32) (x2 : Int32) (x3 : Int32) (σ : Sg) (Q : Int32 → Sg → Prop) : Prop :=
  lt (sI σ 0 (upd (σ.1 0) 10 0)) fun σ_1 => (
  (vp_in x1 9000) ∧ (
  lt (sI σ_1 0 (upd (σ_1.1 0) 11 (σ_1.1 6 (Int32.toNatClampNeg x1)))) fun σ_4 => (
  (vp_in ((10 * x2) + x3) 80) ∧ (
  wX8_turned d d x1 (σ_4.1 19 (Int32.toNatClampNeg ((10 * x2) + x3))) (σ_4.1 20 (Int32.toNatClampNeg ((10 * x2) + x3))) σ_4 fun r_8 σ_7 => (
  Q r_8 σ_7)))))
def wX8_madeBy_6_b (d : Nat) (K6 : Int32 → Int32 → Int32 → Int32 → Sg → Prop) (x2 : Int32) (x3 : Int32) (x4 : Int32) (x5 : Int32) (σ : Sg) (Q : Int32 → Sg → Prop) : Prop :=
    if x3 ≤ x5 then (
      Q x4 σ)
    else (
      wX8_goOver d x4 x2 x5 σ fun r_2 σ_1 => (
      lt (x5 + 1) fun x5_3 => (
      K6 x2 x3 r_2 x5_3 σ_1)))
def wX8_madeBy_6 (d : Nat) (Q : Int32 → Sg → Prop) : Nat → Int32 → Int32 → Int32 → Int32 → Sg → Prop
  | 0 => fun _ _ _ _ _ => False
  | n + 1 => fun x2 x3 x4 x5 σ => wX8_madeBy_6_b d (wX8_madeBy_6 d Q n) x2 x3 x4 x5 σ Q
def wX8_madeBy (d : Nat) (x1 : Int32) (x2 : Int32) (x3 : Int32) (σ : Sg) (Q : Int32 → Sg → Prop) : Prop :=
  ∃ nn, wX8_madeBy_6 d  Q nn x2 x3 x1 0 σ
def wX8_count0_84_b (K23 : Int32 → Sg → Prop) (K84 : Int32 → Int64 → Int32 → Sg → Prop) (x1 : Int32) (x2 : Int64) (x4 : Int32) (σ : Sg) (Q : Sg → Prop) : Prop :=
    if (x1 - 2) ≤ x4 then (
      (vp_in x1 16) ∧ (
      lt (sJ σ 12 (vp_updL (σ.2.1 12) (Int32.toNatClampNeg x1) x2)) fun σ_2 => (
      lt (x1 + 1) fun x1_4 => (
      K23 x1_4 σ_2))))
    else (
      (vp_in x4 16) ∧ (
      wX8_pairs ((x1 - 1) - x4) σ fun r_8 σ_7 => (
      lt (x2 + ((σ.2.1 12 (Int32.toNatClampNeg x4)) * r_8)) fun x2_9 => (
      lt (x4 + 1) fun x4_11 => (
      K84 x1 x2_9 x4_11 σ_7)))))
def wX8_count0_84 (K23 : Int32 → Sg → Prop) (Q : Sg → Prop) : Nat → Int32 → Int64 → Int32 → Sg → Prop
  | 0 => fun _ _ _ _ => False
  | n + 1 => fun x1 x2 x4 σ => wX8_count0_84_b K23 (wX8_count0_84 K23 Q n) x1 x2 x4 σ Q
def wX8_count0_41_b (K23 : Int32 → Sg → Prop) (K41 : Int32 → Int64 → Int32 → Sg → Prop) (x1 : Int32) (x2 : Int64) (x4 : Int32) (σ : Sg) (Q : Sg → Prop) : Prop :=
    if (x1 - 1) ≤ x4 then (
      ∃ nn, wX8_count0_84  K23 Q nn x1 x2 1 σ)
    else (
      (vp_in x4 16) ∧ (
      (vp_in ((x1 - 1) - x4) 16) ∧ (
      lt (x2 + ((4 * (σ.2.1 12 (Int32.toNatClampNeg x4))) * (σ.2.1 12 (Int32.toNatClampNeg ((x1 - 1) - x4))))) fun x2_15 => (
      lt (x4 + 1) fun x4_17 => (
      K41 x1 x2_15 x4_17 σ)))))
def wX8_count0_41 (K23 : Int32 → Sg → Prop) (Q : Sg → Prop) : Nat → Int32 → Int64 → Int32 → Sg → Prop
  | 0 => fun _ _ _ _ => False
  | n + 1 => fun x1 x2 x4 σ => wX8_count0_41_b K23 (wX8_count0_41 K23 Q n) x1 x2 x4 σ Q
def wX8_count0_23_b  (K23 : Int32 → Sg → Prop) (x1 : Int32) (σ : Sg) (Q : Sg → Prop) : Prop :=
    if 15 < x1 then (
      Q σ)
    else (
      (vp_in (x1 - 1) 16) ∧ (
      lt (σ.2.1 12 (Int32.toNatClampNeg (x1 - 1))) fun x2_20 => (
      ∃ nn, wX8_count0_41  K23 Q nn x1 x2_20 1 σ)))
def wX8_count0_23  (Q : Sg → Prop) : Nat → Int32 → Sg → Prop
  | 0 => fun _ _ => False
  | n + 1 => fun x1 σ => wX8_count0_23_b  (wX8_count0_23  Q n) x1 σ Q
def wX8_count0   (σ : Sg) (Q : Sg → Prop) : Prop :=
  (vp_in 1 16) ∧ (
  if (σ.2.1 12 (Int32.toNatClampNeg 1)) ≤ 0 then (
    lt (sJ σ 12 (vp_updL (σ.2.1 12) (Int32.toNatClampNeg 1) 5)) fun σ_23 => (
    ∃ nn, wX8_count0_23   Q nn 2 σ_23))
  else (
    Q σ))
def wX8_many  (x1 : Int32) (σ : Sg) (Q : Int64 → Sg → Prop) : Prop :=
  wX8_in (Int32.toInt64 x1) 1 15 σ fun r_2 σ_1 => (
  if r_2 = 0 then (
    Q (-1) σ_1)
  else (
    wX8_count0  σ_1 fun  σ_3 => (
    (vp_in x1 16) ∧ (
    Q (σ_3.2.1 12 (Int32.toNatClampNeg x1)) σ_3))))
def wX8_nth (d : Nat) (x1 : Int32) (x2 : Int32) (x3 : Int64) (σ : Sg) (Q : Int32 → Sg → Prop) : Prop :=
  wX8_isPlace x1 σ fun r_2 σ_1 => (
  if r_2 = 0 then (
    Q (-1) σ_1)
  else (
    wX8_in (Int32.toInt64 x2) 1 15 σ_1 fun r_4 σ_3 => (
    if r_4 = 0 then (
      Q (-1) σ_3)
    else (
      wX8_count0  σ_3 fun  σ_5 => (
      (vp_in x2 16) ∧ (
      wX8_in x3 0 ((σ_5.2.1 12 (Int32.toNatClampNeg x2)) - 1) σ_5 fun r_8 σ_7 => (
      if r_8 = 0 then (
        Q (-1) σ_7)
      else (
        lt (sI σ_7 0 (upd (σ_7.1 0) 17 0)) fun σ_9 => (
        wX8_nth0 d x2 x3 σ_9 fun  σ_11 => (
        wX8_put x1 σ_11 fun r_13 σ_12 => (
        Q r_13 σ_12)))))))))))
def wX8_number_70 (d : Nat) (K32 : Int32 → Sg → Prop) (x2 : Int32) (σ : Sg) (Q : Int64 → Sg → Prop) : Prop :=
  lt (x2 + 1) fun x2_1 => (
  K32 x2_1 σ)
def wX8_number_32_b (d : Nat) (K32 : Int32 → Sg → Prop) (x2 : Int32) (σ : Sg) (Q : Int64 → Sg → Prop) : Prop :=
    if (σ.1 0 17) ≤ x2 then (
      wX8_count0  σ fun  σ_3 => (
      wX8_tree d  σ_3 fun r_5 σ_4 => (
      wX8_rank d r_5 σ_4 fun r_7 σ_6 => (
      Q r_7 σ_6))))
    else (
      (vp_in x2 400) ∧ (
      if (σ.1 10 (Int32.toNatClampNeg x2)) = 0 then (
        wX8_in (Int32.toInt64 (σ.1 11 (Int32.toNatClampNeg x2))) 0 2 σ fun r_10 σ_9 => (
        if r_10 = 0 then (
          Q (-2) σ_9)
        else (
          wX8_number_70 d K32 x2 σ_9 Q)))
      else (
        wX8_number_70 d K32 x2 σ Q)))
def wX8_number_32 (d : Nat) (Q : Int64 → Sg → Prop) : Nat → Int32 → Sg → Prop
  | 0 => fun _ _ => False
  | n + 1 => fun x2 σ => wX8_number_32_b d (wX8_number_32 d Q n) x2 σ Q
def wX8_number (d : Nat) (x1 : Int32) (σ : Sg) (Q : Int64 → Sg → Prop) : Prop :=
  wX8_has x1 σ fun r_12 σ_11 => (
  if r_12 = 0 then (
    Q (-1) σ_11)
  else (
    wX8_take x1 σ_11 fun  σ_13 => (
    if (σ_13.1 0 17) ≤ 15 then (
      ∃ nn, wX8_number_32 d  Q nn 0 σ_13)
    else (
      Q (-2) σ_13))))
def wX8_splice_82_b  (K82 : Int32 → Int32 → Int32 → Int32 → Sg → Prop) (x1 : Int32) (x3 : Int32) (x4 : Int32) (x5 : Int32) (σ : Sg) (Q : Sg → Prop) : Prop :=
    if x3 ≤ x5 then (
      lt (sI σ 0 (upd (σ.1 0) 17 ((x1 + x3) + x4))) fun σ_1 => (
      Q σ_1))
    else (
      (vp_in x5 60) ∧ (
      (vp_in (x1 + x5) 400) ∧ (
      lt (sI σ 10 (upd (σ.1 10) (Int32.toNatClampNeg (x1 + x5)) (σ.1 16 (Int32.toNatClampNeg x5)))) fun σ_5 => (
      lt (sI σ_5 11 (upd (σ_5.1 11) (Int32.toNatClampNeg (x1 + x5)) (σ_5.1 17 (Int32.toNatClampNeg x5)))) fun σ_7 => (
      lt (x5 + 1) fun x5_9 => (
      K82 x1 x3 x4 x5_9 σ_7))))))
def wX8_splice_82  (Q : Sg → Prop) : Nat → Int32 → Int32 → Int32 → Int32 → Sg → Prop
  | 0 => fun _ _ _ _ _ => False
  | n + 1 => fun x1 x3 x4 x5 σ => wX8_splice_82_b  (wX8_splice_82  Q n) x1 x3 x4 x5 σ Q
def wX8_splice_79  (x1 : Int32) (x3 : Int32) (x4 : Int32) (σ : Sg) (Q : Sg → Prop) : Prop :=
  ∃ nn, wX8_splice_82   Q nn x1 x3 x4 0 σ
def wX8_splice_52_b  (K52 : Int32 → Int32 → Int32 → Int32 → Int32 → Sg → Prop) (x1 : Int32) (x2 : Int32) (x3 : Int32) (x4 : Int32) (x5 : Int32) (σ : Sg) (Q : Sg → Prop) : Prop :=
    if x4 ≤ x5 then (
      wX8_splice_79   x1 x3 x4 σ Q)
    else (
      wX8_shift (x2 + x5) ((x1 + x3) + x5) σ fun  σ_11 => (
      lt (x5 + 1) fun x5_12 => (
      K52 x1 x2 x3 x4 x5_12 σ_11)))
def wX8_splice_52  (Q : Sg → Prop) : Nat → Int32 → Int32 → Int32 → Int32 → Int32 → Sg → Prop
  | 0 => fun _ _ _ _ _ _ => False
  | n + 1 => fun x1 x2 x3 x4 x5 σ => wX8_splice_52_b  (wX8_splice_52  Q n) x1 x2 x3 x4 x5 σ Q
def wX8_splice_21_b  (K21 : Int32 → Int32 → Int32 → Int32 → Int32 → Sg → Prop) (x1 : Int32) (x2 : Int32) (x3 : Int32) (x4 : Int32) (x5 : Int32) (σ : Sg) (Q : Sg → Prop) : Prop :=
    if x5 < 0 then (
      wX8_splice_79   x1 x3 x4 σ Q)
    else (
      wX8_shift (x2 + x5) ((x1 + x3) + x5) σ fun  σ_14 => (
      lt (x5 + (-1)) fun x5_15 => (
      K21 x1 x2 x3 x4 x5_15 σ_14)))
def wX8_splice_21  (Q : Sg → Prop) : Nat → Int32 → Int32 → Int32 → Int32 → Int32 → Sg → Prop
  | 0 => fun _ _ _ _ _ _ => False
  | n + 1 => fun x1 x2 x3 x4 x5 σ => wX8_splice_21_b  (wX8_splice_21  Q n) x1 x2 x3 x4 x5 σ Q
def wX8_splice  (x1 : Int32) (x2 : Int32) (x3 : Int32) (σ : Sg) (Q : Sg → Prop) : Prop :=
  lt ((σ.1 0 17) - x2) fun x4_17 => (
  if x3 ≤ (x2 - x1) then (
    ∃ nn, wX8_splice_52   Q nn x1 x2 x3 x4_17 0 σ)
  else (
    lt (x4_17 - 1) fun x5_19 => (
    ∃ nn, wX8_splice_21   Q nn x1 x2 x3 x4_17 x5_19 σ)))
def wX8_breed  (x1 : Int32) (x2 : Int32) (x3 : Int32) (x4 : Int32) (x5 : Int32) (σ : Sg) (Q : Int32 → Sg → Prop) : Prop :=
  wX8_isPlace x1 σ fun r_2 σ_1 => (
  if r_2 = 0 then (
    Q (-1) σ_1)
  else (
    wX8_has x2 σ_1 fun r_4 σ_3 => (
    if r_4 = 0 then (
      Q (-1) σ_3)
    else (
      wX8_has x4 σ_3 fun r_6 σ_5 => (
      if r_6 = 0 then (
        Q (-1) σ_5)
      else (
        (vp_in x2 20) ∧ (
        wX8_in (Int32.toInt64 x3) 0 (Int32.toInt64 ((σ_5.1 7 (Int32.toNatClampNeg x2)) - 1)) σ_5 fun r_9 σ_8 => (
        if r_9 = 0 then (
          Q (-1) σ_8)
        else (
          (vp_in x4 20) ∧ (
          wX8_in (Int32.toInt64 x5) 0 (Int32.toInt64 ((σ_8.1 7 (Int32.toNatClampNeg x4)) - 1)) σ_8 fun r_12 σ_11 => (
          if r_12 = 0 then (
            Q (-1) σ_11)
          else (
            wX8_take x4 σ_11 fun  σ_13 => (
            wX8_endOf x5 σ_13 fun r_15 σ_14 => (
            wX8_spare x5 r_15 σ_14 fun  σ_16 => (
            wX8_take x2 σ_16 fun  σ_17 => (
            wX8_endOf x3 σ_17 fun r_19 σ_18 => (
            if ((((σ_17.1 0 17) - (r_19 - x3)) + r_15) - x5) ≤ 60 then (
              wX8_endOf x3 σ_18 fun r_21 σ_20 => (
              wX8_splice x3 r_21 (r_15 - x5) σ_20 fun  σ_22 => (
              wX8_put x1 σ_22 fun r_24 σ_23 => (
              Q r_24 σ_23))))
            else (
              Q (-3) σ_18))))))))))))))))))
def wX8_made_69_b (d : Nat) (K69 : Int32 → Sg → Prop) (x5 : Int32) (σ : Sg) (Q : Int32 → Sg → Prop) : Prop :=
    if (σ.1 0 31) ≤ x5 then (
      Q (σ.1 0 31) σ)
    else (
      (vp_in x5 400) ∧ (
      lt (sI σ 21 (upd (σ.1 21) (Int32.toNatClampNeg x5) (σ.1 10 (Int32.toNatClampNeg x5)))) fun σ_2 => (
      lt (sI σ_2 22 (upd (σ_2.1 22) (Int32.toNatClampNeg x5) (σ_2.1 11 (Int32.toNatClampNeg x5)))) fun σ_4 => (
      wX8_endOf x5 σ_4 fun r_7 σ_6 => (
      lt (sI σ_6 23 (upd (σ_6.1 23) (Int32.toNatClampNeg x5) (r_7 - x5))) fun σ_8 => (
      lt (x5 + 1) fun x5_10 => (
      K69 x5_10 σ_8)))))))
def wX8_made_69 (d : Nat) (Q : Int32 → Sg → Prop) : Nat → Int32 → Sg → Prop
  | 0 => fun _ _ => False
  | n + 1 => fun x5 σ => wX8_made_69_b d (wX8_made_69 d Q n) x5 σ Q
def wX8_made (d : Nat) (x1 : Int32) (x2 : Int32) (x3 : Int32) (σ : Sg) (Q : Int32 → Sg → Prop) : Prop :=
  wX8_isMaker x1 σ fun r_13 σ_12 => (
  if r_13 = 0 then (
    Q (-1) σ_12)
  else (
    wX8_has x2 σ_12 fun r_15 σ_14 => (
    if r_15 = 0 then (
      Q (-1) σ_14)
    else (
      (vp_in x1 8) ∧ (
      wX8_in (Int32.toInt64 x3) 0 (Int32.toInt64 (σ_14.1 18 (Int32.toNatClampNeg x1))) σ_14 fun r_18 σ_17 => (
      if r_18 = 0 then (
        Q (-1) σ_17)
      else (
        wX8_treeOf d x2 σ_17 fun r_20 σ_19 => (
        wX8_madeBy d r_20 x1 x3 σ_19 fun r_22 σ_21 => (
        lt (sI σ_21 0 (upd (σ_21.1 0) 17 0)) fun σ_23 => (
        wX8_flatten d r_22 σ_23 fun  σ_25 => (
        lt (sI σ_25 0 (upd (σ_25.1 0) 31 (σ_25.1 0 17))) fun σ_26 => (
        ∃ nn, wX8_made_69 d  Q nn 0 σ_26))))))))))))
def wX8_answer (d : Nat) (x1 : Int32) (x2 : Int32) (x3 : Int32) (x4 : Int32) (σ : Sg) (Q : Int32 → Sg → Prop) : Prop :=
  wX8_isMaker x1 σ fun r_2 σ_1 => (
  if r_2 = 0 then (
    Q (-2000000000) σ_1)
  else (
    wX8_has x2 σ_1 fun r_4 σ_3 => (
    if r_4 = 0 then (
      Q (-2000000000) σ_3)
    else (
      wX8_treeOf d x2 σ_3 fun r_6 σ_5 => (
      (vp_in x1 8) ∧ (
      wX8_madeBy d r_6 x1 (σ_5.1 18 (Int32.toNatClampNeg x1)) σ_5 fun r_9 σ_8 => (
      wX8_valueOf d r_9 x3 x4 σ_8 fun r_11 σ_10 => (
      if (σ_10.1 0 8) = 0 then (
        Q r_11 σ_10)
      else (
        Q (-2000000000) σ_10)))))))))
def wX8_cost (d : Nat) (x1 : Int32) (x2 : Int32) (x3 : Int32) (x4 : Int32) (σ : Sg) (Q : Int32 → Sg → Prop) : Prop :=
  wX8_isMaker x1 σ fun r_2 σ_1 => (
  if r_2 = 0 then (
    Q (-1) σ_1)
  else (
    wX8_has x2 σ_1 fun r_4 σ_3 => (
    if r_4 = 0 then (
      Q (-1) σ_3)
    else (
      wX8_treeOf d x2 σ_3 fun r_6 σ_5 => (
      (vp_in x1 8) ∧ (
      wX8_madeBy d r_6 x1 (σ_5.1 18 (Int32.toNatClampNeg x1)) σ_5 fun r_9 σ_8 => (
      wX8_valueOf d r_9 x3 x4 σ_8 fun r_11 σ_10 => (
      Q (σ_10.1 0 9) σ_10))))))))
def wX8_firesOf (d : Nat) (x1 : Int32) (x2 : Int32) (x3 : Int32) (σ : Sg) (Q : Int32 → Sg → Prop) : Prop :=
  wX8_madeBy d x1 x2 x3 σ fun r_2 σ_1 => (
  wX8_goOver d r_2 x2 x3 σ_1 fun r_4 σ_3 => (
  Q (σ_3.1 0 10) σ_3))
def wX8_fires (d : Nat) (x1 : Int32) (x2 : Int32) (x3 : Int32) (σ : Sg) (Q : Int32 → Sg → Prop) : Prop :=
  wX8_isTurn x1 x3 σ fun r_2 σ_1 => (
  if r_2 = 0 then (
    Q (-1) σ_1)
  else (
    wX8_has x2 σ_1 fun r_4 σ_3 => (
    if r_4 = 0 then (
      Q (-1) σ_3)
    else (
      wX8_treeOf d x2 σ_3 fun r_6 σ_5 => (
      wX8_firesOf d r_6 x1 x3 σ_5 fun r_8 σ_7 => (
      Q r_8 σ_7))))))
def wX8_never_92 (d : Nat) (K14 : Int32 → Int32 → Int32 → Sg → Prop) (x1 : Int32) (x3 : Int32) (s0 : Int32) (s1 : Int32) (σ : Sg) (Q : Int32 → Sg → Prop) : Prop :=
  lt (s0 ||| s1) fun x2_1 => (
  lt (x3 + 1) fun x3_3 => (
  K14 x1 x2_1 x3_3 σ))
def wX8_never_79 (d : Nat) (K14 : Int32 → Int32 → Int32 → Sg → Prop) (x1 : Int32) (x2 : Int32) (x3 : Int32) (x4 : Int32) (σ : Sg) (Q : Int32 → Sg → Prop) : Prop :=
  if x4 = 0 then (
    wX8_never_92 d K14 x1 x3 x2 ((1 : Int32) <<< (x3 &&& 31)) σ Q)
  else (
    wX8_never_92 d K14 x1 x3 x2 0 σ Q)
def wX8_never_71 (d : Nat) (K14 : Int32 → Int32 → Int32 → Sg → Prop) (K30 : Int32 → Int32 → Int32 → Int32 → Int32 → Sg → Prop) (x1 : Int32) (x2 : Int32) (x3 : Int32) (x5 : Int32) (s0 : Int32) (σ : Sg) (Q : Int32 → Sg → Prop) : Prop :=
  lt (x5 + 1) fun x5_5 => (
  K30 x1 x2 x3 s0 x5_5 σ)
def wX8_never_70 (d : Nat) (K14 : Int32 → Int32 → Int32 → Sg → Prop) (K30 : Int32 → Int32 → Int32 → Int32 → Int32 → Sg → Prop) (x1 : Int32) (x2 : Int32) (x3 : Int32) (x5 : Int32) (σ : Sg) (Q : Int32 → Sg → Prop) : Prop :=
  wX8_never_71 d K14 K30 x1 x2 x3 x5 0 σ Q
def wX8_never_30_b (d : Nat) (K14 : Int32 → Int32 → Int32 → Sg → Prop) (K30 : Int32 → Int32 → Int32 → Int32 → Int32 → Sg → Prop) (x1 : Int32) (x2 : Int32) (x3 : Int32) (x4 : Int32) (x5 : Int32) (σ : Sg) (Q : Int32 → Sg → Prop) : Prop :=
    if 20 ≤ x5 then (
      wX8_never_79 d K14 x1 x2 x3 x4 σ Q)
    else (
      if x4 = 0 then (
        wX8_has x5 σ fun r_8 σ_7 => (
        if r_8 = 0 then (
          wX8_never_70 d K14 K30 x1 x2 x3 x5 σ_7 Q)
        else (
          wX8_treeOf d x5 σ_7 fun r_10 σ_9 => (
          wX8_firesOf d r_10 x1 x3 σ_9 fun r_12 σ_11 => (
          if r_12 ≤ 0 then (
            wX8_never_70 d K14 K30 x1 x2 x3 x5 σ_11 Q)
          else (
            wX8_never_71 d K14 K30 x1 x2 x3 x5 1 σ_11 Q))))))
      else (
        wX8_never_79 d K14 x1 x2 x3 x4 σ Q))
def wX8_never_30 (d : Nat) (K14 : Int32 → Int32 → Int32 → Sg → Prop) (Q : Int32 → Sg → Prop) : Nat → Int32 → Int32 → Int32 → Int32 → Int32 → Sg → Prop
  | 0 => fun _ _ _ _ _ _ => False
  | n + 1 => fun x1 x2 x3 x4 x5 σ => wX8_never_30_b d K14 (wX8_never_30 d K14 Q n) x1 x2 x3 x4 x5 σ Q
def wX8_never_14_b (d : Nat) (K14 : Int32 → Int32 → Int32 → Sg → Prop) (x1 : Int32) (x2 : Int32) (x3 : Int32) (σ : Sg) (Q : Int32 → Sg → Prop) : Prop :=
    (vp_in x1 8) ∧ (
    if (σ.1 18 (Int32.toNatClampNeg x1)) ≤ x3 then (
      Q x2 σ)
    else (
      ∃ nn, wX8_never_30 d K14 Q nn x1 x2 x3 0 0 σ))
def wX8_never_14 (d : Nat) (Q : Int32 → Sg → Prop) : Nat → Int32 → Int32 → Int32 → Sg → Prop
  | 0 => fun _ _ _ _ => False
  | n + 1 => fun x1 x2 x3 σ => wX8_never_14_b d (wX8_never_14 d Q n) x1 x2 x3 σ Q
def wX8_never (d : Nat) (x1 : Int32) (σ : Sg) (Q : Int32 → Sg → Prop) : Prop :=
  wX8_isMaker x1 σ fun r_15 σ_14 => (
  if r_15 = 0 then (
    Q (-1) σ_14)
  else (
    ∃ nn, wX8_never_14 d  Q nn x1 0 0 σ_14))
def wX8_firstOf_28_b (d : Nat) (K18 : Int32 → Int32 → Int32 → Int32 → Sg → Prop) (K28 : Int32 → Int32 → Int32 → Int32 → Int32 → Sg → Prop) (x1 : Int32) (x3 : Int32) (x4 : Int32) (x5 : Int32) (x6 : Int32) (σ : Sg) (Q : Int32 → Sg → Prop) : Prop :=
    if x3 < x6 then (
      lt (x5 + 1) fun x5_1 => (
      K18 x1 x3 x4 x5_1 σ))
    else (
      wX8_isOther d x1 x4 x5 x6 σ fun r_4 σ_3 => (
      if r_4 = 0 then (
        lt (x6 + 1) fun x6_5 => (
        K28 x1 x3 x4 x5 x6_5 σ_3))
      else (
        Q (((100 * (x5 + 6)) + x6) + 6) σ_3)))
def wX8_firstOf_28 (d : Nat) (K18 : Int32 → Int32 → Int32 → Int32 → Sg → Prop) (Q : Int32 → Sg → Prop) : Nat → Int32 → Int32 → Int32 → Int32 → Int32 → Sg → Prop
  | 0 => fun _ _ _ _ _ _ => False
  | n + 1 => fun x1 x3 x4 x5 x6 σ => wX8_firstOf_28_b d K18 (wX8_firstOf_28 d K18 Q n) x1 x3 x4 x5 x6 σ Q
def wX8_firstOf_18_b (d : Nat) (K18 : Int32 → Int32 → Int32 → Int32 → Sg → Prop) (x1 : Int32) (x3 : Int32) (x4 : Int32) (x5 : Int32) (σ : Sg) (Q : Int32 → Sg → Prop) : Prop :=
    if x3 < x5 then (
      Q (-5) σ)
    else (
      lt (-x3) fun x6_7 => (
      ∃ nn, wX8_firstOf_28 d K18 Q nn x1 x3 x4 x5 x6_7 σ))
def wX8_firstOf_18 (d : Nat) (Q : Int32 → Sg → Prop) : Nat → Int32 → Int32 → Int32 → Int32 → Sg → Prop
  | 0 => fun _ _ _ _ _ => False
  | n + 1 => fun x1 x3 x4 x5 σ => wX8_firstOf_18_b d (wX8_firstOf_18 d Q n) x1 x3 x4 x5 σ Q
def wX8_firstOf (d : Nat) (x1 : Int32) (x2 : Int32) (x3 : Int32) (σ : Sg) (Q : Int32 → Sg → Prop) : Prop :=
  (vp_in x2 8) ∧ (
  wX8_madeBy d x1 x2 (σ.1 18 (Int32.toNatClampNeg x2)) σ fun r_11 σ_10 => (
  lt (-x3) fun x5_12 => (
  ∃ nn, wX8_firstOf_18 d  Q nn x1 x3 r_11 x5_12 σ_10)))
def wX8_differ_110 (d : Nat) (K72 : Int32 → Int32 → Int32 → Int32 → Int32 → Sg → Prop) (K82 : Int32 → Int32 → Int32 → Int32 → Int32 → Int32 → Sg → Prop) (x3 : Int32) (x4 : Int32) (x5 : Int32) (x7 : Int32) (x8 : Int32) (s0 : Int32) (s1 : Int32) (σ : Sg) (Q : Int32 → Sg → Prop) : Prop :=
  lt (s0 + s1) fun x6_1 => (
  lt (x8 + 1) fun x8_3 => (
  K82 x3 x4 x5 x6_1 x7 x8_3 σ))
def wX8_differ_82_b (d : Nat) (K72 : Int32 → Int32 → Int32 → Int32 → Int32 → Sg → Prop) (K82 : Int32 → Int32 → Int32 → Int32 → Int32 → Int32 → Sg → Prop) (x3 : Int32) (x4 : Int32) (x5 : Int32) (x6 : Int32) (x7 : Int32) (x8 : Int32) (σ : Sg) (Q : Int32 → Sg → Prop) : Prop :=
    if x3 < x8 then (
      lt (x7 + 1) fun x7_5 => (
      K72 x3 x4 x5 x6 x7_5 σ))
    else (
      wX8_isOther d x4 x5 x7 x8 σ fun r_8 σ_7 => (
      if r_8 = 0 then (
        wX8_differ_110 d K72 K82 x3 x4 x5 x7 x8 x6 0 σ_7 Q)
      else (
        wX8_differ_110 d K72 K82 x3 x4 x5 x7 x8 x6 1 σ_7 Q)))
def wX8_differ_82 (d : Nat) (K72 : Int32 → Int32 → Int32 → Int32 → Int32 → Sg → Prop) (Q : Int32 → Sg → Prop) : Nat → Int32 → Int32 → Int32 → Int32 → Int32 → Int32 → Sg → Prop
  | 0 => fun _ _ _ _ _ _ _ => False
  | n + 1 => fun x3 x4 x5 x6 x7 x8 σ => wX8_differ_82_b d K72 (wX8_differ_82 d K72 Q n) x3 x4 x5 x6 x7 x8 σ Q
def wX8_differ_72_b (d : Nat) (K72 : Int32 → Int32 → Int32 → Int32 → Int32 → Sg → Prop) (x3 : Int32) (x4 : Int32) (x5 : Int32) (x6 : Int32) (x7 : Int32) (σ : Sg) (Q : Int32 → Sg → Prop) : Prop :=
    if x3 < x7 then (
      Q x6 σ)
    else (
      lt (-x3) fun x8_9 => (
      ∃ nn, wX8_differ_82 d K72 Q nn x3 x4 x5 x6 x7 x8_9 σ))
def wX8_differ_72 (d : Nat) (Q : Int32 → Sg → Prop) : Nat → Int32 → Int32 → Int32 → Int32 → Int32 → Sg → Prop
  | 0 => fun _ _ _ _ _ _ => False
  | n + 1 => fun x3 x4 x5 x6 x7 σ => wX8_differ_72_b d (wX8_differ_72 d Q n) x3 x4 x5 x6 x7 σ Q
def wX8_differ (d : Nat) (x1 : Int32) (x2 : Int32) (x3 : Int32) (σ : Sg) (Q : Int32 → Sg → Prop) : Prop :=
  wX8_isMaker x1 σ fun r_12 σ_11 => (
  if r_12 = 0 then (
    Q (-1) σ_11)
  else (
    wX8_has x2 σ_11 fun r_14 σ_13 => (
    if r_14 = 0 then (
      Q (-1) σ_13)
    else (
      wX8_in (Int32.toInt64 x3) 0 6 σ_13 fun r_16 σ_15 => (
      if r_16 = 0 then (
        Q (-1) σ_15)
      else (
        wX8_treeOf d x2 σ_15 fun r_18 σ_17 => (
        wX8_isSafe d r_18 x3 σ_17 fun r_20 σ_19 => (
        if r_20 = 0 then (
          Q (-2) σ_19)
        else (
          (vp_in x1 8) ∧ (
          wX8_madeBy d r_18 x1 (σ_19.1 18 (Int32.toNatClampNeg x1)) σ_19 fun r_23 σ_22 => (
          lt (-x3) fun x7_24 => (
          ∃ nn, wX8_differ_72 d  Q nn x3 r_18 r_23 0 x7_24 σ_22))))))))))))
def wX8_first (d : Nat) (x1 : Int32) (x2 : Int32) (x3 : Int32) (σ : Sg) (Q : Int32 → Sg → Prop) : Prop :=
  wX8_isMaker x1 σ fun r_2 σ_1 => (
  if r_2 = 0 then (
    Q (-1) σ_1)
  else (
    wX8_has x2 σ_1 fun r_4 σ_3 => (
    if r_4 = 0 then (
      Q (-1) σ_3)
    else (
      wX8_in (Int32.toInt64 x3) 0 6 σ_3 fun r_6 σ_5 => (
      if r_6 = 0 then (
        Q (-1) σ_5)
      else (
        wX8_treeOf d x2 σ_5 fun r_8 σ_7 => (
        wX8_isSafe d r_8 x3 σ_7 fun r_10 σ_9 => (
        if r_10 = 0 then (
          Q (-2) σ_9)
        else (
          wX8_firstOf d r_8 x1 x3 σ_9 fun r_12 σ_11 => (
          Q r_12 σ_11))))))))))
def wX8_cause_119 (d : Nat) (K52 : Int32 → Int32 → Int32 → Int32 → Int32 → Int32 → Int32 → Sg → Prop) (x1 : Int32) (x3 : Int32) (x4 : Int32) (x5 : Int32) (x6 : Int32) (x8 : Int32) (x10 : Int32) (σ : Sg) (Q : Int32 → Sg → Prop) : Prop :=
  lt (x8 + 1) fun x8_1 => (
  K52 x1 x3 x4 x5 x6 x10 x8_1 σ)
def wX8_cause_104 (d : Nat) (K52 : Int32 → Int32 → Int32 → Int32 → Int32 → Int32 → Int32 → Sg → Prop) (x1 : Int32) (x3 : Int32) (x4 : Int32) (x5 : Int32) (x6 : Int32) (x7 : Int32) (x8 : Int32) (s0 : Int32) (σ : Sg) (Q : Int32 → Sg → Prop) : Prop :=
  if x7 = 0 then (
    wX8_cause_119 d K52 x1 x3 x4 x5 x6 x8 s0 σ Q)
  else (
    if s0 = 0 then (
      Q x8 σ)
    else (
      wX8_cause_119 d K52 x1 x3 x4 x5 x6 x8 s0 σ Q))
def wX8_cause_103 (d : Nat) (K52 : Int32 → Int32 → Int32 → Int32 → Int32 → Int32 → Int32 → Sg → Prop) (x1 : Int32) (x3 : Int32) (x4 : Int32) (x5 : Int32) (x6 : Int32) (x7 : Int32) (x8 : Int32) (σ : Sg) (Q : Int32 → Sg → Prop) : Prop :=
  wX8_cause_104 d K52 x1 x3 x4 x5 x6 x7 x8 0 σ Q
def wX8_cause_52_b (d : Nat) (K52 : Int32 → Int32 → Int32 → Int32 → Int32 → Int32 → Int32 → Sg → Prop) (x1 : Int32) (x3 : Int32) (x4 : Int32) (x5 : Int32) (x6 : Int32) (x7 : Int32) (x8 : Int32) (σ : Sg) (Q : Int32 → Sg → Prop) : Prop :=
    (vp_in x1 8) ∧ (
    if (σ.1 18 (Int32.toNatClampNeg x1)) ≤ x8 then (
      Q (-2) σ)
    else (
      wX8_goOver d x5 x1 x8 σ fun r_5 σ_4 => (
      wX8_valueOf d r_5 x3 x4 σ_4 fun r_7 σ_6 => (
      if (σ_6.1 0 8) = 0 then (
        if r_7 = x6 then (
          wX8_cause_104 d K52 x1 x3 x4 r_5 x6 x7 x8 1 σ_6 Q)
        else (
          wX8_cause_103 d K52 x1 x3 x4 r_5 x6 x7 x8 σ_6 Q))
      else (
        wX8_cause_103 d K52 x1 x3 x4 r_5 x6 x7 x8 σ_6 Q)))))
def wX8_cause_52 (d : Nat) (Q : Int32 → Sg → Prop) : Nat → Int32 → Int32 → Int32 → Int32 → Int32 → Int32 → Int32 → Sg → Prop
  | 0 => fun _ _ _ _ _ _ _ _ => False
  | n + 1 => fun x1 x3 x4 x5 x6 x7 x8 σ => wX8_cause_52_b d (wX8_cause_52 d Q n) x1 x3 x4 x5 x6 x7 x8 σ Q
def wX8_cause (d : Nat) (x1 : Int32) (x2 : Int32) (x3 : Int32) (x4 : Int32) (σ : Sg) (Q : Int32 → Sg → Prop) : Prop :=
  wX8_isMaker x1 σ fun r_9 σ_8 => (
  if r_9 = 0 then (
    Q (-1) σ_8)
  else (
    wX8_has x2 σ_8 fun r_11 σ_10 => (
    if r_11 = 0 then (
      Q (-1) σ_10)
    else (
      wX8_treeOf d x2 σ_10 fun r_13 σ_12 => (
      wX8_valueOf d r_13 x3 x4 σ_12 fun r_15 σ_14 => (
      if (σ_14.1 0 8) = 0 then (
        ∃ nn, wX8_cause_52 d  Q nn x1 x3 x4 r_13 r_15 1 0 σ_14)
      else (
        Q (-2) σ_14)))))))
def wX8_isShown (d : Nat) (x1 : Int32) (x2 : Int32) (σ : Sg) (Q : Int32 → Sg → Prop) : Prop :=
  wX8_tree d  σ fun r_2 σ_1 => (
  wX8_isSafe d r_2 x2 σ_1 fun r_4 σ_3 => (
  if r_4 = 0 then (
    Q 0 σ_3)
  else (
    wX8_firstOf d r_2 x1 x2 σ_3 fun r_6 σ_5 => (
    if r_6 = (-5) then (
      Q 0 σ_5)
    else (
      Q 1 σ_5)))))
def wX8_step_77_b  (K77 : Int32 → Int32 → Int32 → Int32 → Int32 → Sg → Prop) (x1 : Int32) (x2 : Int32) (x3 : Int32) (x4 : Int32) (x5 : Int32) (σ : Sg) (Q : Int32 → Sg → Prop) : Prop :=
    if x2 ≤ x5 then (
      wX8_endOf x4 σ fun r_2 σ_1 => (
      wX8_spare x4 r_2 σ_1 fun  σ_3 => (
      wX8_splice x1 x3 (r_2 - x4) σ_3 fun  σ_4 => (
      Q 1 σ_4))))
    else (
      wX8_endOf x4 σ fun r_6 σ_5 => (
      lt (x5 + 1) fun x5_7 => (
      K77 x1 x2 x3 r_6 x5_7 σ_5)))
def wX8_step_77  (Q : Int32 → Sg → Prop) : Nat → Int32 → Int32 → Int32 → Int32 → Int32 → Sg → Prop
  | 0 => fun _ _ _ _ _ _ => False
  | n + 1 => fun x1 x2 x3 x4 x5 σ => wX8_step_77_b  (wX8_step_77  Q n) x1 x2 x3 x4 x5 σ Q
def wX8_step_31  (x1 : Int32) (x3 : Int32) (σ : Sg) (Q : Int32 → Sg → Prop) : Prop :=
  (vp_in 0 60) ∧ (
  lt (sI σ 16 (upd (σ.1 16) (Int32.toNatClampNeg 0) 0)) fun σ_10 => (
  lt (sI σ_10 17 (upd (σ_10.1 17) (Int32.toNatClampNeg 0) 0)) fun σ_12 => (
  wX8_splice x1 x3 1 σ_12 fun  σ_14 => (
  Q 1 σ_14))))
def wX8_step  (x1 : Int32) (x2 : Int32) (σ : Sg) (Q : Int32 → Sg → Prop) : Prop :=
  wX8_endOf x1 σ fun r_16 σ_15 => (
  if x2 = 3 then (
    (vp_in x1 400) ∧ (
    if (σ_15.1 10 (Int32.toNatClampNeg x1)) = 0 then (
      if (σ_15.1 11 (Int32.toNatClampNeg x1)) = 0 then (
        Q 0 σ_15)
      else (
        wX8_step_31   x1 r_16 σ_15 Q))
    else (
      wX8_step_31   x1 r_16 σ_15 Q)))
  else (
    (vp_in x1 400) ∧ (
    wX8_parts (σ_15.1 10 (Int32.toNatClampNeg x1)) σ_15 fun r_19 σ_18 => (
    if x2 < r_19 then (
      lt (x1 + 1) fun x4_20 => (
      ∃ nn, wX8_step_77   Q nn x1 x2 r_16 x4_20 0 σ_18))
    else (
      Q 0 σ_18)))))
def wX8_makeSmaller_44 (d : Nat) (K6 : Int32 → Int32 → Int32 → Sg → Prop) (K17 : Int32 → Int32 → Int32 → Int32 → Sg → Prop) (x1 : Int32) (x2 : Int32) (x3 : Int32) (x4 : Int32) (σ : Sg) (Q : Int32 → Sg → Prop) : Prop :=
  wX8_recall  σ fun  σ_1 => (
  lt (x4 + 1) fun x4_2 => (
  K17 x1 x2 x3 x4_2 σ_1))
def wX8_makeSmaller_17_b (d : Nat) (K6 : Int32 → Int32 → Int32 → Sg → Prop) (K17 : Int32 → Int32 → Int32 → Int32 → Sg → Prop) (x1 : Int32) (x2 : Int32) (x3 : Int32) (x4 : Int32) (σ : Sg) (Q : Int32 → Sg → Prop) : Prop :=
    if 4 ≤ x4 then (
      lt (x3 + 1) fun x3_4 => (
      K6 x1 x2 x3_4 σ))
    else (
      wX8_step x3 x4 σ fun r_7 σ_6 => (
      if r_7 = 0 then (
        wX8_makeSmaller_44 d K6 K17 x1 x2 x3 x4 σ_6 Q)
      else (
        wX8_isShown d x1 x2 σ_6 fun r_9 σ_8 => (
        if r_9 = 0 then (
          wX8_makeSmaller_44 d K6 K17 x1 x2 x3 x4 σ_8 Q)
        else (
          Q 1 σ_8)))))
def wX8_makeSmaller_17 (d : Nat) (K6 : Int32 → Int32 → Int32 → Sg → Prop) (Q : Int32 → Sg → Prop) : Nat → Int32 → Int32 → Int32 → Int32 → Sg → Prop
  | 0 => fun _ _ _ _ _ => False
  | n + 1 => fun x1 x2 x3 x4 σ => wX8_makeSmaller_17_b d K6 (wX8_makeSmaller_17 d K6 Q n) x1 x2 x3 x4 σ Q
def wX8_makeSmaller_6_b (d : Nat) (K6 : Int32 → Int32 → Int32 → Sg → Prop) (x1 : Int32) (x2 : Int32) (x3 : Int32) (σ : Sg) (Q : Int32 → Sg → Prop) : Prop :=
    if (σ.1 0 38) ≤ x3 then (
      Q 0 σ)
    else (
      ∃ nn, wX8_makeSmaller_17 d K6 Q nn x1 x2 x3 0 σ)
def wX8_makeSmaller_6 (d : Nat) (Q : Int32 → Sg → Prop) : Nat → Int32 → Int32 → Int32 → Sg → Prop
  | 0 => fun _ _ _ _ => False
  | n + 1 => fun x1 x2 x3 σ => wX8_makeSmaller_6_b d (wX8_makeSmaller_6 d Q n) x1 x2 x3 σ Q
def wX8_makeSmaller (d : Nat) (x1 : Int32) (x2 : Int32) (σ : Sg) (Q : Int32 → Sg → Prop) : Prop :=
  wX8_remember  σ fun  σ_10 => (
  ∃ nn, wX8_makeSmaller_6 d  Q nn x1 x2 0 σ_10)
def wX8_small_52_b (d : Nat) (K52 : Int32 → Int32 → Int32 → Sg → Prop) (x1 : Int32) (x2 : Int32) (x3 : Int32) (σ : Sg) (Q : Int32 → Sg → Prop) : Prop :=
    wX8_makeSmaller d x1 x3 σ fun r_2 σ_1 => (
    if r_2 = 0 then (
      wX8_put x2 σ_1 fun r_4 σ_3 => (
      Q r_4 σ_3))
    else (
      lt (sI σ_1 0 (upd (σ_1.1 0) 35 ((σ_1.1 0 35) + 1))) fun σ_5 => (
      K52 x1 x2 x3 σ_5)))
def wX8_small_52 (d : Nat) (Q : Int32 → Sg → Prop) : Nat → Int32 → Int32 → Int32 → Sg → Prop
  | 0 => fun _ _ _ _ => False
  | n + 1 => fun x1 x2 x3 σ => wX8_small_52_b d (wX8_small_52 d Q n) x1 x2 x3 σ Q
def wX8_small (d : Nat) (x1 : Int32) (x2 : Int32) (x3 : Int32) (σ : Sg) (Q : Int32 → Sg → Prop) : Prop :=
  wX8_isMaker x1 σ fun r_8 σ_7 => (
  if r_8 = 0 then (
    Q (-1) σ_7)
  else (
    wX8_has x2 σ_7 fun r_10 σ_9 => (
    if r_10 = 0 then (
      Q (-1) σ_9)
    else (
      wX8_in (Int32.toInt64 x3) 0 6 σ_9 fun r_12 σ_11 => (
      if r_12 = 0 then (
        Q (-1) σ_11)
      else (
        wX8_take x2 σ_11 fun  σ_13 => (
        wX8_isShown d x1 x3 σ_13 fun r_15 σ_14 => (
        if r_15 = 0 then (
          Q (-2) σ_14)
        else (
          lt (sI σ_14 0 (upd (σ_14.1 0) 35 0)) fun σ_16 => (
          ∃ nn, wX8_small_52 d  Q nn x1 x2 x3 σ_16))))))))))
def wX8_least_41_b (d : Nat) (K32 : Int32 → Int32 → Int32 → Int32 → Sg → Prop) (K41 : Int32 → Int32 → Int32 → Int32 → Int64 → Sg → Prop) (x1 : Int32) (x2 : Int32) (x3 : Int32) (x4 : Int32) (x5 : Int64) (σ : Sg) (Q : Int64 → Sg → Prop) : Prop :=
    (vp_in x4 16) ∧ (
    if (σ.2.1 12 (Int32.toNatClampNeg x4)) ≤ x5 then (
      lt (x4 + 1) fun x4_2 => (
      K32 x1 x2 x3 x4_2 σ))
    else (
      wX8_nthTree d x4 x5 σ fun r_5 σ_4 => (
      wX8_firesOf d r_5 x1 x2 σ_4 fun r_7 σ_6 => (
      if r_7 ≤ 0 then (
        lt (x5 + 1) fun x5_8 => (
        K41 x1 x2 x3 x4 x5_8 σ_6))
      else (
        Q ((16 * x5) + (Int32.toInt64 x4)) σ_6)))))
def wX8_least_41 (d : Nat) (K32 : Int32 → Int32 → Int32 → Int32 → Sg → Prop) (Q : Int64 → Sg → Prop) : Nat → Int32 → Int32 → Int32 → Int32 → Int64 → Sg → Prop
  | 0 => fun _ _ _ _ _ _ => False
  | n + 1 => fun x1 x2 x3 x4 x5 σ => wX8_least_41_b d K32 (wX8_least_41 d K32 Q n) x1 x2 x3 x4 x5 σ Q
def wX8_least_32_b (d : Nat) (K32 : Int32 → Int32 → Int32 → Int32 → Sg → Prop) (x1 : Int32) (x2 : Int32) (x3 : Int32) (x4 : Int32) (σ : Sg) (Q : Int64 → Sg → Prop) : Prop :=
    if x3 < x4 then (
      Q (-5) σ)
    else (
      ∃ nn, wX8_least_41 d K32 Q nn x1 x2 x3 x4 0 σ)
def wX8_least_32 (d : Nat) (Q : Int64 → Sg → Prop) : Nat → Int32 → Int32 → Int32 → Int32 → Sg → Prop
  | 0 => fun _ _ _ _ _ => False
  | n + 1 => fun x1 x2 x3 x4 σ => wX8_least_32_b d (wX8_least_32 d Q n) x1 x2 x3 x4 σ Q
def wX8_least (d : Nat) (x1 : Int32) (x2 : Int32) (x3 : Int32) (σ : Sg) (Q : Int64 → Sg → Prop) : Prop :=
  wX8_isTurn x1 x2 σ fun r_11 σ_10 => (
  if r_11 = 0 then (
    Q (-1) σ_10)
  else (
    wX8_in (Int32.toInt64 x3) 1 5 σ_10 fun r_13 σ_12 => (
    if r_13 = 0 then (
      Q (-1) σ_12)
    else (
      wX8_count0  σ_12 fun  σ_14 => (
      ∃ nn, wX8_least_32 d  Q nn x1 x2 x3 1 σ_14)))))
def wX8_shown_117 (d : Nat) (K55 : Int32 → Int32 → Int32 → Int32 → Int32 → Int64 → Sg → Prop) (x1 : Int32) (x2 : Int32) (x3 : Int32) (x4 : Int32) (x5 : Int32) (x6 : Int64) (σ : Sg) (Q : Int32 → Sg → Prop) : Prop :=
  lt (x6 + 1) fun x6_1 => (
  K55 x1 x2 x3 x4 x5 x6_1 σ)
def wX8_shown_114 (d : Nat) (K55 : Int32 → Int32 → Int32 → Int32 → Int32 → Int64 → Sg → Prop) (x1 : Int32) (x2 : Int32) (x3 : Int32) (x4 : Int32) (x6 : Int64) (s0 : Int32) (s1 : Int32) (σ : Sg) (Q : Int32 → Sg → Prop) : Prop :=
  lt (s0 + s1) fun x5_3 => (
  wX8_shown_117 d K55 x1 x2 x3 x4 x5_3 x6 σ Q)
def wX8_shown_109 (d : Nat) (K55 : Int32 → Int32 → Int32 → Int32 → Int32 → Int64 → Sg → Prop) (x1 : Int32) (x2 : Int32) (x3 : Int32) (x4 : Int32) (x6 : Int64) (s0 : Int32) (σ : Sg) (Q : Int32 → Sg → Prop) : Prop :=
  wX8_shown_114 d K55 x1 x2 x3 x4 x6 s0 1 σ Q
def wX8_shown_55_b (d : Nat) (K55 : Int32 → Int32 → Int32 → Int32 → Int32 → Int64 → Sg → Prop) (x1 : Int32) (x2 : Int32) (x3 : Int32) (x4 : Int32) (x5 : Int32) (x6 : Int64) (σ : Sg) (Q : Int32 → Sg → Prop) : Prop :=
    (vp_in x2 16) ∧ (
    if (σ.2.1 12 (Int32.toNatClampNeg x2)) ≤ x6 then (
      Q x5 σ)
    else (
      wX8_nthTree d x2 x6 σ fun r_7 σ_6 => (
      wX8_isSafe d r_7 x3 σ_6 fun r_9 σ_8 => (
      if r_9 = 0 then (
        wX8_shown_117 d K55 x1 x2 x3 x4 x5 x6 σ_8 Q)
      else (
        if x4 = 0 then (
          wX8_shown_109 d K55 x1 x2 x3 x4 x6 x5 σ_8 Q)
        else (
          wX8_firstOf d r_7 x1 x3 σ_8 fun r_11 σ_10 => (
          if r_11 = (-5) then (
            wX8_shown_114 d K55 x1 x2 x3 x4 x6 x5 0 σ_10 Q)
          else (
            wX8_shown_109 d K55 x1 x2 x3 x4 x6 x5 σ_10 Q))))))))
def wX8_shown_55 (d : Nat) (Q : Int32 → Sg → Prop) : Nat → Int32 → Int32 → Int32 → Int32 → Int32 → Int64 → Sg → Prop
  | 0 => fun _ _ _ _ _ _ _ => False
  | n + 1 => fun x1 x2 x3 x4 x5 x6 σ => wX8_shown_55_b d (wX8_shown_55 d Q n) x1 x2 x3 x4 x5 x6 σ Q
def wX8_shown (d : Nat) (x1 : Int32) (x2 : Int32) (x3 : Int32) (x4 : Int32) (σ : Sg) (Q : Int32 → Sg → Prop) : Prop :=
  wX8_isMaker x1 σ fun r_13 σ_12 => (
  if r_13 = 0 then (
    Q (-1) σ_12)
  else (
    wX8_in (Int32.toInt64 x2) 1 5 σ_12 fun r_15 σ_14 => (
    if r_15 = 0 then (
      Q (-1) σ_14)
    else (
      wX8_in (Int32.toInt64 x3) 0 2 σ_14 fun r_17 σ_16 => (
      if r_17 = 0 then (
        Q (-1) σ_16)
      else (
        wX8_in (Int32.toInt64 x4) 0 1 σ_16 fun r_19 σ_18 => (
        if r_19 = 0 then (
          Q (-1) σ_18)
        else (
          wX8_count0  σ_18 fun  σ_20 => (
          ∃ nn, wX8_shown_55 d  Q nn x1 x2 x3 x4 0 0 σ_20)))))))))
def wX0_endParts_85 (K4 : Nat → Int32 → Sg → Prop) (t : Nat) (x2 : Int32) (σ : Sg) (Q : Int32 → Sg → Prop) : Prop :=
  lt (x2 + (-1)) fun x2_1 => (
  K4 t x2_1 σ)
def wX0_endParts_41 (K4 : Nat → Int32 → Sg → Prop) (t : Nat) (x2 : Int32) (σ : Sg) (Q : Int32 → Sg → Prop) : Prop :=
  (YC.2.1 t = 0) ∧ (
  (vp_in x2 200) ∧ (
  wX7_partsOf (σ.1 (t + 3) (Int32.toNatClampNeg x2)) σ fun r_6 σ_5 => (
  if r_6 ≤ (σ.1 (t + 4) (Int32.toNatClampNeg x2)) then (
    if (σ_5.1 (t + 3) (Int32.toNatClampNeg x2)) = 8 then (
      wX0_endParts_85  K4 t x2 σ_5 Q)
    else (
      wX0_add t (σ_5.1 (t + 3) (Int32.toNatClampNeg x2)) 0 σ_5 fun  σ_7 => (
      wX0_endParts_85  K4 t x2 σ_7 Q)))
  else (
    Q (x2 + 1) σ_5))))
def wX0_endParts_4_b  (K4 : Nat → Int32 → Sg → Prop) (t : Nat) (x2 : Int32) (σ : Sg) (Q : Int32 → Sg → Prop) : Prop :=
    if x2 < 0 then (
      Q 0 σ)
    else (
      if 200 ≤ x2 then (
        Q 0 σ)
      else (
        (YC.2.1 t = 0) ∧ (
        (vp_in x2 200) ∧ (
        lt (sI σ (t + 4) (upd (σ.1 (t + 4)) (Int32.toNatClampNeg x2) ((σ.1 (t + 4) (Int32.toNatClampNeg x2)) + 1))) fun σ_10 => (
        if (σ_10.1 (t + 3) (Int32.toNatClampNeg x2)) = 8 then (
          wX0_jumpBehindPart t x2 σ_10 fun  σ_12 => (
          wX0_endParts_41  K4 t x2 σ_12 Q))
        else (
          wX0_endParts_41  K4 t x2 σ_10 Q))))))
def wX0_endParts_4  (Q : Int32 → Sg → Prop) : Nat → Nat → Int32 → Sg → Prop
  | 0 => fun _ _ _ => False
  | n + 1 => fun t x2 σ => wX0_endParts_4_b  (wX0_endParts_4  Q n) t x2 σ Q
def wX0_endParts  (t : Nat) (x1 : Int32) (σ : Sg) (Q : Int32 → Sg → Prop) : Prop :=
  lt (x1 - 1) fun x2_13 => (
  ∃ nn, wX0_endParts_4   Q nn t x2_13 σ)
def wX1_unfoldNode_113  (q1 : Nat) (x5 : Int32) (x6 : Int64) (x8 : Int64) (σ : Sg) (Q : Sg → Prop) : Prop :=
  (YC.2.1 q1 = 4) ∧ (
  wX5_append q1 8 0 σ fun  σ_2 => (
  wX1_deferThree x5 (x6 - (4 * x8)) σ_2 fun  σ_3 => (
  Q σ_3)))
def wX1_unfoldNode_67  (q1 : Nat) (x5 : Int32) (x6 : Int64) (s0 : Int64) (σ : Sg) (Q : Sg → Prop) : Prop :=
  if s0 ≤ 0 then (
    wX1_unfoldNode_113   q1 x5 x6 s0 σ Q)
  else (
    if (4 * s0) ≤ x6 then (
      wX1_unfoldNode_113   q1 x5 x6 s0 σ Q)
    else (
      (¬ s0 = 0) ∧ (
      (YC.2.1 q1 = 4) ∧ (
      wX5_append q1 (4 + (Int64.toInt32 (x6 / s0))) 0 σ fun  σ_6 => (
      wX1_deferTwo x5 (x6 - x6 / s0 * s0) σ_6 fun  σ_7 => (
      Q σ_7))))))
def wX1_unfoldNode  (q1 : Nat) (x2 : Int32) (x3 : Int64) (σ : Sg) (Q : Sg → Prop) : Prop :=
  if 2 ≤ x2 then (
    lt (x2 - 1) fun x5_8 => (
    wX1_howMany x5_8 σ fun r_11 σ_10 => (
    lt (x3 - r_11) fun x6_12 => (
    if 0 ≤ x6_12 then (
      if 15 < x5_8 then (
        wX1_unfoldNode_67   q1 x5_8 x6_12 0 σ_10 Q)
      else (
        (vp_in x5_8 16) ∧ (
        wX1_unfoldNode_67   q1 x5_8 x6_12 (σ_10.2.1 3 (Int32.toNatClampNeg x5_8)) σ_10 Q)))
    else (
      (YC.2.1 q1 = 4) ∧ (
      wX5_append q1 3 0 σ_10 fun  σ_16 => (
      wX1_defer x5_8 x3 σ_16 fun  σ_17 => (
      Q σ_17))))))))
  else (
    wX1_unfoldLeaf q1 (Int64.toInt32 x3) σ fun  σ_18 => (
    Q σ_18))
def wX1_rankOfNode_78  (q1 : Nat) (x2 : Int32) (x3 : Int32) (x4 : Int32) (s0 : Int64) (σ : Sg) (Q : Int64 → Sg → Prop) : Prop :=
  if x3 = 8 then (
    wX1_howMany x4 σ fun r_6 σ_5 => (
    wX1_rankOfThree q1 (x2 + 1) x4 σ_5 fun r_8 σ_7 => (
    Q ((r_6 + (4 * s0)) + r_8) σ_7)))
  else (
    wX1_howMany x4 σ fun r_2 σ_1 => (
    wX1_rankOfTwo q1 (x2 + 1) σ_1 fun r_4 σ_3 => (
    Q ((r_2 + ((Int32.toInt64 (x3 - 4)) * s0)) + r_4) σ_3)))
def wX1_rankOfNode_36  (x3 : Int32) (σ : Sg) (Q : Int64 → Sg → Prop) : Prop :=
  Q (Int32.toInt64 ((3 + x3) - 1)) σ
def wX1_rankOfNode  (q1 : Nat) (x2 : Int32) (σ : Sg) (Q : Int64 → Sg → Prop) : Prop :=
  (YC.2.1 q1 = 4) ∧ (
  wX5_kindOf q1 x2 σ fun r_11 σ_10 => (
  wX5_sizeOf q1 x2 σ_10 fun r_13 σ_12 => (
  lt (r_13 - 1) fun x4_14 => (
  if r_11 = 0 then (
    wX5_numberOf q1 x2 σ_12 fun r_22 σ_21 => (
    Q (Int32.toInt64 r_22) σ_21))
  else (
    if r_11 = 1 then (
      wX1_rankOfNode_36   r_11 σ_12 Q)
    else (
      if r_11 = 2 then (
        wX1_rankOfNode_36   r_11 σ_12 Q)
      else (
        if r_11 = 3 then (
          wX1_rankAt (x2 + 1) σ_12 fun r_20 σ_19 => (
          Q r_20 σ_19))
        else (
          wX7_within x4_14 0 15 σ_12 fun r_17 σ_16 => (
          if r_17 = 0 then (
            wX1_rankOfNode_78   q1 x2 r_11 x4_14 0 σ_16 Q)
          else (
            (vp_in x4_14 16) ∧ (
            wX1_rankOfNode_78   q1 x2 r_11 x4_14 (σ_16.2.1 3 (Int32.toNatClampNeg x4_14)) σ_16 Q)))))))))))
def wX4_zero_154  (q0 : Nat) (x1 : Int32) (x5 : Int32) (σ : Sg) (Q : Int32 → Sg → Prop) : Prop :=
  if 0 ≤ x5 then (
    (YC.2.1 q0 = 4) ∧ (
    wX5_endAsPart q0 x1 x5 σ fun  σ_2 => (
    Q 1 σ_2)))
  else (
    Q 0 σ)
def wX4_zero_149  (q0 : Nat) (x1 : Int32) (s0 : Int32) (σ : Sg) (Q : Int32 → Sg → Prop) : Prop :=
  wX4_zero_154   q0 x1 s0 σ Q
def wX4_zero_116  (q0 : Nat) (x1 : Int32) (s0 : Int32) (σ : Sg) (Q : Int32 → Sg → Prop) : Prop :=
  wX4_zero_154   q0 x1 s0 σ Q
def wX4_zero_115  (q0 : Nat) (x1 : Int32) (σ : Sg) (Q : Int32 → Sg → Prop) : Prop :=
  wX4_zero_116   q0 x1 (-1) σ Q
def wX4_zero_77  (q0 : Nat) (x1 : Int32) (s0 : Int32) (σ : Sg) (Q : Int32 → Sg → Prop) : Prop :=
  wX4_zero_154   q0 x1 s0 σ Q
def wX4_zero  (q0 : Nat) (x1 : Int32) (x2 : Int32) (σ : Sg) (Q : Int32 → Sg → Prop) : Prop :=
  lt (x1 + 1) fun x3_3 => (
  (YC.2.1 q0 = 4) ∧ (
  wX5_behind q0 x3_3 σ fun r_7 σ_6 => (
  wX5_kindOf q0 x1 σ_6 fun r_9 σ_8 => (
  if r_9 = 4 then (
    wX5_isNumber q0 r_7 0 σ_8 fun r_11 σ_10 => (
    if r_11 = 0 then (
      wX5_isNumber q0 x3_3 0 σ_10 fun r_13 σ_12 => (
      if r_13 = 0 then (
        wX4_zero_77   q0 x1 (-1) σ_12 Q)
      else (
        wX4_zero_77   q0 x1 r_7 σ_12 Q)))
    else (
      wX4_zero_77   q0 x1 x3_3 σ_10 Q)))
  else if r_9 = 5 then (
    wX5_isNumber q0 r_7 0 σ_8 fun r_15 σ_14 => (
    if r_15 = 0 then (
      if x2 = 1 then (
        wX5_isNumber q0 x3_3 0 σ_14 fun r_17 σ_16 => (
        if r_17 = 0 then (
          wX4_zero_115   q0 x1 σ_16 Q)
        else (
          wX4_zero_116   q0 x1 r_7 σ_16 Q)))
      else (
        wX4_zero_115   q0 x1 σ_14 Q))
    else (
      wX4_zero_116   q0 x1 x3_3 σ_14 Q)))
  else if r_9 = 6 then (
    wX4_staysOfTimes q0 x3_3 r_7 x2 σ_8 fun r_19 σ_18 => (
    wX4_zero_154   q0 x1 r_19 σ_18 Q))
  else if r_9 = 7 then (
    wX5_isNumber q0 r_7 1 σ_8 fun r_21 σ_20 => (
    if r_21 = 0 then (
      wX4_zero_149   q0 x1 (-1) σ_20 Q)
    else (
      wX4_zero_149   q0 x1 x3_3 σ_20 Q)))
  else (
  wX4_zero_154   q0 x1 (-1) σ_8 Q)))))
def wX4_same_68  (q0 : Nat) (x1 : Int32) (σ : Sg) (Q : Int32 → Sg → Prop) : Prop :=
  (YC.2.1 q0 = 4) ∧ (
  wX5_endAsNumber q0 x1 0 σ fun  σ_2 => (
  Q 1 σ_2))
def wX4_same_23  (q0 : Nat) (x1 : Int32) (x2 : Int32) (σ : Sg) (Q : Int32 → Sg → Prop) : Prop :=
  lt (x1 + 1) fun x4_3 => (
  (YC.2.1 q0 = 4) ∧ (
  wX5_behind q0 x4_3 σ fun r_7 σ_6 => (
  if x2 = 2 then (
    wX4_isAlike q0 x4_3 r_7 σ_6 fun r_11 σ_10 => (
    if r_11 = 0 then (
      Q 0 σ_10)
    else (
      wX4_same_68   q0 x1 σ_10 Q)))
  else (
    wX5_isSame q0 x4_3 r_7 σ_6 fun r_9 σ_8 => (
    if r_9 = 0 then (
      Q 0 σ_8)
    else (
      wX4_same_68   q0 x1 σ_8 Q))))))
def wX4_same  (q0 : Nat) (x1 : Int32) (x2 : Int32) (σ : Sg) (Q : Int32 → Sg → Prop) : Prop :=
  (YC.2.1 q0 = 4) ∧ (
  wX5_kindOf q0 x1 σ fun r_14 σ_13 => (
  if r_14 = 5 then (
    wX4_same_23   q0 x1 x2 σ_13 Q)
  else (
    if r_14 = 4 then (
      if x2 = 1 then (
        wX4_same_23   q0 x1 x2 σ_13 Q)
      else (
        Q 0 σ_13))
    else (
      Q 0 σ_13))))
def wX4_twice_147  (q0 : Nat) (x1 : Int32) (x8 : Int32) (s0 : Nat) (s1 : Int32) (s2 : Int32) (σ : Sg) (Q : Int32 → Sg → Prop) : Prop :=
  (YC.2.1 s0 = 4) ∧ (
  wX5_insert s0 s1 s2 0 σ fun  σ_2 => (
  (YC.2.1 q0 = 4) ∧ (
  wX5_appendRun q0 q0 (x1 + 1) x8 σ_2 fun  σ_4 => (
  wX5_close q0 x1 σ_4 fun  σ_5 => (
  Q 1 σ_5)))))
def wX4_twice_91  (q0 : Nat) (x1 : Int32) (x3 : Int32) (x6 : Int32) (x7 : Int32) (σ : Sg) (Q : Int32 → Sg → Prop) : Prop :=
  if x7 < 0 then (
    Q 0 σ)
  else (
    (YC.2.1 q0 = 4) ∧ (
    wX5_sizeOf q0 x7 σ fun r_8 σ_7 => (
    if ((((σ.1 q0 3) + x3) + r_8) - 1) ≤ 200 then (
      wX5_endAsPart q0 x1 x7 σ_7 fun  σ_9 => (
      wX5_sizeOf q0 x1 σ_9 fun r_11 σ_10 => (
      if x6 = 6 then (
        wX4_twice_147   q0 x1 r_11 q0 x1 4 σ_10 Q)
      else (
        wX4_twice_147   q0 x1 r_11 q0 x1 5 σ_10 Q))))
    else (
      Q 0 σ_7))))
def wX4_twice  (q0 : Nat) (x1 : Int32) (x2 : Int32) (x3 : Int32) (σ : Sg) (Q : Int32 → Sg → Prop) : Prop :=
  lt (x1 + 1) fun x4_12 => (
  (YC.2.1 q0 = 4) ∧ (
  wX5_behind q0 x4_12 σ fun r_16 σ_15 => (
  wX5_kindOf q0 x1 σ_15 fun r_18 σ_17 => (
  if r_18 = 6 then (
    wX4_otherThan q0 x4_12 r_16 2 σ_17 fun r_22 σ_21 => (
    if 0 ≤ r_22 then (
      wX4_twice_91   q0 x1 x3 r_18 r_22 σ_21 Q)
    else (
      if x2 = 1 then (
        wX4_otherThan q0 x4_12 r_16 3 σ_21 fun r_24 σ_23 => (
        wX4_twice_91   q0 x1 x3 r_18 r_24 σ_23 Q))
      else (
        wX4_twice_91   q0 x1 x3 r_18 r_22 σ_21 Q))))
  else (
    if r_18 = 7 then (
      if x2 = 2 then (
        wX5_isNumber q0 r_16 2 σ_17 fun r_20 σ_19 => (
        if r_20 = 0 then (
          wX4_twice_91   q0 x1 x3 r_18 (-1) σ_19 Q)
        else (
          wX4_twice_91   q0 x1 x3 r_18 x4_12 σ_19 Q)))
      else (
        wX4_twice_91   q0 x1 x3 r_18 (-1) σ_17 Q))
    else (
      wX4_twice_91   q0 x1 x3 r_18 (-1) σ_17 Q))))))
def wX5_join  (t : Nat) (q1 : Nat) (x2 : Int32) (q3 : Nat) (x4 : Int32) (σ : Sg) (Q : Sg → Prop) : Prop :=
  (YC.2.1 t = 4) ∧ (
  lt (sI σ t (upd (σ.1 t) 3 0)) fun σ_2 => (
  wX5_appendRun t q1 0 x2 σ_2 fun  σ_4 => (
  (YC.2.1 q3 = 4) ∧ (
  wX5_sizeOf q3 x4 σ_4 fun r_7 σ_6 => (
  wX5_appendRun t q3 x4 r_7 σ_6 fun  σ_8 => (
  (YC.2.1 q1 = 4) ∧ (
  wX5_behind q1 x2 σ_8 fun r_11 σ_10 => (
  wX5_behind q1 x2 σ_10 fun r_13 σ_12 => (
  wX5_appendRun t q1 r_11 ((σ_10.1 q1 3) - r_13) σ_12 fun  σ_14 => (
  wX5_measure t σ_14 fun  σ_15 => (
  Q σ_15)))))))))))
def wX7_breed  (x1 : Int32) (x2 : Int32) (x3 : Int32) (x4 : Int32) (x5 : Int32) (σ : Sg) (Q : Int32 → Sg → Prop) : Prop :=
  wX7_placeAt x1 σ fun o_2 σ_1 => (
  wX7_programAt x2 σ_1 fun o_4 σ_3 => (
  wX7_programAt x4 σ_3 fun o_6 σ_5 => (
  (o_2 = none → (
    Q (-1) σ_5)) ∧ ∀ z_7, o_2 = some z_7 → (
    (o_4 = none → (
      Q (-1) σ_5)) ∧ ∀ z_8, o_4 = some z_8 → (
      (o_6 = none → (
        Q (-1) σ_5)) ∧ ∀ z_9, o_6 = some z_9 → (
        (YC.2.1 z_8 = 4) ∧ (
        wX5_has z_8 x3 σ_5 fun r_12 σ_11 => (
        if r_12 = 0 then (
          Q (-1) σ_11)
        else (
          (YC.2.1 z_9 = 4) ∧ (
          wX5_has z_9 x5 σ_11 fun r_15 σ_14 => (
          if r_15 = 0 then (
            Q (-1) σ_14)
          else (
            wX5_sizeOf z_8 x3 σ_14 fun r_17 σ_16 => (
            wX5_sizeOf z_9 x5 σ_16 fun r_19 σ_18 => (
            if (((σ_14.1 z_8 3) - r_17) + r_19) ≤ 60 then (
              wX5_join 45 z_8 x3 z_9 x5 σ_18 fun  σ_20 => (
              (YC.2.1 z_7 = 4) ∧ (
              wX5_become z_7 45 σ_20 fun  σ_22 => (
              Q (σ_22.1 z_7 3) σ_22))))
            else (
              Q (-3) σ_18)))))))))))))))
def wX0_write_92 (K24 : Nat → Nat → Int32 → Int32 → Sg → Prop) (t : Nat) (q1 : Nat) (x2 : Int32) (x3 : Int32) (σ : Sg) (Q : Sg → Prop) : Prop :=
  lt (x3 + 1) fun x3_1 => (
  K24 t q1 x2 x3_1 σ)
def wX0_write_24_b  (K24 : Nat → Nat → Int32 → Int32 → Sg → Prop) (t : Nat) (q1 : Nat) (x2 : Int32) (x3 : Int32) (σ : Sg) (Q : Sg → Prop) : Prop :=
    (YC.2.1 q1 = 4) ∧ (
    if (σ.1 q1 3) ≤ x3 then (
      Q σ)
    else (
      if 200 ≤ x2 then (
        Q σ)
      else (
        wX5_kindOf q1 x3 σ fun r_5 σ_4 => (
        wX7_partsOf r_5 σ_4 fun r_7 σ_6 => (
        if r_7 ≤ 0 then (
          wX5_numberOf q1 x3 σ_6 fun r_9 σ_8 => (
          (YC.2.1 t = 0) ∧ (
          wX0_add t r_5 r_9 σ_8 fun  σ_11 => (
          wX0_endParts t x2 σ_11 fun r_13 σ_12 => (
          wX0_write_92  K24 t q1 r_13 x3 σ_12 Q)))))
        else (
          (YC.2.1 t = 0) ∧ (
          (vp_in x2 200) ∧ (
          lt (sI σ_6 (t + 3) (upd (σ_6.1 (t + 3)) (Int32.toNatClampNeg x2) r_5)) fun σ_16 => (
          lt (sI σ_16 (t + 4) (upd (σ_16.1 (t + 4)) (Int32.toNatClampNeg x2) 0)) fun σ_18 => (
          lt (x2 + 1) fun x2_20 => (
          wX0_write_92  K24 t q1 x2_20 x3 σ_18 Q)))))))))))
def wX0_write_24  (Q : Sg → Prop) : Nat → Nat → Nat → Int32 → Int32 → Sg → Prop
  | 0 => fun _ _ _ _ _ => False
  | n + 1 => fun t q1 x2 x3 σ => wX0_write_24_b  (wX0_write_24  Q n) t q1 x2 x3 σ Q
def wX0_write  (t : Nat) (q1 : Nat) (σ : Sg) (Q : Sg → Prop) : Prop :=
  (YC.2.1 t = 0) ∧ (
  lt (sI σ t (upd (σ.1 t) 2 0)) fun σ_23 => (
  lt (sI σ_23 t (upd (σ_23.1 t) 3 0)) fun σ_25 => (
  lt (sI σ_25 t (upd (σ_25.1 t) 4 0)) fun σ_27 => (
  lt (sI σ_27 t (upd (σ_27.1 t) 5 0)) fun σ_29 => (
  ∃ nn, wX0_write_24   Q nn t q1 0 0 σ_29)))))
def wX1_unfold_79  (q1 : Nat) (σ : Sg) (Q : Sg → Prop) : Prop :=
  (YC.2.1 q1 = 4) ∧ (
  wX5_measure q1 σ fun  σ_2 => (
  Q σ_2))
def wX1_unfold_18_b  (K18 : Nat → Int32 → Int32 → Sg → Prop) (q1 : Nat) (x2 : Int32) (x5 : Int32) (σ : Sg) (Q : Sg → Prop) : Prop :=
    if x2 ≤ x5 then (
      wX1_unfold_79   q1 σ Q)
    else (
      if (σ.1 1 5) ≤ 0 then (
        wX1_unfold_79   q1 σ Q)
      else (
        if 15 < (σ.1 1 5) then (
          wX1_unfold_79   q1 σ Q)
        else (
          lt (sI σ 1 (upd (σ.1 1) 5 ((σ.1 1 5) - 1))) fun σ_3 => (
          (vp_in (σ_3.1 1 5) 16) ∧ (
          wX1_unfoldNode q1 (σ_3.1 5 (Int32.toNatClampNeg (σ_3.1 1 5))) (σ_3.2.1 6 (Int32.toNatClampNeg (σ_3.1 1 5))) σ_3 fun  σ_6 => (
          lt (x5 + 1) fun x5_7 => (
          K18 q1 x2 x5_7 σ_6)))))))
def wX1_unfold_18  (Q : Sg → Prop) : Nat → Nat → Int32 → Int32 → Sg → Prop
  | 0 => fun _ _ _ _ => False
  | n + 1 => fun q1 x2 x5 σ => wX1_unfold_18_b  (wX1_unfold_18  Q n) q1 x2 x5 σ Q
def wX1_unfold  (q1 : Nat) (x2 : Int32) (x3 : Int64) (σ : Sg) (Q : Sg → Prop) : Prop :=
  (YC.2.1 q1 = 4) ∧ (
  wX5_clear q1 σ fun  σ_10 => (
  lt (sI σ_10 1 (upd (σ_10.1 1) 5 0)) fun σ_11 => (
  wX1_defer x2 x3 σ_11 fun  σ_13 => (
  ∃ nn, wX1_unfold_18   Q nn q1 x2 0 σ_13))))
def wX1_rank_12_b  (K12 : Nat → Int32 → Sg → Prop) (q1 : Nat) (x2 : Int32) (σ : Sg) (Q : Int64 → Sg → Prop) : Prop :=
    if x2 < 0 then (
      (vp_in 0 16) ∧ (
      Q (σ.2.1 7 (Int32.toNatClampNeg 0)) σ))
    else (
      wX1_rankOfNode q1 x2 σ fun r_3 σ_2 => (
      (vp_in x2 16) ∧ (
      lt (sJ σ_2 7 (vp_updL (σ_2.2.1 7) (Int32.toNatClampNeg x2) r_3)) fun σ_5 => (
      lt (x2 + (-1)) fun x2_7 => (
      K12 q1 x2_7 σ_5)))))
def wX1_rank_12  (Q : Int64 → Sg → Prop) : Nat → Nat → Int32 → Sg → Prop
  | 0 => fun _ _ _ => False
  | n + 1 => fun q1 x2 σ => wX1_rank_12_b  (wX1_rank_12  Q n) q1 x2 σ Q
def wX1_rank  (q1 : Nat) (σ : Sg) (Q : Int64 → Sg → Prop) : Prop :=
  (YC.2.1 q1 = 4) ∧ (
  lt ((if 15 < (σ.1 q1 3) then 15 else (σ.1 q1 3)) - 1) fun x2_10 => (
  ∃ nn, wX1_rank_12   Q nn q1 x2_10 σ))
def wX4_fire  (q0 : Nat) (x1 : Int32) (x2 : Int32) (x3 : Int32) (x4 : Int32) (σ : Sg) (Q : Int32 → Sg → Prop) : Prop :=
  if x2 = 0 then (
    wX4_fold q0 x1 x3 σ fun r_2 σ_1 => (
    (r_2 = 0 ∨ r_2 = 1) ∧ (
    Q r_2 σ_1)))
  else if x2 = 1 then (
    wX4_zero q0 x1 x3 σ fun r_5 σ_4 => (
    (r_5 = 0 ∨ r_5 = 1) ∧ (
    Q r_5 σ_4)))
  else if x2 = 2 then (
    wX4_same q0 x1 x3 σ fun r_8 σ_7 => (
    (r_8 = 0 ∨ r_8 = 1) ∧ (
    Q r_8 σ_7)))
  else if x2 = 3 then (
    wX4_pick q0 x1 x3 σ fun r_11 σ_10 => (
    (r_11 = 0 ∨ r_11 = 1) ∧ (
    Q r_11 σ_10)))
  else if x2 = 4 then (
    wX4_melt q0 x1 x3 σ fun r_14 σ_13 => (
    (r_14 = 0 ∨ r_14 = 1) ∧ (
    Q r_14 σ_13)))
  else if x2 = 5 then (
    wX4_twice q0 x1 x3 x4 σ fun r_17 σ_16 => (
    (r_17 = 0 ∨ r_17 = 1) ∧ (
    Q r_17 σ_16)))
  else if x2 = 6 then (
    wX4_sink q0 x1 x3 σ fun r_20 σ_19 => (
    (r_20 = 0 ∨ r_20 = 1) ∧ (
    Q r_20 σ_19)))
  else (
  Q 0 σ)
def wX6_apply_205  (x3 : Int32) (σ : Sg) (Q : Int32 → Sg → Prop) : Prop :=
  lt (sN σ 16 2 (σ.2.2 16 3)) fun σ_1 => (
  lt (sN σ_1 16 3 (σ.2.2 16 2)) fun σ_3 => (
  Q x3 σ_3))
def wX6_apply_199 (K15 : Int32 → Int32 → Int32 → Int32 → Int32 → Sg → Prop) (x1 : Int32) (x2 : Int32) (x3 : Int32) (x4 : Int32) (x5 : Int32) (σ : Sg) (Q : Int32 → Sg → Prop) : Prop :=
  lt (x5 + 1) fun x5_5 => (
  K15 x1 x2 x3 x4 x5_5 σ)
def wX6_apply_193 (K15 : Int32 → Int32 → Int32 → Int32 → Int32 → Sg → Prop) (K112 : Int32 → Int32 → Int32 → Int32 → Int32 → Int32 → Sg → Prop) (x1 : Int32) (x2 : Int32) (x3 : Int32) (x4 : Int32) (x5 : Int32) (x7 : Int32) (σ : Sg) (Q : Int32 → Sg → Prop) : Prop :=
  lt (x7 + (-1)) fun x7_7 => (
  K112 x1 x2 x3 x4 x5 x7_7 σ)
def wX6_apply_112_b (K15 : Int32 → Int32 → Int32 → Int32 → Int32 → Sg → Prop) (K112 : Int32 → Int32 → Int32 → Int32 → Int32 → Int32 → Sg → Prop) (x1 : Int32) (x2 : Int32) (x3 : Int32) (x4 : Int32) (x5 : Int32) (x7 : Int32) (σ : Sg) (Q : Int32 → Sg → Prop) : Prop :=
    if x7 < 0 then (
      wX6_apply_199  K15 x1 x2 x3 x4 x5 σ Q)
    else (
      (vp_in x7 200) ∧ (
      lt (sI σ 18 (upd (σ.1 18) (Int32.toNatClampNeg x7) ((σ.1 18 (Int32.toNatClampNeg x7)) - 1))) fun σ_10 => (
      if (σ_10.1 18 (Int32.toNatClampNeg x7)) ≤ 0 then (
        (YC.2.1 (σ_10.2.2 16 3) = 4) ∧ (
        wX5_close (σ_10.2.2 16 3) (σ_10.1 17 (Int32.toNatClampNeg x7)) σ_10 fun  σ_13 => (
        (YC.2.1 (σ_13.2.2 16 2) = 4) ∧ (
        wX4_fire (σ_13.2.2 16 3) (σ_13.1 17 (Int32.toNatClampNeg x7)) x1 x2 (((σ_13.1 (σ_13.2.2 16 2) 3) - 1) - x5) σ_13 fun r_16 σ_15 => (
        if r_16 = 0 then (
          wX6_apply_193  K15 K112 x1 x2 x3 x7 x5 x7 σ_15 Q)
        else (
          lt (x3 + 1) fun x3_17 => (
          wX6_apply_193  K15 K112 x1 x2 x3_17 x7 x5 x7 σ_15 Q)))))))
      else (
        wX6_apply_199  K15 x1 x2 x3 x4 x5 σ_10 Q))))
def wX6_apply_112 (K15 : Int32 → Int32 → Int32 → Int32 → Int32 → Sg → Prop) (Q : Int32 → Sg → Prop) : Nat → Int32 → Int32 → Int32 → Int32 → Int32 → Int32 → Sg → Prop
  | 0 => fun _ _ _ _ _ _ _ => False
  | n + 1 => fun x1 x2 x3 x4 x5 x7 σ => wX6_apply_112_b K15 (wX6_apply_112 K15 Q n) x1 x2 x3 x4 x5 x7 σ Q
def wX6_apply_15_b  (K15 : Int32 → Int32 → Int32 → Int32 → Int32 → Sg → Prop) (x1 : Int32) (x2 : Int32) (x3 : Int32) (x4 : Int32) (x5 : Int32) (σ : Sg) (Q : Int32 → Sg → Prop) : Prop :=
    (YC.2.1 (σ.2.2 16 2) = 4) ∧ (
    if (σ.1 (σ.2.2 16 2) 3) ≤ x5 then (
      wX6_apply_205   x3 σ Q)
    else (
      if 200 ≤ x4 then (
        wX6_apply_205   x3 σ Q)
      else (
        wX5_kindOf (σ.2.2 16 2) x5 σ fun r_21 σ_20 => (
        (YC.2.1 (σ_20.2.2 16 2) = 4) ∧ (
        wX5_numberOf (σ_20.2.2 16 2) x5 σ_20 fun r_24 σ_23 => (
        (YC.2.1 (σ_20.2.2 16 3) = 4) ∧ (
        wX5_append (σ_20.2.2 16 3) r_21 r_24 σ_23 fun  σ_26 => (
        wX7_partsOf r_21 σ_26 fun r_28 σ_27 => (
        if r_28 ≤ 0 then (
          lt (x4 - 1) fun x7_29 => (
          ∃ nn, wX6_apply_112  K15 Q nn x1 x2 x3 x4 x5 x7_29 σ_27))
        else (
          (YC.2.1 (σ_27.2.2 16 3) = 4) ∧ (
          (vp_in x4 200) ∧ (
          lt (sI σ_27 17 (upd (σ_27.1 17) (Int32.toNatClampNeg x4) ((σ_27.1 (σ_27.2.2 16 3) 3) - 1))) fun σ_33 => (
          wX7_partsOf r_21 σ_33 fun r_36 σ_35 => (
          lt (sI σ_35 18 (upd (σ_35.1 18) (Int32.toNatClampNeg x4) r_36)) fun σ_37 => (
          lt (x4 + 1) fun x4_39 => (
          wX6_apply_199  K15 x1 x2 x3 x4_39 x5 σ_37 Q))))))))))))))))
def wX6_apply_15  (Q : Int32 → Sg → Prop) : Nat → Int32 → Int32 → Int32 → Int32 → Int32 → Sg → Prop
  | 0 => fun _ _ _ _ _ _ => False
  | n + 1 => fun x1 x2 x3 x4 x5 σ => wX6_apply_15_b  (wX6_apply_15  Q n) x1 x2 x3 x4 x5 σ Q
def wX6_apply  (x1 : Int32) (x2 : Int32) (σ : Sg) (Q : Int32 → Sg → Prop) : Prop :=
  (YC.2.1 (σ.2.2 16 3) = 4) ∧ (
  wX5_clear (σ.2.2 16 3) σ fun  σ_42 => (
  ∃ nn, wX6_apply_15   Q nn x1 x2 0 0 0 σ_42))
def wX7_nth  (x1 : Int32) (x2 : Int32) (x3 : Int64) (σ : Sg) (Q : Int32 → Sg → Prop) : Prop :=
  wX7_placeAt x1 σ fun o_2 σ_1 => (
  (o_2 = none → (
    Q (-1) σ_1)) ∧ ∀ z_3, o_2 = some z_3 → (
    wX7_within x2 1 15 σ_1 fun r_5 σ_4 => (
    if r_5 = 0 then (
      Q (-1) σ_4)
    else (
      if x3 < 0 then (
        Q (-1) σ_4)
      else (
        wX1_howMany x2 σ_4 fun r_7 σ_6 => (
        if x3 < r_7 then (
          wX1_unfold z_3 x2 x3 σ_6 fun  σ_8 => (
          (YC.2.1 z_3 = 4) ∧ (
          Q (σ_8.1 z_3 3) σ_8)))
        else (
          Q (-1) σ_6)))))))
def wX7_number  (x1 : Int32) (σ : Sg) (Q : Int64 → Sg → Prop) : Prop :=
  wX7_programAt x1 σ fun o_2 σ_1 => (
  (o_2 = none → (
    Q (-1) σ_1)) ∧ ∀ z_3, o_2 = some z_3 → (
    wX1_isNumbered z_3 σ_1 fun r_5 σ_4 => (
    if r_5 = 0 then (
      Q (-2) σ_4)
    else (
      wX1_rank z_3 σ_4 fun r_7 σ_6 => (
      Q r_7 σ_6)))))
def wX7_value  (x1 : Int32) (x2 : Int32) (x3 : Int32) (σ : Sg) (Q : Int32 → Sg → Prop) : Prop :=
  wX7_programAt x1 σ fun o_2 σ_1 => (
  (o_2 = none → (
    Q (-2000000000) σ_1)) ∧ ∀ z_3, o_2 = some z_3 → (
    wX0_write 27 z_3 σ_1 fun  σ_4 => (
    wX0_run 27 x2 x3 σ_4 fun r_6 σ_5 => (
    if r_6 = 0 then (
      Q (-2000000000) σ_5)
    else (
      Q (σ_5.1 27 10) σ_5)))))
def wX7_cause_66_b  (K66 : Int32 → Int32 → Nat → Int32 → Sg → Prop) (x3 : Int32) (x4 : Int32) (q5 : Nat) (x7 : Int32) (σ : Sg) (Q : Int32 → Sg → Prop) : Prop :=
    (YC.2.1 q5 = 2) ∧ (
    if (σ.1 q5 2) ≤ x7 then (
      Q (-2) σ)
    else (
      wX2_sortOf q5 x7 σ fun r_3 σ_2 => (
      wX2_faultOf q5 x7 σ_2 fun r_5 σ_4 => (
      wX6_apply r_3 r_5 σ_4 fun r_7 σ_6 => (
      wX0_write 34 (σ_6.2.2 16 2) σ_6 fun  σ_8 => (
      wX0_run 34 x3 x4 σ_8 fun r_10 σ_9 => (
      if r_10 = 0 then (
        Q x7 σ_9)
      else (
        if (σ_9.1 34 10) = (σ_9.1 27 10) then (
          lt (x7 + 1) fun x7_11 => (
          K66 x3 x4 q5 x7_11 σ_9))
        else (
          Q x7 σ_9)))))))))
def wX7_cause_66  (Q : Int32 → Sg → Prop) : Nat → Int32 → Int32 → Nat → Int32 → Sg → Prop
  | 0 => fun _ _ _ _ _ => False
  | n + 1 => fun x3 x4 q5 x7 σ => wX7_cause_66_b  (wX7_cause_66  Q n) x3 x4 q5 x7 σ Q
def wX7_cause  (x1 : Int32) (x2 : Int32) (x3 : Int32) (x4 : Int32) (σ : Sg) (Q : Int32 → Sg → Prop) : Prop :=
  wX7_makerAt x1 σ fun o_14 σ_13 => (
  wX7_programAt x2 σ_13 fun o_16 σ_15 => (
  (o_14 = none → (
    Q (-1) σ_15)) ∧ ∀ z_17, o_14 = some z_17 → (
    (o_16 = none → (
      Q (-1) σ_15)) ∧ ∀ z_18, o_16 = some z_18 → (
      wX0_write 27 z_18 σ_15 fun  σ_19 => (
      wX0_run 27 x3 x4 σ_19 fun r_21 σ_20 => (
      if r_21 = 0 then (
        Q (-2) σ_20)
      else (
        (YC.2.1 (σ_20.2.2 16 2) = 4) ∧ (
        wX5_become (σ_20.2.2 16 2) z_18 σ_20 fun  σ_23 => (
        ∃ nn, wX7_cause_66   Q nn x3 x4 z_17 0 σ_23)))))))))
def wX7_isSafe  (q1 : Nat) (x2 : Int32) (σ : Sg) (Q : Int32 → Sg → Prop) : Prop :=
  wX0_write 27 q1 σ fun  σ_1 => (
  wX0_isNeverFree 27 x2 σ_1 fun r_3 σ_2 => (
  (r_3 = 0 ∨ r_3 = 1) ∧ (
  Q r_3 σ_2)))
def wX7_showsFault_157 (K64 : Int32 → Int32 → Int32 → Int32 → Int32 → Sg → Prop) (K74 : Int32 → Int32 → Int32 → Int32 → Int32 → Int32 → Sg → Prop) (x2 : Int32) (x3 : Int32) (x4 : Int32) (x5 : Int32) (x6 : Int32) (x7 : Int32) (σ : Sg) (Q : Int32 → Sg → Prop) : Prop :=
  lt (x7 + 1) fun x7_1 => (
  K74 x2 x3 x4 x5 x6 x7_1 σ)
def wX7_showsFault_138 (K64 : Int32 → Int32 → Int32 → Int32 → Int32 → Sg → Prop) (K74 : Int32 → Int32 → Int32 → Int32 → Int32 → Int32 → Sg → Prop) (x2 : Int32) (x3 : Int32) (x4 : Int32) (x6 : Int32) (x7 : Int32) (s0 : Int32) (σ : Sg) (Q : Int32 → Sg → Prop) : Prop :=
  if s0 = 0 then (
    wX7_showsFault_157  K64 K74 x2 x3 x4 s0 x6 x7 σ Q)
  else (
    if (σ.1 27 5) = 0 then (
      Q 1 σ)
    else (
      wX7_showsFault_157  K64 K74 x2 x3 x4 s0 x6 x7 σ Q))
def wX7_showsFault_133 (K64 : Int32 → Int32 → Int32 → Int32 → Int32 → Sg → Prop) (K74 : Int32 → Int32 → Int32 → Int32 → Int32 → Int32 → Sg → Prop) (x2 : Int32) (x3 : Int32) (x4 : Int32) (x6 : Int32) (x7 : Int32) (σ : Sg) (Q : Int32 → Sg → Prop) : Prop :=
  wX7_showsFault_138  K64 K74 x2 x3 x4 x6 x7 1 σ Q
def wX7_showsFault_74_b (K64 : Int32 → Int32 → Int32 → Int32 → Int32 → Sg → Prop) (K74 : Int32 → Int32 → Int32 → Int32 → Int32 → Int32 → Sg → Prop) (x2 : Int32) (x3 : Int32) (x4 : Int32) (x5 : Int32) (x6 : Int32) (x7 : Int32) (σ : Sg) (Q : Int32 → Sg → Prop) : Prop :=
    if x4 < x7 then (
      lt (x6 + 1) fun x6_3 => (
      K64 x2 x3 x4 x5 x6_3 σ))
    else (
      wX0_run 27 x6 x7 σ fun r_6 σ_5 => (
      if r_6 = 0 then (
        Q 0 σ_5)
      else (
        if x5 = 0 then (
          wX0_run 34 x6 x7 σ_5 fun r_8 σ_7 => (
          if r_8 = 0 then (
            wX7_showsFault_133  K64 K74 x2 x3 x4 x6 x7 σ_7 Q)
          else (
            if (σ_7.1 34 10) = (σ_7.1 27 10) then (
              wX7_showsFault_138  K64 K74 x2 x3 x4 x6 x7 0 σ_7 Q)
            else (
              wX7_showsFault_133  K64 K74 x2 x3 x4 x6 x7 σ_7 Q))))
        else (
          wX7_showsFault_133  K64 K74 x2 x3 x4 x6 x7 σ_5 Q))))
def wX7_showsFault_74 (K64 : Int32 → Int32 → Int32 → Int32 → Int32 → Sg → Prop) (Q : Int32 → Sg → Prop) : Nat → Int32 → Int32 → Int32 → Int32 → Int32 → Int32 → Sg → Prop
  | 0 => fun _ _ _ _ _ _ _ => False
  | n + 1 => fun x2 x3 x4 x5 x6 x7 σ => wX7_showsFault_74_b K64 (wX7_showsFault_74 K64 Q n) x2 x3 x4 x5 x6 x7 σ Q
def wX7_showsFault_64_b  (K64 : Int32 → Int32 → Int32 → Int32 → Int32 → Sg → Prop) (x2 : Int32) (x3 : Int32) (x4 : Int32) (x5 : Int32) (x6 : Int32) (σ : Sg) (Q : Int32 → Sg → Prop) : Prop :=
    if x3 < x6 then (
      (x5 = 0 ∨ x5 = 1) ∧ (
      Q x5 σ))
    else (
      lt (-x2) fun x7_10 => (
      ∃ nn, wX7_showsFault_74  K64 Q nn x2 x3 x4 x5 x6 x7_10 σ))
def wX7_showsFault_64  (Q : Int32 → Sg → Prop) : Nat → Int32 → Int32 → Int32 → Int32 → Int32 → Sg → Prop
  | 0 => fun _ _ _ _ _ _ => False
  | n + 1 => fun x2 x3 x4 x5 x6 σ => wX7_showsFault_64_b  (wX7_showsFault_64  Q n) x2 x3 x4 x5 x6 σ Q
def wX7_showsFault_55  (x2 : Int32) (x3 : Int32) (s0 : Int32) (σ : Sg) (Q : Int32 → Sg → Prop) : Prop :=
  lt (-x2) fun x6_12 => (
  ∃ nn, wX7_showsFault_64   Q nn x2 x3 s0 0 x6_12 σ)
def wX7_showsFault_38  (x2 : Int32) (s0 : Int32) (σ : Sg) (Q : Int32 → Sg → Prop) : Prop :=
  if (σ.1 27 4) = 0 then (
    wX7_showsFault_55   x2 s0 (-x2) σ Q)
  else (
    wX7_showsFault_55   x2 s0 x2 σ Q)
def wX7_showsFault  (q1 : Nat) (x2 : Int32) (σ : Sg) (Q : Int32 → Sg → Prop) : Prop :=
  wX0_write 27 q1 σ fun  σ_14 => (
  wX0_write 34 (σ_14.2.2 16 2) σ_14 fun  σ_15 => (
  if (σ_15.1 27 3) = 0 then (
    wX7_showsFault_38   x2 (-x2) σ_15 Q)
  else (
    wX7_showsFault_38   x2 x2 σ_15 Q)))
def wX6_make_14_b  (K14 : Nat → Int32 → Int32 → Int32 → Sg → Prop) (q1 : Nat) (x3 : Int32) (x4 : Int32) (x5 : Int32) (σ : Sg) (Q : Int32 → Sg → Prop) : Prop :=
    if x3 ≤ x5 then (
      Q x4 σ)
    else (
      (YC.2.1 q1 = 2) ∧ (
      wX2_sortOf q1 x5 σ fun r_3 σ_2 => (
      wX2_faultOf q1 x5 σ_2 fun r_5 σ_4 => (
      wX6_apply r_3 r_5 σ_4 fun r_7 σ_6 => (
      lt (x4 + r_7) fun x4_8 => (
      lt (x5 + 1) fun x5_10 => (
      K14 q1 x3 x4_8 x5_10 σ_6)))))))
def wX6_make_14  (Q : Int32 → Sg → Prop) : Nat → Nat → Int32 → Int32 → Int32 → Sg → Prop
  | 0 => fun _ _ _ _ _ => False
  | n + 1 => fun q1 x3 x4 x5 σ => wX6_make_14_b  (wX6_make_14  Q n) q1 x3 x4 x5 σ Q
def wX6_make  (q1 : Nat) (q2 : Nat) (x3 : Int32) (σ : Sg) (Q : Int32 → Sg → Prop) : Prop :=
  (YC.2.1 (σ.2.2 16 2) = 4) ∧ (
  wX5_become (σ.2.2 16 2) q2 σ fun  σ_13 => (
  ∃ nn, wX6_make_14   Q nn q1 x3 0 0 σ_13))
def wX6_firings  (q1 : Nat) (q2 : Nat) (x3 : Int32) (σ : Sg) (Q : Int32 → Sg → Prop) : Prop :=
  wX6_make q1 q2 x3 σ fun r_2 σ_1 => (
  (YC.2.1 q1 = 2) ∧ (
  wX2_sortOf q1 x3 σ_1 fun r_5 σ_4 => (
  wX2_faultOf q1 x3 σ_4 fun r_7 σ_6 => (
  wX6_apply r_5 r_7 σ_6 fun r_9 σ_8 => (
  Q r_9 σ_8)))))
def wX6_firingTurns_48 (K13 : Nat → Int32 → Int32 → Sg → Prop) (q1 : Nat) (x3 : Int32) (x4 : Int32) (σ : Sg) (Q : Int32 → Sg → Prop) : Prop :=
  lt (x4 + 1) fun x4_1 => (
  K13 q1 x3 x4_1 σ)
def wX6_firingTurns_13_b  (K13 : Nat → Int32 → Int32 → Sg → Prop) (q1 : Nat) (x3 : Int32) (x4 : Int32) (σ : Sg) (Q : Int32 → Sg → Prop) : Prop :=
    (YC.2.1 q1 = 2) ∧ (
    if (σ.1 q1 2) ≤ x4 then (
      Q x3 σ)
    else (
      wX2_sortOf q1 x4 σ fun r_5 σ_4 => (
      wX2_faultOf q1 x4 σ_4 fun r_7 σ_6 => (
      wX6_apply r_5 r_7 σ_6 fun r_9 σ_8 => (
      if r_9 ≤ 0 then (
        wX6_firingTurns_48  K13 q1 x3 x4 σ_8 Q)
      else (
        lt (x3 ||| ((1 : Int32) <<< (x4 &&& 31))) fun x3_10 => (
        wX6_firingTurns_48  K13 q1 x3_10 x4 σ_8 Q)))))))
def wX6_firingTurns_13  (Q : Int32 → Sg → Prop) : Nat → Nat → Int32 → Int32 → Sg → Prop
  | 0 => fun _ _ _ _ => False
  | n + 1 => fun q1 x3 x4 σ => wX6_firingTurns_13_b  (wX6_firingTurns_13  Q n) q1 x3 x4 σ Q
def wX6_firingTurns  (q1 : Nat) (q2 : Nat) (σ : Sg) (Q : Int32 → Sg → Prop) : Prop :=
  (YC.2.1 (σ.2.2 16 2) = 4) ∧ (
  wX5_become (σ.2.2 16 2) q2 σ fun  σ_13 => (
  ∃ nn, wX6_firingTurns_13   Q nn q1 0 0 σ_13))
def wX7_safe  (x1 : Int32) (x2 : Int32) (σ : Sg) (Q : Int32 → Sg → Prop) : Prop :=
  wX7_programAt x1 σ fun o_2 σ_1 => (
  (o_2 = none → (
    Q (-1) σ_1)) ∧ ∀ z_3, o_2 = some z_3 → (
    wX7_within x2 0 6 σ_1 fun r_5 σ_4 => (
    if r_5 = 0 then (
      Q (-1) σ_4)
    else (
      wX7_isSafe z_3 x2 σ_4 fun r_7 σ_6 => (
      if r_7 = 0 then (
        Q 0 σ_6)
      else (
        Q 1 σ_6))))))
def wX7_made  (x1 : Int32) (x2 : Int32) (x3 : Int32) (σ : Sg) (Q : Int32 → Sg → Prop) : Prop :=
  wX7_makerAt x1 σ fun o_2 σ_1 => (
  wX7_programAt x2 σ_1 fun o_4 σ_3 => (
  (o_2 = none → (
    Q (-1) σ_3)) ∧ ∀ z_5, o_2 = some z_5 → (
    (o_4 = none → (
      Q (-1) σ_3)) ∧ ∀ z_6, o_4 = some z_6 → (
      (YC.2.1 z_5 = 2) ∧ (
      wX7_within x3 0 (σ_3.1 z_5 2) σ_3 fun r_9 σ_8 => (
      if r_9 = 0 then (
        Q (-1) σ_8)
      else (
        wX6_make z_5 z_6 x3 σ_8 fun r_11 σ_10 => (
        wX5_become 41 (σ_10.2.2 16 2) σ_10 fun  σ_12 => (
        Q (σ_12.1 41 3) σ_12)))))))))
def wX7_fires  (x1 : Int32) (x2 : Int32) (x3 : Int32) (σ : Sg) (Q : Int32 → Sg → Prop) : Prop :=
  wX7_makerAt x1 σ fun o_2 σ_1 => (
  wX7_programAt x2 σ_1 fun o_4 σ_3 => (
  (o_2 = none → (
    Q (-1) σ_3)) ∧ ∀ z_5, o_2 = some z_5 → (
    (o_4 = none → (
      Q (-1) σ_3)) ∧ ∀ z_6, o_4 = some z_6 → (
      (YC.2.1 z_5 = 2) ∧ (
      wX2_has z_5 x3 σ_3 fun r_9 σ_8 => (
      if r_9 = 0 then (
        Q (-1) σ_8)
      else (
        wX6_firings z_5 z_6 x3 σ_8 fun r_11 σ_10 => (
        Q r_11 σ_10))))))))
def wX7_never_59 (K24 : Nat → Int32 → Int32 → Sg → Prop) (q2 : Nat) (x3 : Int32) (x4 : Int32) (σ : Sg) (Q : Int32 → Sg → Prop) : Prop :=
  lt (x4 + 1) fun x4_1 => (
  K24 q2 x3 x4_1 σ)
def wX7_never_24_b  (K24 : Nat → Int32 → Int32 → Sg → Prop) (q2 : Nat) (x3 : Int32) (x4 : Int32) (σ : Sg) (Q : Int32 → Sg → Prop) : Prop :=
    if 20 ≤ x4 then (
      Q x3 σ)
    else (
      wX7_programAt x4 σ fun o_4 σ_3 => (
      (o_4 = none → (
        wX7_never_59  K24 q2 x3 x4 σ_3 Q)) ∧ ∀ z_5, o_4 = some z_5 → (
        wX6_firingTurns q2 z_5 σ_3 fun r_7 σ_6 => (
        lt (x3 &&& (r_7 ^^^ (-1))) fun x3_8 => (
        wX7_never_59  K24 q2 x3_8 x4 σ_6 Q)))))
def wX7_never_24  (Q : Int32 → Sg → Prop) : Nat → Nat → Int32 → Int32 → Sg → Prop
  | 0 => fun _ _ _ _ => False
  | n + 1 => fun q2 x3 x4 σ => wX7_never_24_b  (wX7_never_24  Q n) q2 x3 x4 σ Q
def wX7_never  (x1 : Int32) (σ : Sg) (Q : Int32 → Sg → Prop) : Prop :=
  wX7_makerAt x1 σ fun o_11 σ_10 => (
  (o_11 = none → (
    Q (-1) σ_10)) ∧ ∀ z_12, o_11 = some z_12 → (
    (YC.2.1 z_12 = 2) ∧ (
    lt (((1 : Int32) <<< ((σ_10.1 z_12 2) &&& 31)) - 1) fun x3_14 => (
    ∃ nn, wX7_never_24   Q nn z_12 x3_14 0 σ_10))))
def wX7_least_57_b (K37 : Int32 → Int32 → Nat → Int32 → Sg → Prop) (K57 : Int32 → Int32 → Nat → Int32 → Int64 → Int64 → Sg → Prop) (x2 : Int32) (x3 : Int32) (q4 : Nat) (x5 : Int32) (x6 : Int64) (x8 : Int64) (σ : Sg) (Q : Int64 → Sg → Prop) : Prop :=
    if x6 ≤ x8 then (
      lt (x5 + 1) fun x5_1 => (
      K37 x2 x3 q4 x5_1 σ))
    else (
      wX1_unfold 45 x5 x8 σ fun  σ_3 => (
      wX6_firings q4 45 x2 σ_3 fun r_5 σ_4 => (
      if r_5 ≤ 0 then (
        lt (x8 + 1) fun x8_6 => (
        K57 x2 x3 q4 x5 x6 x8_6 σ_4))
      else (
        Q ((16 * x8) + (Int32.toInt64 x5)) σ_4))))
def wX7_least_57 (K37 : Int32 → Int32 → Nat → Int32 → Sg → Prop) (Q : Int64 → Sg → Prop) : Nat → Int32 → Int32 → Nat → Int32 → Int64 → Int64 → Sg → Prop
  | 0 => fun _ _ _ _ _ _ _ => False
  | n + 1 => fun x2 x3 q4 x5 x6 x8 σ => wX7_least_57_b K37 (wX7_least_57 K37 Q n) x2 x3 q4 x5 x6 x8 σ Q
def wX7_least_37_b  (K37 : Int32 → Int32 → Nat → Int32 → Sg → Prop) (x2 : Int32) (x3 : Int32) (q4 : Nat) (x5 : Int32) (σ : Sg) (Q : Int64 → Sg → Prop) : Prop :=
    if x3 < x5 then (
      Q (-5) σ)
    else (
      wX1_howMany x5 σ fun r_9 σ_8 => (
      ∃ nn, wX7_least_57  K37 Q nn x2 x3 q4 x5 r_9 0 σ_8))
def wX7_least_37  (Q : Int64 → Sg → Prop) : Nat → Int32 → Int32 → Nat → Int32 → Sg → Prop
  | 0 => fun _ _ _ _ _ => False
  | n + 1 => fun x2 x3 q4 x5 σ => wX7_least_37_b  (wX7_least_37  Q n) x2 x3 q4 x5 σ Q
def wX7_least  (x1 : Int32) (x2 : Int32) (x3 : Int32) (σ : Sg) (Q : Int64 → Sg → Prop) : Prop :=
  wX7_makerAt x1 σ fun o_11 σ_10 => (
  (o_11 = none → (
    Q (-1) σ_10)) ∧ ∀ z_12, o_11 = some z_12 → (
    (YC.2.1 z_12 = 2) ∧ (
    wX2_has z_12 x2 σ_10 fun r_15 σ_14 => (
    if r_15 = 0 then (
      Q (-1) σ_14)
    else (
      wX7_within x3 1 5 σ_14 fun r_17 σ_16 => (
      if r_17 = 0 then (
        Q (-1) σ_16)
      else (
        ∃ nn, wX7_least_37   Q nn x2 x3 z_12 1 σ_16)))))))
def wX7_write  (x1 : Int32) (x2 : Int32) (σ : Sg) (Q : Int32 → Sg → Prop) : Prop :=
  wX7_makerAt x1 σ fun o_2 σ_1 => (
  wX7_programAt x2 σ_1 fun o_4 σ_3 => (
  (o_2 = none → (
    Q 0 σ_3)) ∧ ∀ z_5, o_2 = some z_5 → (
    (o_4 = none → (
      Q 0 σ_3)) ∧ ∀ z_6, o_4 = some z_6 → (
      (YC.2.1 z_5 = 2) ∧ (
      wX6_make z_5 z_6 (σ_3.1 z_5 2) σ_3 fun r_9 σ_8 => (
      wX0_write 27 z_6 σ_8 fun  σ_10 => (
      wX0_write 34 (σ_10.2.2 16 2) σ_10 fun  σ_11 => (
      Q 1 σ_11))))))))
def wX7_isFaulty  (q1 : Nat) (q2 : Nat) (x3 : Int32) (σ : Sg) (Q : Int32 → Sg → Prop) : Prop :=
  (YC.2.1 q1 = 2) ∧ (
  wX6_make q1 q2 (σ.1 q1 2) σ fun r_3 σ_2 => (
  if r_3 ≤ 0 then (
    Q 0 σ_2)
  else (
    wX7_showsFault q2 x3 σ_2 fun r_5 σ_4 => (
    if r_5 = 0 then (
      Q 0 σ_4)
    else (
      Q 1 σ_4)))))
def wX7_shrink_146 (K3 : Nat → Nat → Int32 → Int32 → Sg → Prop) (K32 : Nat → Nat → Int32 → Int32 → Int32 → Int32 → Int32 → Sg → Prop) (q1 : Nat) (q2 : Nat) (x3 : Int32) (x4 : Int32) (x5 : Int32) (x6 : Int32) (x7 : Int32) (σ : Sg) (Q : Int32 → Sg → Prop) : Prop :=
  lt (x7 + 1) fun x7_1 => (
  K32 q1 q2 x3 x4 x5 x6 x7_1 σ)
def wX7_shrink_138 (K3 : Nat → Nat → Int32 → Int32 → Sg → Prop) (K32 : Nat → Nat → Int32 → Int32 → Int32 → Int32 → Int32 → Sg → Prop) (q1 : Nat) (q2 : Nat) (x3 : Int32) (x4 : Int32) (x5 : Int32) (x6 : Int32) (x7 : Int32) (σ : Sg) (Q : Int32 → Sg → Prop) : Prop :=
  (YC.2.1 q2 = 4) ∧ (
  wX5_behind q2 x6 σ fun r_5 σ_4 => (
  wX7_shrink_146  K3 K32 q1 q2 x3 x4 x5 r_5 x7 σ_4 Q))
def wX7_shrink_102 (K3 : Nat → Nat → Int32 → Int32 → Sg → Prop) (K32 : Nat → Nat → Int32 → Int32 → Int32 → Int32 → Int32 → Sg → Prop) (q1 : Nat) (q2 : Nat) (x3 : Int32) (x4 : Int32) (x5 : Int32) (x6 : Int32) (x7 : Int32) (s0 : Nat) (s1 : Nat) (s2 : Int32) (s3 : Nat) (s4 : Int32) (σ : Sg) (Q : Int32 → Sg → Prop) : Prop :=
  (YC.2.1 s0 = 4) ∧ (
  wX5_join s0 s1 s2 s3 s4 σ fun  σ_7 => (
  (YC.2.1 q1 = 2) ∧ (
  wX6_make q1 45 (σ_7.1 q1 2) σ_7 fun r_10 σ_9 => (
  if r_10 ≤ 0 then (
    wX7_shrink_138  K3 K32 q1 q2 x3 x4 x5 x6 x7 σ_9 Q)
  else (
    wX7_showsFault 45 x3 σ_9 fun r_12 σ_11 => (
    if r_12 = 0 then (
      wX7_shrink_138  K3 K32 q1 q2 x3 x4 x5 x6 x7 σ_11 Q)
    else (
      Q 1 σ_11)))))))
def wX7_shrink_91 (K3 : Nat → Nat → Int32 → Int32 → Sg → Prop) (K32 : Nat → Nat → Int32 → Int32 → Int32 → Int32 → Int32 → Sg → Prop) (q1 : Nat) (q2 : Nat) (x3 : Int32) (x4 : Int32) (x5 : Int32) (x6 : Int32) (x7 : Int32) (x8 : Int32) (s0 : Nat) (s1 : Nat) (s2 : Int32) (s3 : Nat) (σ : Sg) (Q : Int32 → Sg → Prop) : Prop :=
  if x8 = 0 then (
    wX7_shrink_102  K3 K32 q1 q2 x3 x4 x5 x6 x7 s0 s1 s2 s3 x6 σ Q)
  else (
    wX7_shrink_102  K3 K32 q1 q2 x3 x4 x5 x6 x7 s0 s1 s2 s3 0 σ Q)
def wX7_shrink_71 (K3 : Nat → Nat → Int32 → Int32 → Sg → Prop) (K32 : Nat → Nat → Int32 → Int32 → Int32 → Int32 → Int32 → Sg → Prop) (q1 : Nat) (q2 : Nat) (x3 : Int32) (x4 : Int32) (x5 : Int32) (x6 : Int32) (x7 : Int32) (x8 : Int32) (σ : Sg) (Q : Int32 → Sg → Prop) : Prop :=
  if x8 = 0 then (
    wX7_shrink_91  K3 K32 q1 q2 x3 x4 x5 x6 x7 x8 45 q2 x4 q2 σ Q)
  else (
    wX7_shrink_91  K3 K32 q1 q2 x3 x4 x5 x6 x7 x8 45 q2 x4 49 σ Q)
def wX7_shrink_51 (K3 : Nat → Nat → Int32 → Int32 → Sg → Prop) (K32 : Nat → Nat → Int32 → Int32 → Int32 → Int32 → Int32 → Sg → Prop) (q1 : Nat) (q2 : Nat) (x3 : Int32) (x4 : Int32) (x5 : Int32) (x6 : Int32) (x7 : Int32) (s0 : Int32) (σ : Sg) (Q : Int32 → Sg → Prop) : Prop :=
  if s0 = 0 then (
    wX7_shrink_71  K3 K32 q1 q2 x3 x4 x5 x6 x7 s0 σ Q)
  else (
    (YC.2.1 q2 = 4) ∧ (
    wX5_isNumber q2 x4 0 σ fun r_15 σ_14 => (
    if r_15 = 0 then (
      wX7_shrink_71  K3 K32 q1 q2 x3 x4 x5 x6 x7 s0 σ_14 Q)
    else (
      wX7_shrink_146  K3 K32 q1 q2 x3 x4 x5 x6 x7 σ_14 Q))))
def wX7_shrink_32_b (K3 : Nat → Nat → Int32 → Int32 → Sg → Prop) (K32 : Nat → Nat → Int32 → Int32 → Int32 → Int32 → Int32 → Sg → Prop) (q1 : Nat) (q2 : Nat) (x3 : Int32) (x4 : Int32) (x5 : Int32) (x6 : Int32) (x7 : Int32) (σ : Sg) (Q : Int32 → Sg → Prop) : Prop :=
    if x5 < x7 then (
      lt (x4 + 1) fun x4_16 => (
      K3 q1 q2 x3 x4_16 σ))
    else (
      if x7 = x5 then (
        wX7_shrink_51  K3 K32 q1 q2 x3 x4 x5 x6 x7 1 σ Q)
      else (
        wX7_shrink_51  K3 K32 q1 q2 x3 x4 x5 x6 x7 0 σ Q))
def wX7_shrink_32 (K3 : Nat → Nat → Int32 → Int32 → Sg → Prop) (Q : Int32 → Sg → Prop) : Nat → Nat → Nat → Int32 → Int32 → Int32 → Int32 → Int32 → Sg → Prop
  | 0 => fun _ _ _ _ _ _ _ _ => False
  | n + 1 => fun q1 q2 x3 x4 x5 x6 x7 σ => wX7_shrink_32_b K3 (wX7_shrink_32 K3 Q n) q1 q2 x3 x4 x5 x6 x7 σ Q
def wX7_shrink_3_b  (K3 : Nat → Nat → Int32 → Int32 → Sg → Prop) (q1 : Nat) (q2 : Nat) (x3 : Int32) (x4 : Int32) (σ : Sg) (Q : Int32 → Sg → Prop) : Prop :=
    (YC.2.1 q2 = 4) ∧ (
    if (σ.1 q2 3) ≤ x4 then (
      Q 0 σ)
    else (
      wX5_kindOf q2 x4 σ fun r_20 σ_19 => (
      wX7_partsOf r_20 σ_19 fun r_22 σ_21 => (
      lt (x4 + 1) fun x6_23 => (
      ∃ nn, wX7_shrink_32  K3 Q nn q1 q2 x3 x4 r_22 x6_23 0 σ_21)))))
def wX7_shrink_3  (Q : Int32 → Sg → Prop) : Nat → Nat → Nat → Int32 → Int32 → Sg → Prop
  | 0 => fun _ _ _ _ _ => False
  | n + 1 => fun q1 q2 x3 x4 σ => wX7_shrink_3_b  (wX7_shrink_3  Q n) q1 q2 x3 x4 σ Q
def wX7_shrink  (q1 : Nat) (q2 : Nat) (x3 : Int32) (σ : Sg) (Q : Int32 → Sg → Prop) : Prop :=
  ∃ nn, wX7_shrink_3   Q nn q1 q2 x3 0 σ
def wX7_answer  (x1 : Int32) (x2 : Int32) (x3 : Int32) (x4 : Int32) (σ : Sg) (Q : Int32 → Sg → Prop) : Prop :=
  wX7_write x1 x2 σ fun r_2 σ_1 => (
  if r_2 = 0 then (
    Q (-2000000000) σ_1)
  else (
    wX0_run 34 x3 x4 σ_1 fun r_4 σ_3 => (
    if r_4 = 0 then (
      Q (-2000000000) σ_3)
    else (
      Q (σ_3.1 34 10) σ_3))))
def wX7_cost  (x1 : Int32) (x2 : Int32) (x3 : Int32) (x4 : Int32) (σ : Sg) (Q : Int32 → Sg → Prop) : Prop :=
  wX7_write x1 x2 σ fun r_2 σ_1 => (
  if r_2 = 0 then (
    Q (-1) σ_1)
  else (
    wX0_run 34 x3 x4 σ_1 fun r_4 σ_3 => (
    Q (σ_3.1 34 11) σ_3)))
def wX7_differ_72 (K42 : Int32 → Int32 → Int32 → Sg → Prop) (K52 : Int32 → Int32 → Int32 → Int32 → Sg → Prop) (x3 : Int32) (x4 : Int32) (x5 : Int32) (x6 : Int32) (σ : Sg) (Q : Int32 → Sg → Prop) : Prop :=
  lt (x6 + 1) fun x6_1 => (
  K52 x3 x4 x5 x6_1 σ)
def wX7_differ_52_b (K42 : Int32 → Int32 → Int32 → Sg → Prop) (K52 : Int32 → Int32 → Int32 → Int32 → Sg → Prop) (x3 : Int32) (x4 : Int32) (x5 : Int32) (x6 : Int32) (σ : Sg) (Q : Int32 → Sg → Prop) : Prop :=
    if x3 < x6 then (
      lt (x5 + 1) fun x5_3 => (
      K42 x3 x4 x5_3 σ))
    else (
      wX7_isWrongAt x5 x6 σ fun r_6 σ_5 => (
      if r_6 = 0 then (
        wX7_differ_72  K42 K52 x3 x4 x5 x6 σ_5 Q)
      else (
        lt (x4 + 1) fun x4_7 => (
        wX7_differ_72  K42 K52 x3 x4_7 x5 x6 σ_5 Q))))
def wX7_differ_52 (K42 : Int32 → Int32 → Int32 → Sg → Prop) (Q : Int32 → Sg → Prop) : Nat → Int32 → Int32 → Int32 → Int32 → Sg → Prop
  | 0 => fun _ _ _ _ _ => False
  | n + 1 => fun x3 x4 x5 x6 σ => wX7_differ_52_b K42 (wX7_differ_52 K42 Q n) x3 x4 x5 x6 σ Q
def wX7_differ_42_b  (K42 : Int32 → Int32 → Int32 → Sg → Prop) (x3 : Int32) (x4 : Int32) (x5 : Int32) (σ : Sg) (Q : Int32 → Sg → Prop) : Prop :=
    if x3 < x5 then (
      Q x4 σ)
    else (
      lt (-x3) fun x6_9 => (
      ∃ nn, wX7_differ_52  K42 Q nn x3 x4 x5 x6_9 σ))
def wX7_differ_42  (Q : Int32 → Sg → Prop) : Nat → Int32 → Int32 → Int32 → Sg → Prop
  | 0 => fun _ _ _ _ => False
  | n + 1 => fun x3 x4 x5 σ => wX7_differ_42_b  (wX7_differ_42  Q n) x3 x4 x5 σ Q
def wX7_differ  (x1 : Int32) (x2 : Int32) (x3 : Int32) (σ : Sg) (Q : Int32 → Sg → Prop) : Prop :=
  wX7_within x3 0 6 σ fun r_12 σ_11 => (
  if r_12 = 0 then (
    Q (-1) σ_11)
  else (
    wX7_write x1 x2 σ_11 fun r_14 σ_13 => (
    if r_14 = 0 then (
      Q (-1) σ_13)
    else (
      wX0_isNeverFree 27 x3 σ_13 fun r_16 σ_15 => (
      if r_16 = 0 then (
        Q (-2) σ_15)
      else (
        lt (-x3) fun x5_17 => (
        ∃ nn, wX7_differ_42   Q nn x3 0 x5_17 σ_15)))))))
def wX7_first_49_b (K39 : Int32 → Int32 → Sg → Prop) (K49 : Int32 → Int32 → Int32 → Sg → Prop) (x3 : Int32) (x4 : Int32) (x5 : Int32) (σ : Sg) (Q : Int32 → Sg → Prop) : Prop :=
    if x3 < x5 then (
      lt (x4 + 1) fun x4_1 => (
      K39 x3 x4_1 σ))
    else (
      wX7_isWrongAt x4 x5 σ fun r_4 σ_3 => (
      if r_4 = 0 then (
        lt (x5 + 1) fun x5_5 => (
        K49 x3 x4 x5_5 σ_3))
      else (
        Q (((100 * (x4 + 6)) + x5) + 6) σ_3)))
def wX7_first_49 (K39 : Int32 → Int32 → Sg → Prop) (Q : Int32 → Sg → Prop) : Nat → Int32 → Int32 → Int32 → Sg → Prop
  | 0 => fun _ _ _ _ => False
  | n + 1 => fun x3 x4 x5 σ => wX7_first_49_b K39 (wX7_first_49 K39 Q n) x3 x4 x5 σ Q
def wX7_first_39_b  (K39 : Int32 → Int32 → Sg → Prop) (x3 : Int32) (x4 : Int32) (σ : Sg) (Q : Int32 → Sg → Prop) : Prop :=
    if x3 < x4 then (
      Q (-5) σ)
    else (
      lt (-x3) fun x5_7 => (
      ∃ nn, wX7_first_49  K39 Q nn x3 x4 x5_7 σ))
def wX7_first_39  (Q : Int32 → Sg → Prop) : Nat → Int32 → Int32 → Sg → Prop
  | 0 => fun _ _ _ => False
  | n + 1 => fun x3 x4 σ => wX7_first_39_b  (wX7_first_39  Q n) x3 x4 σ Q
def wX7_first  (x1 : Int32) (x2 : Int32) (x3 : Int32) (σ : Sg) (Q : Int32 → Sg → Prop) : Prop :=
  wX7_within x3 0 6 σ fun r_10 σ_9 => (
  if r_10 = 0 then (
    Q (-1) σ_9)
  else (
    wX7_write x1 x2 σ_9 fun r_12 σ_11 => (
    if r_12 = 0 then (
      Q (-1) σ_11)
    else (
      wX0_isNeverFree 27 x3 σ_11 fun r_14 σ_13 => (
      if r_14 = 0 then (
        Q (-2) σ_13)
      else (
        lt (-x3) fun x4_15 => (
        ∃ nn, wX7_first_39   Q nn x3 x4_15 σ_13)))))))
def wX7_small_92  (q5 : Nat) (x6 : Int32) (σ : Sg) (Q : Int32 → Sg → Prop) : Prop :=
  lt (sI σ 0 (upd (σ.1 0) 11 x6)) fun σ_1 => (
  (YC.2.1 q5 = 4) ∧ (
  Q (σ_1.1 q5 3) σ_1))
def wX7_small_58_b  (K58 : Int32 → Nat → Nat → Int32 → Int32 → Sg → Prop) (x3 : Int32) (q4 : Nat) (q5 : Nat) (x6 : Int32) (x7 : Int32) (σ : Sg) (Q : Int32 → Sg → Prop) : Prop :=
    if x7 ≤ x6 then (
      wX7_small_92   q5 x6 σ Q)
    else (
      wX7_shrink q4 q5 x3 σ fun r_5 σ_4 => (
      if r_5 = 0 then (
        wX7_small_92   q5 x6 σ_4 Q)
      else (
        (YC.2.1 q5 = 4) ∧ (
        wX5_become q5 45 σ_4 fun  σ_7 => (
        lt (x6 + 1) fun x6_8 => (
        K58 x3 q4 q5 x6_8 x7 σ_7))))))
def wX7_small_58  (Q : Int32 → Sg → Prop) : Nat → Int32 → Nat → Nat → Int32 → Int32 → Sg → Prop
  | 0 => fun _ _ _ _ _ _ => False
  | n + 1 => fun x3 q4 q5 x6 x7 σ => wX7_small_58_b  (wX7_small_58  Q n) x3 q4 q5 x6 x7 σ Q
def wX7_small  (x1 : Int32) (x2 : Int32) (x3 : Int32) (σ : Sg) (Q : Int32 → Sg → Prop) : Prop :=
  wX7_makerAt x1 σ fun o_11 σ_10 => (
  wX7_programAt x2 σ_10 fun o_13 σ_12 => (
  (o_11 = none → (
    Q (-1) σ_12)) ∧ ∀ z_14, o_11 = some z_14 → (
    (o_13 = none → (
      Q (-1) σ_12)) ∧ ∀ z_15, o_13 = some z_15 → (
      wX7_within x3 0 6 σ_12 fun r_17 σ_16 => (
      if r_17 = 0 then (
        Q (-1) σ_16)
      else (
        wX7_isFaulty z_14 z_15 x3 σ_16 fun r_19 σ_18 => (
        if r_19 = 0 then (
          Q (-2) σ_18)
        else (
          ∃ nn, wX7_small_58   Q nn x3 z_14 z_15 0 120 σ_18))))))))
def wX7_shown_117 (K58 : Int32 → Int32 → Int32 → Nat → Int32 → Int64 → Int64 → Sg → Prop) (x2 : Int32) (x3 : Int32) (x4 : Int32) (q5 : Nat) (x6 : Int32) (x7 : Int64) (x9 : Int64) (σ : Sg) (Q : Int32 → Sg → Prop) : Prop :=
  lt (x9 + 1) fun x9_1 => (
  K58 x2 x3 x4 q5 x6 x7 x9_1 σ)
def wX7_shown_114 (K58 : Int32 → Int32 → Int32 → Nat → Int32 → Int64 → Int64 → Sg → Prop) (x2 : Int32) (x3 : Int32) (x4 : Int32) (q5 : Nat) (x6 : Int32) (x7 : Int64) (x9 : Int64) (σ : Sg) (Q : Int32 → Sg → Prop) : Prop :=
  lt (x6 + 1) fun x6_3 => (
  wX7_shown_117  K58 x2 x3 x4 q5 x6_3 x7 x9 σ Q)
def wX7_shown_58_b  (K58 : Int32 → Int32 → Int32 → Nat → Int32 → Int64 → Int64 → Sg → Prop) (x2 : Int32) (x3 : Int32) (x4 : Int32) (q5 : Nat) (x6 : Int32) (x7 : Int64) (x9 : Int64) (σ : Sg) (Q : Int32 → Sg → Prop) : Prop :=
    if x7 ≤ x9 then (
      Q x6 σ)
    else (
      wX1_unfold 45 x2 x9 σ fun  σ_5 => (
      if x4 = 0 then (
        wX7_isSafe 45 x3 σ_5 fun r_9 σ_8 => (
        if r_9 = 0 then (
          wX7_shown_117  K58 x2 x3 x4 q5 x6 x7 x9 σ_8 Q)
        else (
          wX7_shown_114  K58 x2 x3 x4 q5 x6 x7 x9 σ_8 Q)))
      else (
        wX7_isFaulty q5 45 x3 σ_5 fun r_7 σ_6 => (
        if r_7 = 0 then (
          wX7_shown_117  K58 x2 x3 x4 q5 x6 x7 x9 σ_6 Q)
        else (
          wX7_shown_114  K58 x2 x3 x4 q5 x6 x7 x9 σ_6 Q)))))
def wX7_shown_58  (Q : Int32 → Sg → Prop) : Nat → Int32 → Int32 → Int32 → Nat → Int32 → Int64 → Int64 → Sg → Prop
  | 0 => fun _ _ _ _ _ _ _ _ => False
  | n + 1 => fun x2 x3 x4 q5 x6 x7 x9 σ => wX7_shown_58_b  (wX7_shown_58  Q n) x2 x3 x4 q5 x6 x7 x9 σ Q
def wX7_shown  (x1 : Int32) (x2 : Int32) (x3 : Int32) (x4 : Int32) (σ : Sg) (Q : Int32 → Sg → Prop) : Prop :=
  wX7_makerAt x1 σ fun o_11 σ_10 => (
  (o_11 = none → (
    Q (-1) σ_10)) ∧ ∀ z_12, o_11 = some z_12 → (
    wX7_within x2 1 5 σ_10 fun r_14 σ_13 => (
    if r_14 = 0 then (
      Q (-1) σ_13)
    else (
      wX7_within x3 0 2 σ_13 fun r_16 σ_15 => (
      if r_16 = 0 then (
        Q (-1) σ_15)
      else (
        wX7_within x4 0 1 σ_15 fun r_18 σ_17 => (
        if r_18 = 0 then (
          Q (-1) σ_17)
        else (
          wX1_howMany x2 σ_17 fun r_20 σ_19 => (
          ∃ nn, wX7_shown_58   Q nn x2 x3 x4 z_12 0 r_20 0 σ_19)))))))))

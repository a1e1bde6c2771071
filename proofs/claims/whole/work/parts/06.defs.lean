def wX5_kindOf  (t : Nat) (x1 : Int32) (σ : Sg) (Q : Int32 → Sg → Prop) : Prop :=
  if x1 < 0 then (
    Q 0 σ)
  else (
    (YC.2.1 t = 4) ∧ (
    if (σ.1 t 3) ≤ x1 then (
      Q 0 σ)
    else (
      (vp_in x1 200) ∧ (
      Q (σ.1 (t + 1) (Int32.toNatClampNeg x1)) σ))))
def wX5_numberOf  (t : Nat) (x1 : Int32) (σ : Sg) (Q : Int32 → Sg → Prop) : Prop :=
  if x1 < 0 then (
    Q 0 σ)
  else (
    (YC.2.1 t = 4) ∧ (
    if (σ.1 t 3) ≤ x1 then (
      Q 0 σ)
    else (
      (vp_in x1 200) ∧ (
      Q (σ.1 (t + 2) (Int32.toNatClampNeg x1)) σ))))
def wX5_sizeOf  (t : Nat) (x1 : Int32) (σ : Sg) (Q : Int32 → Sg → Prop) : Prop :=
  if x1 < 0 then (
    Q 0 σ)
  else (
    (YC.2.1 t = 4) ∧ (
    if (σ.1 t 3) ≤ x1 then (
      Q 0 σ)
    else (
      (vp_in x1 200) ∧ (
      Q (σ.1 (t + 3) (Int32.toNatClampNeg x1)) σ))))
def wX5_behind  (t : Nat) (x1 : Int32) (σ : Sg) (Q : Int32 → Sg → Prop) : Prop :=
  if x1 < 0 then (
    (YC.2.1 t = 4) ∧ (
    Q (σ.1 t 3) σ))
  else (
    (YC.2.1 t = 4) ∧ (
    if (σ.1 t 3) ≤ x1 then (
      Q (σ.1 t 3) σ)
    else (
      (vp_in x1 200) ∧ (
      Q (x1 + (σ.1 (t + 3) (Int32.toNatClampNeg x1))) σ))))
def wX5_isSame_20_b  (K20 : Nat → Int32 → Int32 → Int32 → Int32 → Sg → Prop) (t : Nat) (x1 : Int32) (x2 : Int32) (x3 : Int32) (x4 : Int32) (σ : Sg) (Q : Int32 → Sg → Prop) : Prop :=
    if x3 ≤ x4 then (
      Q 1 σ)
    else (
      (YC.2.1 t = 4) ∧ (
      wX5_kindOf t (x1 + x4) σ fun r_3 σ_2 => (
      wX5_kindOf t (x2 + x4) σ_2 fun r_5 σ_4 => (
      if r_3 = r_5 then (
        wX5_numberOf t (x1 + x4) σ_4 fun r_7 σ_6 => (
        wX5_numberOf t (x2 + x4) σ_6 fun r_9 σ_8 => (
        if r_7 = r_9 then (
          lt (x4 + 1) fun x4_10 => (
          K20 t x1 x2 x3 x4_10 σ_8))
        else (
          Q 0 σ_8))))
      else (
        Q 0 σ_4)))))
def wX5_isSame_20  (Q : Int32 → Sg → Prop) : Nat → Nat → Int32 → Int32 → Int32 → Int32 → Sg → Prop
  | 0 => fun _ _ _ _ _ _ => False
  | n + 1 => fun t x1 x2 x3 x4 σ => wX5_isSame_20_b  (wX5_isSame_20  Q n) t x1 x2 x3 x4 σ Q
def wX5_isSame  (t : Nat) (x1 : Int32) (x2 : Int32) (σ : Sg) (Q : Int32 → Sg → Prop) : Prop :=
  (YC.2.1 t = 4) ∧ (
  wX5_sizeOf t x1 σ fun r_14 σ_13 => (
  wX5_sizeOf t x2 σ_13 fun r_16 σ_15 => (
  if r_14 = r_16 then (
    ∃ nn, wX5_isSame_20   Q nn t x1 x2 r_14 0 σ_15)
  else (
    Q 0 σ_15))))
def wX5_append  (t : Nat) (x1 : Int32) (x2 : Int32) (σ : Sg) (Q : Sg → Prop) : Prop :=
  (YC.2.1 t = 4) ∧ (
  if (σ.1 t 3) < 0 then (
    Q σ)
  else (
    if 200 ≤ (σ.1 t 3) then (
      Q σ)
    else (
      (vp_in (σ.1 t 3) 200) ∧ (
      lt (sI σ (t + 1) (upd (σ.1 (t + 1)) (Int32.toNatClampNeg (σ.1 t 3)) x1)) fun σ_3 => (
      (vp_in (σ_3.1 t 3) 200) ∧ (
      lt (sI σ_3 (t + 2) (upd (σ_3.1 (t + 2)) (Int32.toNatClampNeg (σ_3.1 t 3)) x2)) fun σ_6 => (
      (vp_in (σ_6.1 t 3) 200) ∧ (
      lt (sI σ_6 (t + 3) (upd (σ_6.1 (t + 3)) (Int32.toNatClampNeg (σ_6.1 t 3)) 1)) fun σ_9 => (
      lt (sI σ_9 t (upd (σ_9.1 t) 3 ((σ_9.1 t 3) + 1))) fun σ_11 => (
      Q σ_11))))))))))
def wX5_appendRun  (t : Nat) (q1 : Nat) (x2 : Int32) (x3 : Int32) (σ : Sg) (Q : Sg → Prop) : Prop :=
  if x2 < 0 then (
    Q σ)
  else (
    if x3 < 0 then (
      Q σ)
    else (
      (YC.2.1 q1 = 4) ∧ (
      if ((σ.1 q1 3) - x3) < x2 then (
        Q σ)
      else (
        (YC.2.1 t = 4) ∧ (
        if (σ.1 t 3) ≤ (200 - x3) then (
          ((¬ x2 < 0) ∧ (¬ (σ.1 t 3) < 0) ∧ (¬ x3 < 0) ∧ Int32.toNatClampNeg x2 + Int32.toNatClampNeg x3 ≤ 200 ∧ Int32.toNatClampNeg (σ.1 t 3) + Int32.toNatClampNeg x3 ≤ 200) ∧ (
          lt (sI σ (t + 1) (va_cpy (σ.1 (q1 + 1)) (σ.1 (t + 1)) (Int32.toNatClampNeg x2) (Int32.toNatClampNeg (σ.1 t 3)) (Int32.toNatClampNeg x3))) fun σ_4 => (
          ((¬ x2 < 0) ∧ (¬ (σ_4.1 t 3) < 0) ∧ (¬ x3 < 0) ∧ Int32.toNatClampNeg x2 + Int32.toNatClampNeg x3 ≤ 200 ∧ Int32.toNatClampNeg (σ_4.1 t 3) + Int32.toNatClampNeg x3 ≤ 200) ∧ (
          lt (sI σ_4 (t + 2) (va_cpy (σ_4.1 (q1 + 2)) (σ_4.1 (t + 2)) (Int32.toNatClampNeg x2) (Int32.toNatClampNeg (σ_4.1 t 3)) (Int32.toNatClampNeg x3))) fun σ_7 => (
          ((¬ x2 < 0) ∧ (¬ (σ_7.1 t 3) < 0) ∧ (¬ x3 < 0) ∧ Int32.toNatClampNeg x2 + Int32.toNatClampNeg x3 ≤ 200 ∧ Int32.toNatClampNeg (σ_7.1 t 3) + Int32.toNatClampNeg x3 ≤ 200) ∧ (
          lt (sI σ_7 (t + 3) (va_cpy (σ_7.1 (q1 + 3)) (σ_7.1 (t + 3)) (Int32.toNatClampNeg x2) (Int32.toNatClampNeg (σ_7.1 t 3)) (Int32.toNatClampNeg x3))) fun σ_10 => (
          lt (sI σ_10 t (upd (σ_10.1 t) 3 ((σ_10.1 t 3) + x3))) fun σ_12 => (
          Q σ_12))))))))
        else (
          Q σ))))))
def wX7_within  (x0 : Int32) (x1 : Int32) (x2 : Int32) (σ : Sg) (Q : Int32 → Sg → Prop) : Prop :=
  if x0 < x1 then (
    Q 0 σ)
  else (
    if x2 < x0 then (
      Q 0 σ)
    else (
      Q 1 σ))
def wX7_partsOf  (x0 : Int32) (σ : Sg) (Q : Int32 → Sg → Prop) : Prop :=
  if x0 < 0 then (
    Q 0 σ)
  else (
    if 9 ≤ x0 then (
      Q 0 σ)
    else (
      (vp_in x0 9) ∧ (
      Q (pPn (Int32.toNatClampNeg x0)) σ)))
def wX7_placeAt  (x1 : Int32) (σ : Sg) (Q : Option Nat → Sg → Prop) : Prop :=
  wX7_within x1 0 19 σ fun r_2 σ_1 => (
  if r_2 = 0 then (
    Q none σ_1)
  else (
    (vp_in x1 20) ∧ (
    Q (some (YC.2.2.2 14 (Int32.toNatClampNeg x1))) σ_1)))
def wX7_programAt_17   (σ : Sg) (Q : Option Nat → Sg → Prop) : Prop :=
  Q none σ
def wX7_programAt  (x1 : Int32) (σ : Sg) (Q : Option Nat → Sg → Prop) : Prop :=
  wX7_placeAt x1 σ fun o_2 σ_1 => (
  (o_2 = none → (
    wX7_programAt_17    σ_1 Q)) ∧ ∀ z_3, o_2 = some z_3 → (
    (YC.2.1 z_3 = 4) ∧ (
    if (σ_1.1 z_3 3) = 0 then (
      wX7_programAt_17    σ_1 Q)
    else (
      Q (some z_3) σ_1))))
def wX5_measure_25_b (K7 : Nat → Int32 → Sg → Prop) (K25 : Nat → Int32 → Int32 → Int32 → Sg → Prop) (t : Nat) (x1 : Int32) (x2 : Int32) (x3 : Int32) (σ : Sg) (Q : Sg → Prop) : Prop :=
    if x3 ≤ 0 then (
      (YC.2.1 t = 4) ∧ (
      (vp_in x1 200) ∧ (
      lt (sI σ (t + 3) (upd (σ.1 (t + 3)) (Int32.toNatClampNeg x1) (x2 - x1))) fun σ_3 => (
      lt (x1 + (-1)) fun x1_5 => (
      K7 t x1_5 σ_3)))))
    else (
      (YC.2.1 t = 4) ∧ (
      wX5_behind t x2 σ fun r_9 σ_8 => (
      lt (x3 + (-1)) fun x3_10 => (
      K25 t x1 r_9 x3_10 σ_8))))
def wX5_measure_25 (K7 : Nat → Int32 → Sg → Prop) (Q : Sg → Prop) : Nat → Nat → Int32 → Int32 → Int32 → Sg → Prop
  | 0 => fun _ _ _ _ _ => False
  | n + 1 => fun t x1 x2 x3 σ => wX5_measure_25_b K7 (wX5_measure_25 K7 Q n) t x1 x2 x3 σ Q
def wX5_measure_7_b  (K7 : Nat → Int32 → Sg → Prop) (t : Nat) (x1 : Int32) (σ : Sg) (Q : Sg → Prop) : Prop :=
    if x1 < 0 then (
      Q σ)
    else (
      lt (x1 + 1) fun x2_12 => (
      (YC.2.1 t = 4) ∧ (
      (vp_in x1 200) ∧ (
      wX7_partsOf (σ.1 (t + 1) (Int32.toNatClampNeg x1)) σ fun r_17 σ_16 => (
      ∃ nn, wX5_measure_25  K7 Q nn t x1 x2_12 r_17 σ_16)))))
def wX5_measure_7  (Q : Sg → Prop) : Nat → Nat → Int32 → Sg → Prop
  | 0 => fun _ _ _ => False
  | n + 1 => fun t x1 σ => wX5_measure_7_b  (wX5_measure_7  Q n) t x1 σ Q
def wX5_measure  (t : Nat) (σ : Sg) (Q : Sg → Prop) : Prop :=
  (YC.2.1 t = 4) ∧ (
  lt ((σ.1 t 3) - 1) fun x1_19 => (
  ∃ nn, wX5_measure_7   Q nn t x1_19 σ))
def wX5_join  (t : Nat) (q1 : Nat) (x2 : Int32) (q3 : Nat) (x4 : Int32) (σ : Sg) (Q : Sg → Prop) : Prop :=
  (YC.2.1 t = 4) ∧ (
  lt (sI σ t (upd (σ.1 t) 3 0)) fun σ_2 => (
  wX5_appendRun t q1 0 x2 σ_2 fun  σ_4 => (
  (YC.2.1 q3 = 4) ∧ (
  wX5_sizeOf q3 x4 σ_4 fun r_7 σ_6 => (
  wX5_appendRun t q3 x4 r_7 σ_6 fun  σ_8 => (
  (YC.2.1 q1 = 4) ∧ (
  wX5_behind q1 x2 σ_8 fun r_11 σ_10 => (
  wX5_behind q1 x2 σ_10 fun r_13 σ_12 => (
  wX5_appendRun t q1 r_11 ((σ_10.1 q1 3) - r_13) σ_12 fun  σ_14 => (
  wX5_measure t σ_14 fun  σ_15 => (
  Q σ_15)))))))))))

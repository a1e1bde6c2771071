/-! the layouts -/
def clsC (i : Nat) : Nat := if i < 53 then [6, 1, 9, 9, 9, 8, 9, 9, 3, 4, 8, 8, 8, 8, 11, 10, 5, 8, 8, 4, 8, 8, 8, 4, 8, 8, 8, 0, 8, 8, 8, 8, 8, 8, 0, 8, 8, 8, 8, 8, 8, 4, 8, 8, 8, 4, 8, 8, 8, 4, 8, 8, 8].getD i 99 else if i < 133 then (if (i - 53) % 4 = 0 then 4 else 8) else if i < 157 then (if (i - 133) % 3 = 0 then 2 else 8) else 99
def lenC (i : Nat) : Nat := if i < 53 then [0, 0, 16, 16, 16, 16, 16, 16, 0, 0, 200, 200, 200, 60, 20, 8, 0, 200, 200, 0, 200, 200, 200, 0, 200, 200, 200, 0, 400, 400, 200, 200, 200, 200, 0, 400, 400, 200, 200, 200, 200, 0, 200, 200, 200, 0, 200, 200, 200, 0, 200, 200, 200].getD i 0 else if i < 133 then 200 else 10
def raC (i j : Nat) : Nat := if i = 14 then 53 + 4 * j else 133 + 3 * j
def YC : Ly := (157, clsC, lenC, raC)
def clsM (i : Nat) : Nat := if i = 0 then 7 else if i = 12 then 9 else if i < 26 then 8 else 99
def lenM (i : Nat) : Nat := [0, 9000, 9000, 9000, 9000, 9000, 9000, 20, 1200, 1200, 400, 400, 16, 61, 60, 60, 60, 60, 8, 80, 80, 400, 400, 400, 60, 60].getD i 0
def YM : Ly := (26, clsM, lenM, fun _ _ => 0)
theorem clsC_lt {i : Nat} (h : clsC i < 12) : i < 157 := by
  unfold clsC at h
  repeat' split at h
  all_goals omega
theorem clsM_lt {i : Nat} (h : clsM i < 12) : i < 26 := by
  unfold clsM at h
  repeat' split at h
  all_goals omega
theorem lz4_1 : ∀ t, t < 157 → clsC t = 4 → clsC (t + 1) = 8 ∧ lenC (t + 1) = 200 := by decide +kernel
theorem la4_1 {t : Nat} (h : YC.2.1 t = 4) : YC.2.1 (t + 1) = 8 ∧ YC.2.2.1 (t + 1) = 200 := lz4_1 t (clsC_lt (show clsC t < 12 by have : clsC t = 4 := h; omega)) h
theorem lz4_2 : ∀ t, t < 157 → clsC t = 4 → clsC (t + 2) = 8 ∧ lenC (t + 2) = 200 := by decide +kernel
theorem la4_2 {t : Nat} (h : YC.2.1 t = 4) : YC.2.1 (t + 2) = 8 ∧ YC.2.2.1 (t + 2) = 200 := lz4_2 t (clsC_lt (show clsC t < 12 by have : clsC t = 4 := h; omega)) h
theorem lz4_3 : ∀ t, t < 157 → clsC t = 4 → clsC (t + 3) = 8 ∧ lenC (t + 3) = 200 := by decide +kernel
theorem la4_3 {t : Nat} (h : YC.2.1 t = 4) : YC.2.1 (t + 3) = 8 ∧ YC.2.2.1 (t + 3) = 200 := lz4_3 t (clsC_lt (show clsC t < 12 by have : clsC t = 4 := h; omega)) h
theorem lz2_1 : ∀ t, t < 157 → clsC t = 2 → clsC (t + 1) = 8 ∧ lenC (t + 1) = 10 := by decide +kernel
theorem la2_1 {t : Nat} (h : YC.2.1 t = 2) : YC.2.1 (t + 1) = 8 ∧ YC.2.2.1 (t + 1) = 10 := lz2_1 t (clsC_lt (show clsC t < 12 by have : clsC t = 2 := h; omega)) h
theorem lz2_2 : ∀ t, t < 157 → clsC t = 2 → clsC (t + 2) = 8 ∧ lenC (t + 2) = 10 := by decide +kernel
theorem la2_2 {t : Nat} (h : YC.2.1 t = 2) : YC.2.1 (t + 2) = 8 ∧ YC.2.2.1 (t + 2) = 10 := lz2_2 t (clsC_lt (show clsC t < 12 by have : clsC t = 2 := h; omega)) h
theorem lz0_1 : ∀ t, t < 157 → clsC t = 0 → clsC (t + 1) = 8 ∧ lenC (t + 1) = 400 := by decide +kernel
theorem la0_1 {t : Nat} (h : YC.2.1 t = 0) : YC.2.1 (t + 1) = 8 ∧ YC.2.2.1 (t + 1) = 400 := lz0_1 t (clsC_lt (show clsC t < 12 by have : clsC t = 0 := h; omega)) h
theorem lz0_2 : ∀ t, t < 157 → clsC t = 0 → clsC (t + 2) = 8 ∧ lenC (t + 2) = 400 := by decide +kernel
theorem la0_2 {t : Nat} (h : YC.2.1 t = 0) : YC.2.1 (t + 2) = 8 ∧ YC.2.2.1 (t + 2) = 400 := lz0_2 t (clsC_lt (show clsC t < 12 by have : clsC t = 0 := h; omega)) h
theorem lz0_3 : ∀ t, t < 157 → clsC t = 0 → clsC (t + 3) = 8 ∧ lenC (t + 3) = 200 := by decide +kernel
theorem la0_3 {t : Nat} (h : YC.2.1 t = 0) : YC.2.1 (t + 3) = 8 ∧ YC.2.2.1 (t + 3) = 200 := lz0_3 t (clsC_lt (show clsC t < 12 by have : clsC t = 0 := h; omega)) h
theorem lz0_4 : ∀ t, t < 157 → clsC t = 0 → clsC (t + 4) = 8 ∧ lenC (t + 4) = 200 := by decide +kernel
theorem la0_4 {t : Nat} (h : YC.2.1 t = 0) : YC.2.1 (t + 4) = 8 ∧ YC.2.2.1 (t + 4) = 200 := lz0_4 t (clsC_lt (show clsC t < 12 by have : clsC t = 0 := h; omega)) h
theorem lz0_5 : ∀ t, t < 157 → clsC t = 0 → clsC (t + 5) = 8 ∧ lenC (t + 5) = 200 := by decide +kernel
theorem la0_5 {t : Nat} (h : YC.2.1 t = 0) : YC.2.1 (t + 5) = 8 ∧ YC.2.2.1 (t + 5) = 200 := lz0_5 t (clsC_lt (show clsC t < 12 by have : clsC t = 0 := h; omega)) h
theorem lz0_6 : ∀ t, t < 157 → clsC t = 0 → clsC (t + 6) = 8 ∧ lenC (t + 6) = 200 := by decide +kernel
theorem la0_6 {t : Nat} (h : YC.2.1 t = 0) : YC.2.1 (t + 6) = 8 ∧ YC.2.2.1 (t + 6) = 200 := lz0_6 t (clsC_lt (show clsC t < 12 by have : clsC t = 0 := h; omega)) h

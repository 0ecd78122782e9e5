/-! words, ranks, beginnings: both sides by one value -/
def dt_lt (n k : Nat) : Nat := if k = 0 then n % 6 else if k = 1 then n / 6 % 6 else n / 36
def dt_ln (n : Nat) : Nat := if n % 6 = 0 then 0 else if n / 6 % 6 = 0 then 1 else if n / 36 = 0 then 2 else 3
def dt_W (n : Nat) : Prop := n < 216 ∧ (n % 6 ≠ 0 ∨ n = 0) ∧ (n / 6 % 6 ≠ 0 ∨ n < 36)
def dt_Wi (v : Int32) : Prop := ∃ n : Nat, v = nI n ∧ dt_W n
def dt_CB (a v : Int32) : Prop := (4 ≤ a ∧ ¬ v < -999 ∧ ¬ 999 < v) ∨ (¬ 4 ≤ a ∧ dt_Wi v)
def dt_rk (a v : Int32) : Int32 := if a < 4 then (v - v / 6 * 6) * 36 + (v / 6 - v / 6 / 6 * 6) * 6 + v / 36 else v
def dt_sp (m : Nat) : Nat := if m < 6 then 6 else if m < 36 then 36 else 216
def dt_BW (n m : Nat) : Bool := m == 0 || n % dt_sp m == m
def dt_SA (w v p : Nat) : Bool := decide (p + dt_ln v ≤ dt_ln w) && (List.range (dt_ln v)).all (fun k => dt_lt w (p + k) == dt_lt v k)
def dt_wb (n : Nat) : Bool := (n % 6 != 0 || n == 0) && (n / 6 % 6 != 0 || decide (n < 36))
def dt_ck (n m : Nat) : Bool := !(dt_wb n) || !(dt_wb m) || ((dt_SA n m 0 == dt_BW n m) && ((dt_SA n m 0 || dt_SA n m 1 || dt_SA n m 2) == (dt_BW n m || dt_BW (n / 6) m || dt_BW (n / 36) m)))
theorem dt_ck_all : (List.range 216).all (fun n => (List.range 216).all (fun m => dt_ck n m)) = true := by decide +kernel
theorem dt_W_wb {n : Nat} (h : dt_W n) : dt_wb n = true := by
  obtain ⟨_, h2, h3⟩ := h
  simp [dt_wb, h2, h3]
theorem dt_ck2 {n m : Nat} (hn : dt_W n) (hm : dt_W m) : dt_SA n m 0 = dt_BW n m ∧ (dt_SA n m 0 || dt_SA n m 1 || dt_SA n m 2) = (dt_BW n m || dt_BW (n / 6) m || dt_BW (n / 36) m) := by
  have h := List.all_eq_true.mp dt_ck_all n (List.mem_range.mpr hn.1)
  have h := List.all_eq_true.mp h m (List.mem_range.mpr hm.1)
  unfold dt_ck at h
  rw [dt_W_wb hn, dt_W_wb hm] at h
  simpa using h

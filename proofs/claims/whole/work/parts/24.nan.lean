/-! the mean is a number -/
theorem nan_all : ((List.range 1441).all fun a => (List.range 8).all fun b => decide (FP.ddiv (FP.i2d (nI a)) (FP.i2d (nI (b + 1))) &&& 0x7fffffffffffffff ≤ 0x7ff0000000000000)) = true := by decide +kernel
theorem nan_ok {a b : Nat} (ha : a ≤ 1440) (h0 : ¬ nI b = 0) (hb : b ≤ 8) : vf_n64 (FP.ddiv (FP.i2d (nI a)) (FP.i2d (nI b))) := by
  cases b with
  | zero => exact absurd rfl h0
  | succ b =>
    have h1 := List.all_eq_true.mp nan_all a (List.mem_range.mpr (by omega))
    have h2 := List.all_eq_true.mp h1 b (List.mem_range.mpr (by omega))
    have h3 := of_decide_eq_true h2
    exact h3

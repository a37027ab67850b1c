/-! the tables, looked at by the kernel: the methods' words -/
theorem okW_0 : (List.range' 0 25).all okW = true := by decide +kernel
theorem okW_25 : (List.range' 25 25).all okW = true := by decide +kernel
theorem okW_50 : (List.range' 50 25).all okW = true := by decide +kernel
theorem okW_75 : (List.range' 75 25).all okW = true := by decide +kernel
theorem okW_100 : (List.range' 100 25).all okW = true := by decide +kernel
theorem okW_all : ∀ m, m < 125 → okW m = true := by
  intro m h
  rcases (show (0 ≤ m ∧ m < 25) ∨ (25 ≤ m ∧ m < 50) ∨ (50 ≤ m ∧ m < 75) ∨ (75 ≤ m ∧ m < 100) ∨ (100 ≤ m ∧ m < 125) by omega) with h | h | h | h | h
  · exact List.all_eq_true.mp okW_0 m (List.mem_range'_1.mpr (by omega))
  · exact List.all_eq_true.mp okW_25 m (List.mem_range'_1.mpr (by omega))
  · exact List.all_eq_true.mp okW_50 m (List.mem_range'_1.mpr (by omega))
  · exact List.all_eq_true.mp okW_75 m (List.mem_range'_1.mpr (by omega))
  · exact List.all_eq_true.mp okW_100 m (List.mem_range'_1.mpr (by omega))

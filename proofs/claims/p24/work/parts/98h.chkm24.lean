/-! the tables, looked at by the kernel: instructions -/
theorem okM_0 : (List.range' 0 7).all okM = true := by decide +kernel
theorem okM_7 : (List.range' 7 7).all okM = true := by decide +kernel
theorem okM_14 : (List.range' 14 7).all okM = true := by decide +kernel
theorem okM_21 : (List.range' 21 7).all okM = true := by decide +kernel
theorem okM_28 : (List.range' 28 7).all okM = true := by decide +kernel
theorem okM_35 : (List.range' 35 7).all okM = true := by decide +kernel
theorem okM_42 : (List.range' 42 7).all okM = true := by decide +kernel
theorem okM_49 : (List.range' 49 7).all okM = true := by decide +kernel
theorem okM_56 : (List.range' 56 7).all okM = true := by decide +kernel
theorem okM_63 : (List.range' 63 7).all okM = true := by decide +kernel
theorem okM_70 : (List.range' 70 7).all okM = true := by decide +kernel
theorem okM_77 : (List.range' 77 7).all okM = true := by decide +kernel
theorem okM_84 : (List.range' 84 7).all okM = true := by decide +kernel
theorem okM_91 : (List.range' 91 7).all okM = true := by decide +kernel
theorem okM_98 : (List.range' 98 7).all okM = true := by decide +kernel
theorem okM_105 : (List.range' 105 7).all okM = true := by decide +kernel
theorem okM_112 : (List.range' 112 7).all okM = true := by decide +kernel
theorem okM_119 : (List.range' 119 7).all okM = true := by decide +kernel
theorem okM_all : ∀ m, m < 126 → okM m = true := by
  intro m h
  rcases (show (0 ≤ m ∧ m < 7) ∨ (7 ≤ m ∧ m < 14) ∨ (14 ≤ m ∧ m < 21) ∨ (21 ≤ m ∧ m < 28) ∨ (28 ≤ m ∧ m < 35) ∨ (35 ≤ m ∧ m < 42) ∨ (42 ≤ m ∧ m < 49) ∨ (49 ≤ m ∧ m < 56) ∨ (56 ≤ m ∧ m < 63) ∨ (63 ≤ m ∧ m < 70) ∨ (70 ≤ m ∧ m < 77) ∨ (77 ≤ m ∧ m < 84) ∨ (84 ≤ m ∧ m < 91) ∨ (91 ≤ m ∧ m < 98) ∨ (98 ≤ m ∧ m < 105) ∨ (105 ≤ m ∧ m < 112) ∨ (112 ≤ m ∧ m < 119) ∨ (119 ≤ m ∧ m < 126) by omega) with h | h | h | h | h | h | h | h | h | h | h | h | h | h | h | h | h | h
  · exact List.all_eq_true.mp okM_0 m (List.mem_range'_1.mpr (by omega))
  · exact List.all_eq_true.mp okM_7 m (List.mem_range'_1.mpr (by omega))
  · exact List.all_eq_true.mp okM_14 m (List.mem_range'_1.mpr (by omega))
  · exact List.all_eq_true.mp okM_21 m (List.mem_range'_1.mpr (by omega))
  · exact List.all_eq_true.mp okM_28 m (List.mem_range'_1.mpr (by omega))
  · exact List.all_eq_true.mp okM_35 m (List.mem_range'_1.mpr (by omega))
  · exact List.all_eq_true.mp okM_42 m (List.mem_range'_1.mpr (by omega))
  · exact List.all_eq_true.mp okM_49 m (List.mem_range'_1.mpr (by omega))
  · exact List.all_eq_true.mp okM_56 m (List.mem_range'_1.mpr (by omega))
  · exact List.all_eq_true.mp okM_63 m (List.mem_range'_1.mpr (by omega))
  · exact List.all_eq_true.mp okM_70 m (List.mem_range'_1.mpr (by omega))
  · exact List.all_eq_true.mp okM_77 m (List.mem_range'_1.mpr (by omega))
  · exact List.all_eq_true.mp okM_84 m (List.mem_range'_1.mpr (by omega))
  · exact List.all_eq_true.mp okM_91 m (List.mem_range'_1.mpr (by omega))
  · exact List.all_eq_true.mp okM_98 m (List.mem_range'_1.mpr (by omega))
  · exact List.all_eq_true.mp okM_105 m (List.mem_range'_1.mpr (by omega))
  · exact List.all_eq_true.mp okM_112 m (List.mem_range'_1.mpr (by omega))
  · exact List.all_eq_true.mp okM_119 m (List.mem_range'_1.mpr (by omega))

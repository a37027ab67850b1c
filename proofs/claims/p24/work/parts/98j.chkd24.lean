/-! the tables, looked at by the kernel: the law's code -/
theorem okC_112 : (List.range' 112 1).all okCb = true := by decide +kernel
theorem okC_113 : (List.range' 113 1).all okCb = true := by decide +kernel
theorem okC_114 : (List.range' 114 1).all okCb = true := by decide +kernel
theorem okC_115 : (List.range' 115 1).all okCb = true := by decide +kernel
theorem okC_116 : (List.range' 116 1).all okCb = true := by decide +kernel
theorem okC_117 : (List.range' 117 1).all okCb = true := by decide +kernel
theorem okC_118 : (List.range' 118 1).all okCb = true := by decide +kernel
theorem okC_119 : (List.range' 119 1).all okCb = true := by decide +kernel
theorem okC_120 : (List.range' 120 1).all okCb = true := by decide +kernel
theorem okC_121 : (List.range' 121 1).all okCb = true := by decide +kernel
theorem okC_122 : (List.range' 122 1).all okCb = true := by decide +kernel
theorem okC_123 : (List.range' 123 1).all okCb = true := by decide +kernel
theorem okC_124 : (List.range' 124 1).all okCb = true := by decide +kernel
theorem okC_all : ∀ m, m < 125 → okCb m = true := by
  intro m h
  rcases (show (0 ≤ m ∧ m < 28) ∨ (28 ≤ m ∧ m < 56) ∨ (56 ≤ m ∧ m < 84) ∨ (84 ≤ m ∧ m < 112) ∨ (112 ≤ m ∧ m < 113) ∨ (113 ≤ m ∧ m < 114) ∨ (114 ≤ m ∧ m < 115) ∨ (115 ≤ m ∧ m < 116) ∨ (116 ≤ m ∧ m < 117) ∨ (117 ≤ m ∧ m < 118) ∨ (118 ≤ m ∧ m < 119) ∨ (119 ≤ m ∧ m < 120) ∨ (120 ≤ m ∧ m < 121) ∨ (121 ≤ m ∧ m < 122) ∨ (122 ≤ m ∧ m < 123) ∨ (123 ≤ m ∧ m < 124) ∨ (124 ≤ m ∧ m < 125) by omega) with h | h | h | h | h | h | h | h | h | h | h | h | h | h | h | h | h
  · exact List.all_eq_true.mp okC_0 m (List.mem_range'_1.mpr (by omega))
  · exact List.all_eq_true.mp okC_28 m (List.mem_range'_1.mpr (by omega))
  · exact List.all_eq_true.mp okC_56 m (List.mem_range'_1.mpr (by omega))
  · exact List.all_eq_true.mp okC_84 m (List.mem_range'_1.mpr (by omega))
  · exact List.all_eq_true.mp okC_112 m (List.mem_range'_1.mpr (by omega))
  · exact List.all_eq_true.mp okC_113 m (List.mem_range'_1.mpr (by omega))
  · exact List.all_eq_true.mp okC_114 m (List.mem_range'_1.mpr (by omega))
  · exact List.all_eq_true.mp okC_115 m (List.mem_range'_1.mpr (by omega))
  · exact List.all_eq_true.mp okC_116 m (List.mem_range'_1.mpr (by omega))
  · exact List.all_eq_true.mp okC_117 m (List.mem_range'_1.mpr (by omega))
  · exact List.all_eq_true.mp okC_118 m (List.mem_range'_1.mpr (by omega))
  · exact List.all_eq_true.mp okC_119 m (List.mem_range'_1.mpr (by omega))
  · exact List.all_eq_true.mp okC_120 m (List.mem_range'_1.mpr (by omega))
  · exact List.all_eq_true.mp okC_121 m (List.mem_range'_1.mpr (by omega))
  · exact List.all_eq_true.mp okC_122 m (List.mem_range'_1.mpr (by omega))
  · exact List.all_eq_true.mp okC_123 m (List.mem_range'_1.mpr (by omega))
  · exact List.all_eq_true.mp okC_124 m (List.mem_range'_1.mpr (by omega))

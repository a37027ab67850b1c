/-! the tables, looked at by the kernel -/
theorem okW_0 : (List.range' 0 24).all okW = true := by decide +kernel
theorem okW_24 : (List.range' 24 24).all okW = true := by decide +kernel
theorem okW_48 : (List.range' 48 24).all okW = true := by decide +kernel
theorem okW_72 : (List.range' 72 24).all okW = true := by decide +kernel
theorem okW_96 : (List.range' 96 24).all okW = true := by decide +kernel
theorem okW_120 : (List.range' 120 24).all okW = true := by decide +kernel
theorem okW_144 : (List.range' 144 24).all okW = true := by decide +kernel
theorem okW_168 : (List.range' 168 13).all okW = true := by decide +kernel
theorem okM_0 : (List.range' 0 8).all okM = true := by decide +kernel
theorem okM_8 : (List.range' 8 8).all okM = true := by decide +kernel
theorem okM_16 : (List.range' 16 8).all okM = true := by decide +kernel
theorem okM_24 : (List.range' 24 8).all okM = true := by decide +kernel
theorem okM_32 : (List.range' 32 8).all okM = true := by decide +kernel
theorem okM_40 : (List.range' 40 8).all okM = true := by decide +kernel
theorem okM_48 : (List.range' 48 8).all okM = true := by decide +kernel
theorem okM_56 : (List.range' 56 8).all okM = true := by decide +kernel
theorem okM_64 : (List.range' 64 8).all okM = true := by decide +kernel
theorem okM_72 : (List.range' 72 8).all okM = true := by decide +kernel
theorem okM_80 : (List.range' 80 8).all okM = true := by decide +kernel
theorem okM_88 : (List.range' 88 8).all okM = true := by decide +kernel
theorem okM_96 : (List.range' 96 8).all okM = true := by decide +kernel
theorem okM_104 : (List.range' 104 8).all okM = true := by decide +kernel
theorem okM_112 : (List.range' 112 8).all okM = true := by decide +kernel
theorem okM_120 : (List.range' 120 8).all okM = true := by decide +kernel
theorem okM_128 : (List.range' 128 8).all okM = true := by decide +kernel
theorem okM_136 : (List.range' 136 8).all okM = true := by decide +kernel
theorem okM_144 : (List.range' 144 8).all okM = true := by decide +kernel
theorem okM_152 : (List.range' 152 8).all okM = true := by decide +kernel
theorem okM_160 : (List.range' 160 8).all okM = true := by decide +kernel
theorem okM_168 : (List.range' 168 8).all okM = true := by decide +kernel
theorem okM_176 : (List.range' 176 6).all okM = true := by decide +kernel
theorem okC_0 : (List.range' 0 24).all okCb = true := by decide +kernel
theorem okC_24 : (List.range' 24 24).all okCb = true := by decide +kernel
theorem okC_48 : (List.range' 48 24).all okCb = true := by decide +kernel
theorem okC_72 : (List.range' 72 24).all okCb = true := by decide +kernel
theorem okC_96 : (List.range' 96 24).all okCb = true := by decide +kernel
theorem okC_120 : (List.range' 120 24).all okCb = true := by decide +kernel
theorem okC_144 : (List.range' 144 24).all okCb = true := by decide +kernel
theorem okC_168 : (List.range' 168 13).all okCb = true := by decide +kernel
theorem okC_all : ∀ m, m < 181 → okCb m = true := by
  intro m h
  rcases (show (0 ≤ m ∧ m < 24) ∨ (24 ≤ m ∧ m < 48) ∨ (48 ≤ m ∧ m < 72) ∨ (72 ≤ m ∧ m < 96) ∨ (96 ≤ m ∧ m < 120) ∨ (120 ≤ m ∧ m < 144) ∨ (144 ≤ m ∧ m < 168) ∨ (168 ≤ m ∧ m < 181) by omega) with h | h | h | h | h | h | h | h
  · exact List.all_eq_true.mp okC_0 m (List.mem_range'_1.mpr (by omega))
  · exact List.all_eq_true.mp okC_24 m (List.mem_range'_1.mpr (by omega))
  · exact List.all_eq_true.mp okC_48 m (List.mem_range'_1.mpr (by omega))
  · exact List.all_eq_true.mp okC_72 m (List.mem_range'_1.mpr (by omega))
  · exact List.all_eq_true.mp okC_96 m (List.mem_range'_1.mpr (by omega))
  · exact List.all_eq_true.mp okC_120 m (List.mem_range'_1.mpr (by omega))
  · exact List.all_eq_true.mp okC_144 m (List.mem_range'_1.mpr (by omega))
  · exact List.all_eq_true.mp okC_168 m (List.mem_range'_1.mpr (by omega))
theorem okW_all : ∀ m, m < 181 → okW m = true := by
  intro m h
  rcases (show (0 ≤ m ∧ m < 24) ∨ (24 ≤ m ∧ m < 48) ∨ (48 ≤ m ∧ m < 72) ∨ (72 ≤ m ∧ m < 96) ∨ (96 ≤ m ∧ m < 120) ∨ (120 ≤ m ∧ m < 144) ∨ (144 ≤ m ∧ m < 168) ∨ (168 ≤ m ∧ m < 181) by omega) with h | h | h | h | h | h | h | h
  · exact List.all_eq_true.mp okW_0 m (List.mem_range'_1.mpr (by omega))
  · exact List.all_eq_true.mp okW_24 m (List.mem_range'_1.mpr (by omega))
  · exact List.all_eq_true.mp okW_48 m (List.mem_range'_1.mpr (by omega))
  · exact List.all_eq_true.mp okW_72 m (List.mem_range'_1.mpr (by omega))
  · exact List.all_eq_true.mp okW_96 m (List.mem_range'_1.mpr (by omega))
  · exact List.all_eq_true.mp okW_120 m (List.mem_range'_1.mpr (by omega))
  · exact List.all_eq_true.mp okW_144 m (List.mem_range'_1.mpr (by omega))
  · exact List.all_eq_true.mp okW_168 m (List.mem_range'_1.mpr (by omega))
theorem okM_all : ∀ m, m < 182 → okM m = true := by
  intro m h
  rcases (show (0 ≤ m ∧ m < 8) ∨ (8 ≤ m ∧ m < 16) ∨ (16 ≤ m ∧ m < 24) ∨ (24 ≤ m ∧ m < 32) ∨ (32 ≤ m ∧ m < 40) ∨ (40 ≤ m ∧ m < 48) ∨ (48 ≤ m ∧ m < 56) ∨ (56 ≤ m ∧ m < 64) ∨ (64 ≤ m ∧ m < 72) ∨ (72 ≤ m ∧ m < 80) ∨ (80 ≤ m ∧ m < 88) ∨ (88 ≤ m ∧ m < 96) ∨ (96 ≤ m ∧ m < 104) ∨ (104 ≤ m ∧ m < 112) ∨ (112 ≤ m ∧ m < 120) ∨ (120 ≤ m ∧ m < 128) ∨ (128 ≤ m ∧ m < 136) ∨ (136 ≤ m ∧ m < 144) ∨ (144 ≤ m ∧ m < 152) ∨ (152 ≤ m ∧ m < 160) ∨ (160 ≤ m ∧ m < 168) ∨ (168 ≤ m ∧ m < 176) ∨ (176 ≤ m ∧ m < 182) by omega) with h | h | h | h | h | h | h | h | h | h | h | h | h | h | h | h | h | h | h | h | h | h | h
  · exact List.all_eq_true.mp okM_0 m (List.mem_range'_1.mpr (by omega))
  · exact List.all_eq_true.mp okM_8 m (List.mem_range'_1.mpr (by omega))
  · exact List.all_eq_true.mp okM_16 m (List.mem_range'_1.mpr (by omega))
  · exact List.all_eq_true.mp okM_24 m (List.mem_range'_1.mpr (by omega))
  · exact List.all_eq_true.mp okM_32 m (List.mem_range'_1.mpr (by omega))
  · exact List.all_eq_true.mp okM_40 m (List.mem_range'_1.mpr (by omega))
  · exact List.all_eq_true.mp okM_48 m (List.mem_range'_1.mpr (by omega))
  · exact List.all_eq_true.mp okM_56 m (List.mem_range'_1.mpr (by omega))
  · exact List.all_eq_true.mp okM_64 m (List.mem_range'_1.mpr (by omega))
  · exact List.all_eq_true.mp okM_72 m (List.mem_range'_1.mpr (by omega))
  · exact List.all_eq_true.mp okM_80 m (List.mem_range'_1.mpr (by omega))
  · exact List.all_eq_true.mp okM_88 m (List.mem_range'_1.mpr (by omega))
  · exact List.all_eq_true.mp okM_96 m (List.mem_range'_1.mpr (by omega))
  · exact List.all_eq_true.mp okM_104 m (List.mem_range'_1.mpr (by omega))
  · exact List.all_eq_true.mp okM_112 m (List.mem_range'_1.mpr (by omega))
  · exact List.all_eq_true.mp okM_120 m (List.mem_range'_1.mpr (by omega))
  · exact List.all_eq_true.mp okM_128 m (List.mem_range'_1.mpr (by omega))
  · exact List.all_eq_true.mp okM_136 m (List.mem_range'_1.mpr (by omega))
  · exact List.all_eq_true.mp okM_144 m (List.mem_range'_1.mpr (by omega))
  · exact List.all_eq_true.mp okM_152 m (List.mem_range'_1.mpr (by omega))
  · exact List.all_eq_true.mp okM_160 m (List.mem_range'_1.mpr (by omega))
  · exact List.all_eq_true.mp okM_168 m (List.mem_range'_1.mpr (by omega))
  · exact List.all_eq_true.mp okM_176 m (List.mem_range'_1.mpr (by omega))

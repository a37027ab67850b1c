/-! states are copied: the class -/
def stCp (q : zM) (s d : Nat) : zM :=
  let q1 := qs q (d + 1) 0 (q.1 (s + 1) 0)
  let q2 := qcl q1 (s + 2) 0 (d + 2) 0 40
  let q3 := qc q2 (s + 3) 0 (d + 3) 0 40
  let q4 := qc q3 (s + 4) 0 (d + 4) 0 40
  let q5 := qc q4 (s + 5) 0 (d + 5) 0 40
  let q6 := qc q5 (s + 6) 0 (d + 6) 0 40
  let q7 := qs (qs q6 (d + 7) 0 (q6.1 (s + 7) 0)) (d + 7) 1 (q6.1 (s + 7) 1)
  let q8 := qs q7 (d + 8) 0 (q7.1 (s + 8) 0)
  let q9 := qc q8 (s + 9) 0 (d + 9) 0 8
  let q10 := qc q9 (s + 10) 0 (d + 10) 0 8
  let q11 := qc q10 (s + 11) 0 (d + 11) 0 8
  qc q11 (s + 12) 0 (d + 12) 0 96
theorem qcl_at1 (q : zM) (o sp d dp n : Nat) : (qcl q o sp d dp n).1 = q.1 := rfl
theorem qcl_at2 (q : zM) (o sp d dp n a k : Nat) : (qcl q o sp d dp n).2 a k = if a = d ∧ dp ≤ k ∧ k < dp + n then q.2 o (sp + (k - dp)) else q.2 a k := rfl
theorem qs_at2 (q : zM) (o k : Nat) (v : Int) : (qs q o k v).2 = q.2 := rfl
theorem qc_at2 (q : zM) (o sp d dp n : Nat) : (qc q o sp d dp n).2 = q.2 := rfl
theorem stCp_fr (q : zM) {s d a : Nat} (ha : a < d ∨ d + 12 < a) : (stCp q s d).1 a = q.1 a ∧ (stCp q s d).2 a = q.2 a := by
  refine ⟨funext fun k => ?_, funext fun k => ?_⟩
  · simp only [stCp, qs_at, qc_at, true_and, and_true, if_true, qcl_at1]
    repeat rw [if_neg (by omega)]
  · simp only [stCp, true_and, and_true, if_true, qs_at2, qc_at2, qcl_at2]
    repeat rw [if_neg (by omega)]
theorem stCp_rx {q : zM} {s d : Nat} {A : zT9} (hd : s + 12 < d ∨ d + 12 < s) (hW : zWF A) (h : zRX q s A) : zRX (stCp q s d) d A := by
  have hN := hW.1
  have hL := hW.2.2.2.2.2.1
  obtain ⟨h1, h2, h3, h4, h5, h6, h7⟩ := h
  refine ⟨?_, ?_, ?_, ?_, fun w hw => ?_, fun l hl => ?_, fun l k hl hk => ?_⟩
  · rw [← h1]
    simp only [stCp, qs_at, qc_at, true_and, and_true, if_true, qcl_at1]
    repeat (first | rw [if_neg (by omega)] | rw [if_pos (by omega)])
  · rw [← h2]
    simp only [stCp, qs_at, qc_at, true_and, and_true, if_true, qcl_at1]
    repeat (first | rw [if_neg (by omega)] | rw [if_pos (by omega)])
  · rw [← h3]
    simp only [stCp, qs_at, qc_at, true_and, and_true, if_true, qcl_at1]
    repeat (first | rw [if_neg (by omega)] | rw [if_pos (by omega)])
  · rw [← h4]
    simp only [stCp, qs_at, qc_at, true_and, and_true, if_true, qcl_at1]
    repeat (first | rw [if_neg (by omega)] | rw [if_pos (by omega)])
  · obtain ⟨x1, x2, x3, x4, x5⟩ := h5 w hw
    refine ⟨?_, ?_, ?_, ?_, ?_⟩
    · rw [← x1]
      simp only [stCp, qs_at, qc_at, true_and, and_true, if_true, qcl_at1, Nat.zero_add, Nat.sub_zero]
      repeat (first | rw [if_neg (by omega)] | rw [if_pos (by omega)])
    · rw [← x2]
      simp only [stCp, qs_at, qc_at, true_and, and_true, if_true, qcl_at1, Nat.zero_add, Nat.sub_zero]
      repeat (first | rw [if_neg (by omega)] | rw [if_pos (by omega)])
    · rw [← x3]
      simp only [stCp, qs_at, qc_at, true_and, and_true, if_true, qcl_at1, Nat.zero_add, Nat.sub_zero]
      repeat (first | rw [if_neg (by omega)] | rw [if_pos (by omega)])
    · rw [← x4]
      simp only [stCp, qs_at, qc_at, true_and, and_true, if_true, qcl_at1, Nat.zero_add, Nat.sub_zero]
      repeat (first | rw [if_neg (by omega)] | rw [if_pos (by omega)])
    · rw [← x5]
      simp only [stCp, true_and, and_true, if_true, qs_at2, qc_at2, qcl_at2, Nat.zero_add, Nat.sub_zero]
      rw [if_pos (by omega)]
  · obtain ⟨x1, x2, x3⟩ := h6 l hl
    refine ⟨?_, ?_, ?_⟩
    · rw [← x1]
      simp only [stCp, qs_at, qc_at, true_and, and_true, if_true, qcl_at1, Nat.zero_add, Nat.sub_zero]
      repeat (first | rw [if_neg (by omega)] | rw [if_pos (by omega)])
    · rw [← x2]
      simp only [stCp, qs_at, qc_at, true_and, and_true, if_true, qcl_at1, Nat.zero_add, Nat.sub_zero]
      repeat (first | rw [if_neg (by omega)] | rw [if_pos (by omega)])
    · rw [← x3]
      simp only [stCp, qs_at, qc_at, true_and, and_true, if_true, qcl_at1, Nat.zero_add, Nat.sub_zero]
      repeat (first | rw [if_neg (by omega)] | rw [if_pos (by omega)])
  · have hs := (hW.2.2.2.2.2.2.2.2.1 l).1
    rw [← h7 l k hl hk]
    simp only [stCp, qs_at, qc_at, true_and, and_true, if_true, qcl_at1, Nat.zero_add, Nat.sub_zero]
    repeat (first | rw [if_neg (by omega)] | rw [if_pos (by omega)])
theorem St_copyFrom_20_5_eq (q : zM) : St_copyFrom_20_5 q = some (stCp q 5 20) := rfl
theorem St_copyFrom_33_5_eq (q : zM) : St_copyFrom_33_5 q = some (stCp q 5 33) := rfl
theorem St_copyFrom_46_5_eq (q : zM) : St_copyFrom_46_5 q = some (stCp q 5 46) := rfl
theorem St_copyFrom_59_5_eq (q : zM) : St_copyFrom_59_5 q = some (stCp q 5 59) := rfl
theorem St_copyFrom_72_5_eq (q : zM) : St_copyFrom_72_5 q = some (stCp q 5 72) := rfl
theorem St_copyFrom_88_5_eq (q : zM) : St_copyFrom_88_5 q = some (stCp q 5 88) := rfl
theorem St_copyFrom_5_88_eq (q : zM) : St_copyFrom_5_88 q = some (stCp q 88 5) := rfl
theorem St_copyFrom_101_5_eq (q : zM) : St_copyFrom_101_5 q = some (stCp q 5 101) := rfl
theorem St_copyFrom_5_101_eq (q : zM) : St_copyFrom_5_101 q = some (stCp q 101 5) := rfl
theorem zRX_congr {q q' : zM} {s : Nat} {A : zT9} (h : ∀ a, s ≤ a → a ≤ s + 12 → q'.1 a = q.1 a ∧ q'.2 a = q.2 a) (hr : zRX q s A) : zRX q' s A := by
  obtain ⟨h1, h2, h3, h4, h5, h6, h7⟩ := hr
  refine ⟨by rw [(h _ (by omega) (by omega)).1]; exact h1, by rw [(h _ (by omega) (by omega)).1]; exact h2, by rw [(h _ (by omega) (by omega)).1]; exact h3, by rw [(h _ (by omega) (by omega)).1]; exact h4, fun w hw => ?_, fun l hl => ?_, fun l k hl hk => ?_⟩
  · rw [(h (s + 3) (by omega) (by omega)).1, (h (s + 4) (by omega) (by omega)).1, (h (s + 5) (by omega) (by omega)).1, (h (s + 6) (by omega) (by omega)).1, (h (s + 2) (by omega) (by omega)).2]
    exact h5 w hw
  · rw [(h (s + 9) (by omega) (by omega)).1, (h (s + 10) (by omega) (by omega)).1, (h (s + 11) (by omega) (by omega)).1]
    exact h6 l hl
  · rw [(h (s + 12) (by omega) (by omega)).1]
    exact h7 l k hl hk

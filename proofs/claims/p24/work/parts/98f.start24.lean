/-! the start: what the constructor leaves -/
theorem st_X1 : (zq0.1 6 0 = 0 ∧ zq0.1 12 0 = 4 ∧ zq0.1 12 1 = 10 ∧ zq0.1 13 0 = 1 ∧ zq0.1 14 0 = 97 ∧ zq0.1 15 0 = 97 ∧ zq0.1 16 0 = 0) := by decide +kernel
theorem st_X2 : (zq0.1 2 1 = 0 ∧ zq0.1 18 1 = 0 ∧ zq0.1 18 2 = 0 ∧ zq0.1 87 0 = 0 ∧ zq0.1 87 1 = 0) := by decide +kernel
def zA1 : zT9 := fun k i => if k = 0 ∧ i = 1 then 4 else if k = 0 ∧ i = 2 then 10 else if k = 0 ∧ i = 3 then 1 else if k = 5 ∧ i = 0 then 97 else if k = 6 ∧ i = 0 then 97 else 0
theorem zA1_wf : zWF zA1 := by
  refine ⟨by decide, by decide, by decide, by decide, by decide, by decide, fun w hw => absurd hw (Nat.not_lt_zero _), fun l hl => ?_, fun l => ⟨Nat.zero_le _, fun k hk => absurd hk (Nat.not_lt_zero _)⟩, fun l _ => rfl⟩
  have e : l = 0 := Nat.lt_one_iff.mp hl
  subst e
  decide
theorem zSt0 : zSt zq0 zA1 [] := by
  obtain ⟨x1, x2, x3, x4, x5, x6, x7⟩ := st_X1
  obtain ⟨y1, y2, y3, y4, y5⟩ := st_X2
  generalize zq0 = q at *
  refine ⟨[], fun _ => none, ⟨⟨x1, x2, x3, x4, fun w hw => absurd hw (Nat.not_lt_zero _), fun l hl => ?_, fun l k hl hk => absurd hk (Nat.not_lt_zero _)⟩, y1, fun i hi => absurd hi (Nat.not_lt_zero _), ⟨0, by decide, y2, y3, fun j hj => absurd hj (Nat.not_lt_zero _)⟩, fun i hi => ⟨?_, fun A' hA => (by cases hA)⟩⟩, ⟨zA1_wf, Nat.zero_le _, fun A' hA => (by cases hA), fun i A' hA => (by cases hA), Nat.zero_le _, fun x hx => (by cases hx)⟩⟩
  · have e : l = 0 := Nat.lt_one_iff.mp hl
    subst e
    exact ⟨x5, x6, x7⟩
  · match i, hi with
    | 0, _ => exact y4
    | 1, _ => exact y5
theorem zFr0 : zFr zA1 := ⟨rfl, rfl, rfl, rfl, rfl, rfl, fun l => rfl⟩

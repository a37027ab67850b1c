/-! what the tables say of the classes' fields -/
theorem okF_all : (List.range 11).all okF = true := by decide +kernel
theorem okN_all : (List.range 11).all okN = true := by decide +kernel
theorem okU_all : (List.range 11).all okU = true := by decide +kernel
theorem okI_all : (List.range 11).all okI = true := by decide +kernel
theorem cls_at : ∀ c, c < 11 → classes[c]? = some (cnO c, flT (fls.getD c []), fnum c) := by
  intro c h
  match c, h with
  | 0, _ => rfl
  | 1, _ => rfl
  | 2, _ => rfl
  | 3, _ => rfl
  | 4, _ => rfl
  | 5, _ => rfl
  | 6, _ => rfl
  | 7, _ => rfl
  | 8, _ => rfl
  | 9, _ => rfl
  | 10, _ => rfl
  | c + 11, h => exact absurd h (by omega)
theorem in11 {c : Nat} {f : Nat → Bool} (h : (List.range 11).all f = true) (hc : c < 11) : f c = true := List.all_eq_true.mp h c (List.mem_range.mpr hc)
theorem fldF {c k : Nat} (hc : c < 11) (hk : k < fnum c) : parseFieldDescriptor (flO c k).2.2.1 = some (tyF c k) ∧ (flO c k).1 = cnO c ∧ okT c k = true ∧ fkdOf c k < 4 := by
  have h := List.all_eq_true.mp (in11 okF_all hc) k (List.mem_range.mpr hk)
  simp only [Bool.and_eq_true, decide_eq_true_eq] at h
  obtain ⟨⟨⟨h1, h2⟩, h3⟩, h4⟩ := h
  obtain ⟨x, hx⟩ := Option.isSome_iff_exists.mp h1
  exact ⟨by rw [tyF, hx]; rfl, h2, h3, Nat.ble_eq.mp h4⟩
theorem fldN {c : Nat} (hc : c < 11) : ∀ a, a < fnum c → ∀ b, b < fnum c → a ≠ b → (flT (fls.getD c []) a).2.1 ≠ (flT (fls.getD c []) b).2.1 := by
  intro a ha b hb hab
  have h := List.all_eq_true.mp (List.all_eq_true.mp (in11 okN_all hc) a (List.mem_range.mpr ha)) b (List.mem_range.mpr hb)
  simp only [Bool.or_eq_true, decide_eq_true_eq] at h
  rcases h with h | h
  · exact absurd (Nat.eq_of_beq_eq_true h) hab
  · exact h
theorem fldU {c : Nat} (hc : c < 11) : ∀ w ∈ u_ws (cnO c) (flT (fls.getD c [])) (fnum c), w ∈ lw_tbl := by
  intro w hw
  unfold u_ws at hw
  obtain ⟨k, hk, rfl⟩ := List.mem_map.mp hw
  have h := List.all_eq_true.mp (in11 okU_all hc) k hk
  exact of_decide_eq_true h
theorem fldI {c : Nat} (hc : c < 11) : Jvm.Cond.instantiable (cnO c) (fnum c) ∈ lw_tbl ∧ Jvm.Cond.initialized (cnO c) ∈ lw_tbl := by
  have h := in11 okI_all hc
  simp only [okI, Bool.and_eq_true, decide_eq_true_eq] at h
  exact h

/-! addWord: the reading of a word, pure: place, letters, syllables, stresses, limit, and the letters themselves -/
abbrev zW : Type := Nat × Nat × Nat × Nat × Nat × (Nat → Nat)
def upG (g : Nat → Nat) (m c : Nat) : Nat → Nat := fun k => if k = m then c else g k
def wLet (p m y s t : Nat) (g : Nat → Nat) (c : Nat) : Option zW := if isLt c = true ∧ m < 8 then some (2, m + 1, (if p = 2 then y else y + 1), s, t, upG g m c) else none
def wst (p m y s t : Nat) (g : Nat → Nat) (c : Nat) : Option zW :=
  if p = 0 then (if c = 39 then some (1, m, y, s + 2 ^ y, t, g) else wLet 0 m y s t g c)
  else if p = 1 then wLet 1 m y s t g c
  else if p = 2 then (if isLt c = true ∧ m < 8 then wLet 2 m y s t g c else if c = 45 ∧ y < 4 then some (0, m, y, s, t, g) else if c = 42 then some (3, m, y, s, t, g) else none)
  else if p = 3 then (if 49 ≤ c ∧ c ≤ 57 then some (4, m, y, s, c - 48, g) else none)
  else none
/-- so many signs from an index on: the first one that is not allowed, or what is read then -/
def wrn (tx : Nat → Nat) : Nat → Nat → zW → Nat ⊕ zW
  | 0, _, σ => .inr σ
  | n + 1, i, σ => match wst σ.1 σ.2.1 σ.2.2.1 σ.2.2.2.1 σ.2.2.2.2.1 σ.2.2.2.2.2 (tx i) with
    | none => .inl i
    | some σ' => wrn tx n (i + 1) σ'
def wfin (len : Nat) : Nat ⊕ zW → Nat ⊕ zW
  | .inl i => .inl i
  | .inr σ => if σ.1 = 2 ∨ σ.1 = 4 then .inr σ else .inl len
def wres (tx : Nat → Nat) (len i : Nat) (σ : zW) : Nat ⊕ zW := wfin len (wrn tx (len - i) i σ)
/-- what holds while a word is read -/
def wI (σ : zW) : Prop := σ.1 ≤ 4 ∧ σ.2.1 ≤ 8 ∧ σ.2.2.1 ≤ 4 ∧ (σ.1 = 0 → σ.2.2.1 ≤ 3 ∧ σ.2.2.2.1 < 2 ^ σ.2.2.1) ∧ (σ.1 = 1 → σ.2.2.1 ≤ 3 ∧ σ.2.2.2.1 < 2 ^ (σ.2.2.1 + 1)) ∧ (2 ≤ σ.1 → 1 ≤ σ.2.1 ∧ 1 ≤ σ.2.2.1 ∧ σ.2.2.2.1 < 2 ^ σ.2.2.1) ∧ 1 ≤ σ.2.2.2.2.1 ∧ σ.2.2.2.2.1 ≤ 9 ∧ ∀ k, k < σ.2.1 → 97 ≤ σ.2.2.2.2.2 k ∧ σ.2.2.2.2.2 k ≤ 122
theorem wI_mk {p m y s t : Nat} {g : Nat → Nat} (h1 : p ≤ 4) (h2 : m ≤ 8) (h3 : y ≤ 4) (h4 : p = 0 → y ≤ 3 ∧ s < 2 ^ y) (h5 : p = 1 → y ≤ 3 ∧ s < 2 ^ (y + 1)) (h6 : 2 ≤ p → 1 ≤ m ∧ 1 ≤ y ∧ s < 2 ^ y) (h7 : 1 ≤ t) (h8 : t ≤ 9) (h9 : ∀ k, k < m → 97 ≤ g k ∧ g k ≤ 122) : wI (p, m, y, s, t, g) := ⟨h1, h2, h3, h4, h5, h6, h7, h8, h9⟩
def zW0 : zW := (0, 0, 0, 0, 1, fun _ => 0)
theorem wI0 : wI zW0 := ⟨by decide, by decide, by decide, fun _ => ⟨by decide, by decide⟩, fun h => absurd h (by decide), fun h => absurd h (by decide), by decide, by decide, fun k h => absurd h (Nat.not_lt_zero _)⟩
theorem isLt_iff {c : Nat} : isLt c = true ↔ 97 ≤ c ∧ c ≤ 122 := by
  unfold isLt
  exact decide_eq_true_iff
theorem pow_y {y : Nat} : (2 : Nat) ^ (y + 1) = 2 ^ y + 2 ^ y := by
  rw [Nat.pow_succ]
  omega
theorem wLet_I {p m y s t c : Nat} {g : Nat → Nat} {σ : zW} (h : wI (p, m, y, s, t, g)) (hp : p = 0 ∨ p = 1 ∨ p = 2) (hs : wLet p m y s t g c = some σ) : wI σ := by
  obtain ⟨h1, h2, h3, h4, h5, h6, h7, h8, h9⟩ := h
  dsimp only at h1 h2 h3 h4 h5 h6 h7 h8 h9
  unfold wLet at hs
  by_cases hc : isLt c = true ∧ m < 8
  · rw [if_pos hc] at hs
    cases hs
    have hl := isLt_iff.mp hc.1
    have e := pow_y (y := y)
    have hy : (if p = 2 then y else y + 1) ≤ 4 ∧ 1 ≤ (if p = 2 then y else y + 1) ∧ s < 2 ^ (if p = 2 then y else y + 1) := by
      rcases hp with rfl | rfl | rfl
      · obtain ⟨a, b⟩ := h4 rfl
        rw [if_neg (by decide)]
        refine ⟨by omega, by omega, by omega⟩
      · obtain ⟨a, b⟩ := h5 rfl
        rw [if_neg (by decide)]
        exact ⟨by omega, by omega, b⟩
      · obtain ⟨a, b, c⟩ := h6 (by decide)
        rw [if_pos rfl]
        exact ⟨h3, b, c⟩
    refine wI_mk (by decide) (Nat.succ_le_of_lt hc.2) hy.1 (fun g => absurd g (by decide)) (fun g => absurd g (by decide)) (fun _ => ⟨Nat.succ_le_succ (Nat.zero_le _), hy.2.1, hy.2.2⟩) h7 h8 (fun k hk => ?_)
    unfold upG
    by_cases e : k = m
    · rw [if_pos e]; exact hl
    · rw [if_neg e]; exact h9 k (by omega)
  · rw [if_neg hc] at hs
    cases hs
theorem wst_I {p m y s t c : Nat} {g : Nat → Nat} {σ : zW} (h : wI (p, m, y, s, t, g)) (hs : wst p m y s t g c = some σ) : wI σ := by
  have h0 := h
  obtain ⟨h1, h2, h3, h4, h5, h6, h7, h8, h9⟩ := h
  dsimp only at h1 h2 h3 h4 h5 h6 h7 h8 h9
  unfold wst at hs
  by_cases p0 : p = 0
  · subst p0
    rw [if_pos rfl] at hs
    by_cases c1 : c = 39
    · rw [if_pos c1] at hs
      cases hs
      obtain ⟨a, b⟩ := h4 rfl
      have e := pow_y (y := y)
      exact wI_mk (by decide) h2 h3 (fun g => absurd g (by decide)) (fun _ => ⟨a, by omega⟩) (fun g => absurd g (by decide)) h7 h8 h9
    · rw [if_neg c1] at hs
      exact wLet_I h0 (Or.inl rfl) hs
  rw [if_neg p0] at hs
  by_cases p1 : p = 1
  · subst p1
    rw [if_pos rfl] at hs
    exact wLet_I h0 (Or.inr (Or.inl rfl)) hs
  rw [if_neg p1] at hs
  by_cases p2 : p = 2
  · subst p2
    rw [if_pos rfl] at hs
    by_cases c1 : isLt c = true ∧ m < 8
    · rw [if_pos c1] at hs
      exact wLet_I h0 (Or.inr (Or.inr rfl)) hs
    rw [if_neg c1] at hs
    obtain ⟨a, b, d⟩ := h6 (by decide)
    by_cases c2 : c = 45 ∧ y < 4
    · rw [if_pos c2] at hs
      cases hs
      exact wI_mk (by decide) h2 h3 (fun _ => ⟨by omega, d⟩) (fun g => absurd g (by decide)) (fun g => absurd g (by decide)) h7 h8 h9
    rw [if_neg c2] at hs
    by_cases c3 : c = 42
    · rw [if_pos c3] at hs
      cases hs
      exact wI_mk (by decide) h2 h3 (fun g => absurd g (by decide)) (fun g => absurd g (by decide)) (fun _ => ⟨a, b, d⟩) h7 h8 h9
    rw [if_neg c3] at hs
    cases hs
  rw [if_neg p2] at hs
  by_cases p3 : p = 3
  · subst p3
    rw [if_pos rfl] at hs
    by_cases c1 : 49 ≤ c ∧ c ≤ 57
    · rw [if_pos c1] at hs
      cases hs
      obtain ⟨a, b, d⟩ := h6 (by decide)
      exact wI_mk (by decide) h2 h3 (fun g => absurd g (by decide)) (fun g => absurd g (by decide)) (fun _ => ⟨a, b, d⟩) (by omega) (by omega) h9
    · rw [if_neg c1] at hs
      cases hs
  rw [if_neg p3] at hs
  cases hs
theorem wrn_I {tx : Nat → Nat} : ∀ (n i : Nat) {σ σ' : zW}, wI σ → wrn tx n i σ = .inr σ' → wI σ' := by
  intro n
  induction n with
  | zero => intro i σ σ' h hs; cases hs; exact h
  | succ n ih =>
    intro i σ σ' h hs
    obtain ⟨p, m, y, s, t, g⟩ := σ
    rw [wrn] at hs
    dsimp only at hs
    cases hw : wst p m y s t g (tx i) with
    | none => rw [hw] at hs; cases hs
    | some σ1 => rw [hw] at hs; exact ih (i + 1) (wst_I h hw) hs
theorem wres_I {tx : Nat → Nat} {len i : Nat} {σ σ' : zW} (h : wI σ) (hs : wres tx len i σ = .inr σ') : wI σ' ∧ (σ'.1 = 2 ∨ σ'.1 = 4) := by
  unfold wres at hs
  cases hw : wrn tx (len - i) i σ with
  | inl j => rw [hw] at hs; cases hs
  | inr σ1 =>
    rw [hw] at hs
    unfold wfin at hs
    dsimp only at hs
    by_cases c : σ1.1 = 2 ∨ σ1.1 = 4
    · rw [if_pos c] at hs
      cases hs
      exact ⟨wrn_I _ _ h hw, c⟩
    · rw [if_neg c] at hs
      cases hs
theorem wrn_le {tx : Nat → Nat} : ∀ (n i : Nat) {σ : zW} {j : Nat}, wrn tx n i σ = .inl j → i ≤ j ∧ j < i + n := by
  intro n
  induction n with
  | zero => intro i σ j hs; cases hs
  | succ n ih =>
    intro i σ j hs
    rw [wrn] at hs
    cases hw : wst σ.1 σ.2.1 σ.2.2.1 σ.2.2.2.1 σ.2.2.2.2.1 σ.2.2.2.2.2 (tx i) with
    | none => rw [hw] at hs; cases hs; omega
    | some σ1 =>
      rw [hw] at hs
      have := ih (i + 1) hs
      omega
theorem wres_le {tx : Nat → Nat} {len i : Nat} {σ : zW} {j : Nat} (hi : i ≤ len) (hs : wres tx len i σ = .inl j) : j ≤ len := by
  unfold wres at hs
  cases hw : wrn tx (len - i) i σ with
  | inl j' =>
    rw [hw] at hs
    cases hs
    have := wrn_le _ _ hw
    omega
  | inr σ1 =>
    rw [hw] at hs
    unfold wfin at hs
    dsimp only at hs
    by_cases c : σ1.1 = 2 ∨ σ1.1 = 4
    · rw [if_pos c] at hs
      cases hs
    · rw [if_neg c] at hs
      cases hs
      exact Nat.le_refl _
/-- one sign more is read -/
theorem wres_step {tx : Nat → Nat} {len i : Nat} {p m y s t : Nat} {g : Nat → Nat} {σ' : zW} (hi : i < len) (hs : wst p m y s t g (tx i) = some σ') : wres tx len i (p, m, y, s, t, g) = wres tx len (i + 1) σ' := by
  unfold wres
  rw [show len - i = (len - (i + 1)) + 1 by omega, wrn]
  dsimp only
  rw [hs]
theorem wres_bad {tx : Nat → Nat} {len i : Nat} {p m y s t : Nat} {g : Nat → Nat} (hi : i < len) (hs : wst p m y s t g (tx i) = none) : wres tx len i (p, m, y, s, t, g) = .inl i := by
  unfold wres
  rw [show len - i = (len - (i + 1)) + 1 by omega, wrn]
  dsimp only
  rw [hs]
  rfl
theorem wres_end {tx : Nat → Nat} {len : Nat} {σ : zW} : wres tx len len σ = if σ.1 = 2 ∨ σ.1 = 4 then .inr σ else .inl len := by
  unfold wres
  rw [Nat.sub_self]
  rfl
theorem or_bit {s y : Nat} (h : s < 2 ^ y) : s ||| 1 * 2 ^ y = s + 2 ^ y := by
  rw [Nat.or_comm, Nat.mul_comm 1, ← Nat.two_pow_add_eq_or_of_lt h]
  omega
theorem wor_bit {s y : Nat} (h : s < 2 ^ y) (hy : y ≤ 4) : wor (s : Int) (wshl (1 : Int) (y : Int)) = ((s + 2 ^ y : Nat) : Int) := by
  have h2 : (2 : Nat) ^ y ≤ 2 ^ 4 := Nat.pow_le_pow_right (by decide) hy
  rw [show (1 : Int) = ((1 : Nat) : Int) from rfl, wshl_n 1 y (by omega) (by omega), wor_n _ _ (by rw [or_bit h]; omega), or_bit h]

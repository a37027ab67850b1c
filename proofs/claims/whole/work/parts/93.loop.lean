/-! the law's loop -/
section LO
theorem ar_lo {i L : Nat} (h1 : i + 3 ≤ L) (h2 : L ≤ 1536) : wrap (i : Int) = i ∧ ¬ wrap ((L : Int) - 3) < (i : Int) ∧ ((0 : Int) ≤ (i : Int) ∧ (i : Int) < (L : Int)) ∧ wrap ((i : Int) + 1) = ((i + 1 : Nat) : Int) ∧ ((0 : Int) ≤ ((i + 1 : Nat) : Int) ∧ ((i + 1 : Nat) : Int) < (L : Int)) ∧ wrap ((i : Int) + 2) = ((i + 2 : Nat) : Int) ∧ ((0 : Int) ≤ ((i + 2 : Nat) : Int) ∧ ((i + 2 : Nat) : Int) < (L : Int)) := by
  refine ⟨wrap_n (by omega), ?_, by omega, wrap_n (n := i + 1) (by omega), by omega, wrap_n (n := i + 2) (by omega), by omega⟩
  rw [wrap_eq (by omega)]
  omega
theorem Lw_step {E : zE} (hE : E.1 ≤ 1536) (hx : ∀ i, -2147483648 ≤ E.2 i ∧ E.2 i < 2147483648) (K : Int → zM → Option (Int × zM)) (n : Nat) {i : Nat} (hi : i + 3 ≤ E.1) {q : zM} (hq : zIN q) : ∃ q', zIN q' ∧ Lw_L18 E K (n + 1) (i : Int) q = Lw_L18 E K n ((i + 3 : Nat) : Int) q' := by
  obtain ⟨a1, a2, a3, a4, a5, a6, a7⟩ := ar_lo hi hE
  have h1 := hx (i + 1)
  have h2 := hx (i + 2)
  rw [Lw_L18, a1, if_neg a2, ck_in a3, a4, a6]
  simp only [Int.toNat_natCast]
  generalize E.2 (i + 1) = x at h1
  generalize E.2 (i + 2) = y at h2
  generalize wrap (wand (E.2 i) 31) = op
  clear a1 a2 a3 a4 a6 hi hx
  by_cases k0 : op = 0
  · obtain ⟨r, q1, q2, e1, e2, e3⟩ := cl_type hq x
    rw [if_pos k0, ck_in a5, e1, Option.bind_some, ck_in a5, e2, Option.bind_some, if_pos rfl]
    exact ⟨q2, e3, rfl⟩
  rw [if_neg k0]
  by_cases k1 : op = 1
  · obtain ⟨r, q1, q2, e1, e2, e3⟩ := cl_clearText hq
    rw [if_pos k1, e1, Option.bind_some, e2, Option.bind_some, if_pos rfl]
    exact ⟨q2, e3, rfl⟩
  rw [if_neg k1]
  by_cases k2 : op = 2
  · obtain ⟨r, q1, q2, e1, e2, e3⟩ := cl_addWord hq
    rw [if_pos k2, e1, Option.bind_some, e2, Option.bind_some, if_pos rfl]
    exact ⟨q2, e3, rfl⟩
  rw [if_neg k2]
  by_cases k3 : op = 3
  · obtain ⟨r, q1, q2, e1, e2, e3⟩ := cl_removeWord hq h1
    rw [if_pos k3, ck_in a5, e1, Option.bind_some, ck_in a5, e2, Option.bind_some, if_pos rfl]
    exact ⟨q2, e3, rfl⟩
  rw [if_neg k3]
  by_cases k4 : op = 4
  · obtain ⟨r, q1, q2, e1, e2, e3⟩ := cl_setLimit hq h1 h2
    rw [if_pos k4, ck_in a5, ck_in a7, e1, Option.bind_some, ck_in a5, ck_in a7, e2, Option.bind_some, if_pos rfl]
    exact ⟨q2, e3, rfl⟩
  rw [if_neg k4]
  by_cases k5 : op = 5
  · obtain ⟨r, q1, q2, e1, e2, e3⟩ := cl_setMetre hq h1 h2
    rw [if_pos k5, ck_in a5, ck_in a7, e1, Option.bind_some, ck_in a5, ck_in a7, e2, Option.bind_some, if_pos rfl]
    exact ⟨q2, e3, rfl⟩
  rw [if_neg k5]
  by_cases k6 : op = 6
  · obtain ⟨r, q1, q2, e1, e2, e3⟩ := cl_setEdges hq
    rw [if_pos k6, e1, Option.bind_some, e2, Option.bind_some, if_pos rfl]
    exact ⟨q2, e3, rfl⟩
  rw [if_neg k6]
  by_cases k7 : op = 7
  · obtain ⟨r, q1, q2, e1, e2, e3⟩ := cl_makeLine hq h1
    rw [if_pos k7, ck_in a5, e1, Option.bind_some, ck_in a5, e2, Option.bind_some, if_pos rfl]
    exact ⟨q2, e3, rfl⟩
  rw [if_neg k7]
  by_cases k8 : op = 8
  · obtain ⟨r, q1, q2, e1, e2, e3⟩ := cl_make hq
    rw [if_pos k8, e1, Option.bind_some, e2, Option.bind_some, if_pos rfl]
    exact ⟨q2, e3, rfl⟩
  rw [if_neg k8]
  by_cases k9 : op = 9
  · obtain ⟨r, q1, q2, e1, e2, e3⟩ := cl_clearLine hq h1
    rw [if_pos k9, ck_in a5, e1, Option.bind_some, ck_in a5, e2, Option.bind_some, if_pos rfl]
    exact ⟨q2, e3, rfl⟩
  rw [if_neg k9]
  by_cases k10 : op = 10
  · obtain ⟨r, q1, q2, e1, e2, e3⟩ := cl_undo hq
    rw [if_pos k10, e1, Option.bind_some, e2, Option.bind_some, if_pos rfl]
    exact ⟨q2, e3, rfl⟩
  rw [if_neg k10]
  by_cases k11 : op = 11
  · obtain ⟨r, q1, q2, e1, e2, e3⟩ := cl_keep hq h1
    rw [if_pos k11, ck_in a5, e1, Option.bind_some, ck_in a5, e2, Option.bind_some, if_pos rfl]
    exact ⟨q2, e3, rfl⟩
  rw [if_neg k11]
  by_cases k12 : op = 12
  · obtain ⟨r, q1, q2, e1, e2, e3⟩ := cl_restore hq h1
    rw [if_pos k12, ck_in a5, e1, Option.bind_some, ck_in a5, e2, Option.bind_some, if_pos rfl]
    exact ⟨q2, e3, rfl⟩
  rw [if_neg k12]
  by_cases k13 : op = 13
  · obtain ⟨r, e1, e2⟩ := cl_word hq h1 h2
    rw [if_pos k13, ck_in a5, ck_in a7, e1, Option.bind_some, ck_in a5, ck_in a7, e2, Option.bind_some, if_pos rfl]
    exact ⟨q, hq, rfl⟩
  rw [if_neg k13]
  by_cases k14 : op = 14
  · obtain ⟨r, e1, e2⟩ := cl_letterAt hq h1 h2
    rw [if_pos k14, ck_in a5, ck_in a7, e1, Option.bind_some, ck_in a5, ck_in a7, e2, Option.bind_some, if_pos rfl]
    exact ⟨q, hq, rfl⟩
  rw [if_neg k14]
  by_cases k15 : op = 15
  · obtain ⟨r, q1, q2, e1, e2, e3⟩ := cl_line hq h1 h2
    rw [if_pos k15, ck_in a5, ck_in a7, e1, Option.bind_some, ck_in a5, ck_in a7, e2, Option.bind_some, if_pos rfl]
    exact ⟨q2, e3, rfl⟩
  rw [if_neg k15]
  by_cases k16 : op = 16
  · obtain ⟨r, e1, e2⟩ := cl_wordAt hq h1 h2
    rw [if_pos k16, ck_in a5, ck_in a7, e1, Option.bind_some, ck_in a5, ck_in a7, e2, Option.bind_some, if_pos rfl]
    exact ⟨q, hq, rfl⟩
  rw [if_neg k16]
  by_cases k17 : op = 17
  · obtain ⟨r, q1, q2, e1, e2, e3⟩ := cl_nearMiss hq h1 h2
    rw [if_pos k17, ck_in a5, ck_in a7, e1, Option.bind_some, ck_in a5, ck_in a7, e2, Option.bind_some, if_pos rfl]
    exact ⟨q2, e3, rfl⟩
  rw [if_neg k17]
  by_cases k18 : op = 18
  · obtain ⟨r, q2, e1, e2, e3⟩ := cl_find hq
    rw [if_pos k18, e1, Option.bind_some, e2, Option.bind_some, if_pos rfl]
    exact ⟨q2, e3, rfl⟩
  rw [if_neg k18]
  by_cases k19 : op = 19
  · obtain ⟨r, e1, e2⟩ := cl_poemAt hq h1
    rw [if_pos k19, ck_in a5, e1, Option.bind_some, ck_in a5, e2, Option.bind_some, if_pos rfl]
    exact ⟨q, hq, rfl⟩
  rw [if_neg k19]
  by_cases k20 : op = 20
  · obtain ⟨r, e1, e2⟩ := cl_count hq x
    rw [if_pos k20, ck_in a5, e1, Option.bind_some, ck_in a5, e2, Option.bind_some, if_pos rfl]
    exact ⟨q, hq, rfl⟩
  rw [if_neg k20]
  exact ⟨q, hq, rfl⟩
theorem ar_le {i L : Nat} (h1 : L < i + 3) (h2 : i ≤ L) (h3 : L ≤ 1536) : wrap ((L : Int) - 3) < wrap (i : Int) := by
  rw [wrap_eq (x := (L : Int) - 3) (by omega), wrap_n (by omega)]
  omega
theorem Lw_all {E : zE} (hE : E.1 ≤ 1536) (hx : ∀ i, -2147483648 ≤ E.2 i ∧ E.2 i < 2147483648) : ∀ (d i n : Nat) (q : zM), E.1 < i + 3 * d + 3 → i ≤ E.1 → d < n → zIN q → ∃ q', Lw_L18 E (fun _ q => some ((1 : Int), q)) n (i : Int) q = some (1, q') := by
  intro d
  induction d with
  | zero =>
    intro i n q h1 h2 hn hq
    obtain ⟨n, rfl⟩ : ∃ m, n = m + 1 := ⟨n - 1, by omega⟩
    refine ⟨q, ?_⟩
    rw [Lw_L18, if_pos (ar_le (by omega) h2 hE)]
  | succ d ih =>
    intro i n q h1 h2 hn hq
    obtain ⟨n, rfl⟩ : ∃ m, n = m + 1 := ⟨n - 1, by omega⟩
    by_cases c : i + 3 ≤ E.1
    · obtain ⟨q1, e1, e2⟩ := Lw_step hE hx (fun _ q => some ((1 : Int), q)) n c hq
      rw [e2]
      exact ih (i + 3) n q1 (by omega) c (by omega) e1
    · refine ⟨q, ?_⟩
      rw [Lw_L18, if_pos (ar_le (by omega) h2 hE)]
theorem Lw_ok {E : zE} (hE : E.1 ≤ 1536) (hx : ∀ i, -2147483648 ≤ E.2 i ∧ E.2 i < 2147483648) {q : zM} (hq : zIN q) : ∃ q', Lw E q = some (1, q') := Lw_all hE hx 600 0 5000 q (by omega) (Nat.zero_le _) (by omega) hq
end LO

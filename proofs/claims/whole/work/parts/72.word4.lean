/-! addWord: the reference's syllables one behind the other, and its fault -/
section WF
variable {tx : Nat → Nat} {len : Nat}
theorem fault_L26 (hl : len ≤ 40) (hr : ∀ i, tx i < 65536) (K : Int → zM → Option (Int × zM)) : ∀ (d j n : Nat) (q : zM) (m y s t : Nat) (g : Nat → Nat), j + d = len → d < n → wI (2, m, y, s, t, g) → zTM q tx len → zWM q m y s g → ¬ (j < len ∧ isLt (tx j) = true ∧ m < 8) → ∃ (r : Int) (q' : zM), Mo_wordFault_L26 K n (j : Int) q = K r q' ∧ zFR q q' ∧ q'.1 126 12 = q.1 126 12 ∧ ((∃ f : Nat, f ≤ len ∧ r = -1 - (f : Int) ∧ wres tx len j (2, m, y, s, t, g) = .inl f) ∨ ∃ (j' m' y' s' : Nat) (g' : Nat → Nat), r = (j' : Int) ∧ j' ≤ len ∧ wI (2, m', y', s', t, g') ∧ zWM q' m' y' s' g' ∧ ¬ (j' < len ∧ isLt (tx j') = true ∧ m' < 8) ∧ ¬ (j' < len ∧ tx j' = 45 ∧ y' < 4) ∧ wres tx len j (2, m, y, s, t, g) = wres tx len j' (2, m', y', s', t, g')) := by
  intro d
  induction d using Nat.strongRecOn with
  | _ d ih =>
    intro j n q m y s t g hj hn hI ht hx hst
    obtain ⟨n, rfl⟩ : ∃ m, n = m + 1 := ⟨n - 1, by omega⟩
    have hI0 := hI
    obtain ⟨-, h2, h3, -⟩ := hI
    dsimp only at h2 h3
    rw [Mo_wordFault_L26, wrap_n (n := j) (by omega), if_neg (c := (j : Int) < 0) (by omega), Mo_character_eq ht hl j (by omega), Option.bind_some]
    by_cases c : j < len ∧ tx j = 45
    · have hy := hx.2.1
      rw [if_pos c.1, c.2, if_pos (by decide), hy, wrap_n (n := y) (by omega)]
      by_cases cy : y < 4
      · rw [if_pos (by omega)]
        have hstp : wst 2 m y s t g (tx j) = some (0, m, y, s, t, g) := by
          unfold wst
          rw [if_neg (by omega), if_neg (by omega), if_pos rfl, if_neg (fun h => hst ⟨c.1, h.1, h.2⟩), if_pos ⟨c.2, cy⟩]
        have ws : wres tx len j (2, m, y, s, t, g) = wres tx len (j + 1) (0, m, y, s, t, g) := wres_step c.1 hstp
        obtain ⟨r, q1, r1, r2, r3, r4⟩ := Mo_syllable_eq (i := j + 1) hl hr (by omega) (wst_I hI0 hstp) ht hx
        have r1 : Mo_syllable q ((j : Int) + 1) = some (r, q1) := r1
        rw [r1, Option.bind_some]
        rcases r4 with ⟨f, f1, f2, f3⟩ | ⟨j1, m1, s1, g1, e1, e2, e3, e4, e5, e6, e7⟩
        · refine ⟨r, q1, ?_, r2, r3, Or.inl ⟨f, f1, f2, ws.trans f3⟩⟩
          obtain ⟨n, rfl⟩ : ∃ m, n = m + 1 := ⟨n - 1, by omega⟩
          rw [Mo_wordFault_L26, wrap_eq (by omega), if_pos (by omega)]
        · obtain ⟨r', q2, k1, k2, k3, k4⟩ := ih (len - j1) (by omega) j1 n q1 m1 (y + 1) s1 t g1 (by omega) (by omega) e5 (zTM_fr r2 ht) e4 e6
          refine ⟨r', q2, ?_, zFR_trans r2 k2, k3.trans r3, ?_⟩
          · rw [← k1, e1]
          · rcases k4 with ⟨f, f1, f2, f3⟩ | ⟨j', m', y', s', g', l1, l2, l3, l4, l5, l6, l7⟩
            · exact Or.inl ⟨f, f1, f2, (ws.trans e7).trans f3⟩
            · exact Or.inr ⟨j', m', y', s', g', l1, l2, l3, l4, l5, l6, (ws.trans e7).trans l7⟩
      · rw [if_neg (by omega)]
        exact ⟨_, q, rfl, zFR_refl q, rfl, Or.inr ⟨j, m, y, s, g, rfl, by omega, hI0, hx, hst, fun h => cy h.2.2, rfl⟩⟩
    · rw [if_neg (c := wrap (if j < len then (tx j : Int) else -5) = 45) (fun h => by
        by_cases c1 : j < len
        · rw [if_pos c1] at h
          have := hr j
          rw [wrap_n (by omega)] at h
          exact c ⟨c1, by omega⟩
        · rw [if_neg c1] at h
          exact absurd h (by decide))]
      exact ⟨_, q, rfl, zFR_refl q, rfl, Or.inr ⟨j, m, y, s, g, rfl, by omega, hI0, hx, hst, fun h => c ⟨h.1, h.2.1⟩, rfl⟩⟩
/-- behind the last syllable -/
theorem fault_end (hl : len ≤ 40) (hr : ∀ i, tx i < 65536) {j m y s t : Nat} {g : Nat → Nat} {q : zM} (hj : j ≤ len) (ht : zTM q tx len) (hx : zWM q m y s g) (h12 : q.1 126 12 = t) (n1 : ¬ (j < len ∧ isLt (tx j) = true ∧ m < 8)) (n2 : ¬ (j < len ∧ tx j = 45 ∧ y < 4)) : ∃ (r : Int) (q' : zM), (if wrap (j : Int) < (0 : Int) then some ((-1 : Int) - (j : Int), q) else (Mo_character q (j : Int)).bind fun r_10 => if wrap r_10 = (42 : Int) then (Mo_character q ((j : Int) + (1 : Int))).bind fun r_13 => Mo_wordFault_b91 (qs q 126 12 (r_13 - (48 : Int))) (j : Int) else if wrap (j : Int) < wrap (q.1 126 6) then some ((j : Int), q) else some ((-5 : Int), q)) = some (r, q') ∧ zFR q q' ∧ ((∃ f : Nat, f ≤ len ∧ r = (f : Int) ∧ wres tx len j (2, m, y, s, t, g) = .inl f) ∨ ∃ (p' t' : Nat), r = -5 ∧ wres tx len j (2, m, y, s, t, g) = .inr (p', m, y, s, t', g) ∧ zWM q' m y s g ∧ q'.1 126 12 = t') := by
  have h6 := ht.1
  rw [wrap_n (n := j) (by omega), if_neg (by omega), Mo_character_eq ht hl j (by omega), Option.bind_some]
  by_cases c : j < len
  · have hrj := hr j
    rw [if_pos c, wrap_n (n := tx j) (by omega)]
    by_cases c42 : tx j = 42
    · rw [if_pos (by omega), show ((j : Int) + 1) = ((j + 1 : Nat) : Int) by omega, Mo_character_eq ht hl (j + 1) (by omega), Option.bind_some]
      have hst : wst 2 m y s t g (tx j) = some (3, m, y, s, t, g) := by
        unfold wst
        rw [if_neg (by omega), if_neg (by omega), if_pos rfl, if_neg (fun h => n1 ⟨c, h.1, h.2⟩), if_neg (by omega), if_pos c42]
      have ws : wres tx len j (2, m, y, s, t, g) = wres tx len (j + 1) (3, m, y, s, t, g) := wres_step c hst
      unfold Mo_wordFault_b91
      have f1 : ∀ x : Int, zFR q (qs q 126 12 x) := fun x => ⟨fun a h1 h2 => funext fun k => by rw [qs_at, if_neg (by omega)], rfl, fun k hk => by rw [qs_at, if_neg (by omega)]⟩
      have e12 : ∀ x : Int, (qs q 126 12 x).1 126 12 = x := fun x => by rw [qs_at, if_pos ⟨rfl, rfl⟩]
      have e6 : ∀ x : Int, (qs q 126 12 x).1 126 6 = len := fun x => by rw [qs_at, if_neg (by omega)]; exact h6
      rw [e12, e6]
      clear e6 h6
      by_cases c1 : j + 1 < len ∧ 49 ≤ tx (j + 1) ∧ tx (j + 1) ≤ 57
      · have hst2 : wst 3 m y s t g (tx (j + 1)) = some (4, m, y, s, tx (j + 1) - 48, g) := by
          unfold wst
          rw [if_neg (by omega), if_neg (by omega), if_neg (by omega), if_pos rfl, if_pos c1.2]
        have ws2 : wres tx len (j + 1) (3, m, y, s, t, g) = wres tx len (j + 1 + 1) (4, m, y, s, tx (j + 1) - 48, g) := wres_step c1.1 hst2
        rw [if_pos c1.1, show ((tx (j + 1) : Int) - 48) = ((tx (j + 1) - 48 : Nat) : Int) by omega, Mo_in_eq (by omega) (by decide) (by decide), Option.bind_some, if_pos (c := (1 : Int) ≤ ((tx (j + 1) - 48 : Nat) : Int) ∧ ((tx (j + 1) - 48 : Nat) : Int) ≤ 9) (by omega), if_neg one_ne, show ((j : Int) + 2) = ((j + 2 : Nat) : Int) by omega, wrap_n (n := j + 2) (by omega), wrap_n (n := len) (by omega)]
        by_cases c2 : j + 2 < len
        · rw [if_pos (by omega)]
          refine ⟨_, _, rfl, f1 _, Or.inl ⟨j + 2, by omega, rfl, ?_⟩⟩
          rw [ws, ws2]
          exact wres_bad c2 rfl
        · rw [if_neg (by omega)]
          refine ⟨_, _, rfl, f1 _, Or.inr ⟨4, tx (j + 1) - 48, rfl, ?_, ?_, e12 _⟩⟩
          · rw [ws, ws2, show j + 1 + 1 = len by omega, wres_end]
            exact if_pos (Or.inr rfl)
          · obtain ⟨x1, x2, x3, x4⟩ := hx
            exact ⟨by rw [qs_at, if_neg (by omega)]; exact x1, by rw [qs_at, if_neg (by omega)]; exact x2, by rw [qs_at, if_neg (by omega)]; exact x3, fun k hk => by rw [qs_at, if_neg (by omega)]; exact x4 k hk⟩
      · have hin : ¬ ((1 : Int) ≤ (if j + 1 < len then (tx (j + 1) : Int) else -5) - 48 ∧ (if j + 1 < len then (tx (j + 1) : Int) else -5) - 48 ≤ 9) := fun h => by
          by_cases cc : j + 1 < len
          · rw [if_pos cc] at h
            exact c1 ⟨cc, by omega, by omega⟩
          · rw [if_neg cc] at h
            omega
        have hrg : -2147483648 ≤ (if j + 1 < len then (tx (j + 1) : Int) else -5) - 48 ∧ (if j + 1 < len then (tx (j + 1) : Int) else -5) - 48 < 2147483648 := by
          have := hr (j + 1)
          split <;> omega
        rw [Mo_in_eq hrg (by decide) (by decide), Option.bind_some, if_neg hin, if_pos zero_eq]
        refine ⟨_, _, rfl, f1 _, Or.inl ⟨j + 1, by omega, by omega, ?_⟩⟩
        rw [ws]
        by_cases cc : j + 1 < len
        · refine wres_bad cc ?_
          unfold wst
          rw [if_neg (by omega), if_neg (by omega), if_neg (by omega), if_pos rfl, if_neg (fun h => c1 ⟨cc, h⟩)]
        · rw [show j + 1 = len by omega, wres_end]
          exact if_neg (by show ¬ (3 = 2 ∨ 3 = 4); omega)
    · rw [if_neg (by omega), h6, wrap_n (n := len) (by omega), if_pos (by omega)]
      refine ⟨_, _, rfl, zFR_refl q, Or.inl ⟨j, hj, rfl, wres_bad c ?_⟩⟩
      unfold wst
      rw [if_neg (by omega), if_neg (by omega), if_pos rfl, if_neg (fun h => n1 ⟨c, h.1, h.2⟩), if_neg (fun h => n2 ⟨c, h.1, h.2⟩), if_neg c42]
  · rw [if_neg c, if_neg (by decide), h6, wrap_n (n := len) (by omega), if_neg (by omega)]
    refine ⟨_, _, rfl, zFR_refl q, Or.inr ⟨2, t, rfl, ?_, hx, h12⟩⟩
    rw [show j = len by omega, wres_end]
    exact if_pos (Or.inl rfl)
theorem Mo_wordFault_eq (hl : len ≤ 40) (hr : ∀ i, tx i < 65536) {q : zM} (ht : zTM q tx len) : ∃ (r : Int) (q' : zM), Mo_wordFault q = some (r, q') ∧ zFR q q' ∧ ((∃ f : Nat, f ≤ len ∧ r = (f : Int) ∧ wres tx len 0 zW0 = .inl f) ∨ ∃ σ : zW, r = -5 ∧ wres tx len 0 zW0 = .inr σ ∧ zWM q' σ.2.1 σ.2.2.1 σ.2.2.2.1 σ.2.2.2.2.2 ∧ q'.1 126 12 = σ.2.2.2.2.1) := by
  unfold Mo_wordFault Mo_wordFault_b5 Mo_wordFault_b10 Mo_wordFault_b15 Mo_wordFault_b20
  have f1 : zFR q (qs (qs (qs (qs q 126 9 0) 126 10 0) 126 11 0) 126 12 1) := ⟨fun a h1 h2 => funext fun k => by rw [qs_at, if_neg (by omega), qs_at, if_neg (by omega), qs_at, if_neg (by omega), qs_at, if_neg (by omega)], rfl, fun k hk => by rw [qs_at, if_neg (by omega), qs_at, if_neg (by omega), qs_at, if_neg (by omega), qs_at, if_neg (by omega)]⟩
  have w1 : zWM (qs (qs (qs (qs q 126 9 0) 126 10 0) 126 11 0) 126 12 1) 0 0 0 (fun _ => 0) := ⟨rfl, rfl, rfl, fun k hk => absurd hk (Nat.not_lt_zero _)⟩
  have e12 : (qs (qs (qs (qs q 126 9 0) 126 10 0) 126 11 0) 126 12 1).1 126 12 = ((1 : Nat) : Int) := rfl
  generalize qs (qs (qs (qs q 126 9 0) 126 10 0) 126 11 0) 126 12 1 = q1 at f1 w1 e12
  obtain ⟨r, q2, r1, r2, r3, r4⟩ := Mo_syllable_eq (i := 0) hl hr (Nat.zero_le _) wI0 (zTM_fr f1 ht) w1
  have r1 : Mo_syllable q1 0 = some (r, q2) := r1
  rw [r1, Option.bind_some]
  dsimp only
  rcases r4 with ⟨f, k1, k2, k3⟩ | ⟨j, m, s, g, k1, k2, k3, k4, k5, k6, k7⟩
  · refine ⟨(f : Int), q2, ?_, zFR_trans f1 r2, Or.inl ⟨f, k1, rfl, k3⟩⟩
    rw [k2, Mo_wordFault_L26, wrap_eq (x := -1 - (f : Int)) (by omega), if_pos (by omega), if_pos (by omega)]
    exact congrArg (fun z => some (z, q2)) (by omega)
  · obtain ⟨r', q3, l1, l2, l3, l4⟩ := fault_L26 hl hr (fun v1_7 q_8 => if wrap v1_7 < (0 : Int) then some ((-1 : Int) - v1_7, q_8) else (Mo_character q_8 v1_7).bind fun r_10 => if wrap r_10 = (42 : Int) then (Mo_character q_8 (v1_7 + (1 : Int))).bind fun r_13 => Mo_wordFault_b91 (qs q_8 126 12 (r_13 - (48 : Int))) v1_7 else if wrap v1_7 < wrap (q_8.1 126 6) then some (v1_7, q_8) else some ((-5 : Int), q_8)) (len - j) j 5000 q2 m (0 + 1) s 1 g (by omega) (by omega) k5 (zTM_fr (zFR_trans f1 r2) ht) k4 k6
    rw [k1, l1]
    rcases l4 with ⟨f, e1, e2, e3⟩ | ⟨j', m', y', s', g', e1, e2, e3, e4, e5, e6, e7⟩
    · refine ⟨(f : Int), q3, ?_, zFR_trans f1 (zFR_trans r2 l2), Or.inl ⟨f, e1, rfl, ?_⟩⟩
      · rw [e2, wrap_eq (by omega), if_pos (by omega)]
        exact congrArg (fun z => some (z, q3)) (by omega)
      · exact k7.trans e3
    · have t12 : q3.1 126 12 = ((1 : Nat) : Int) := l3.trans (r3.trans e12)
      obtain ⟨r'', q4, b1, b2, b3⟩ := fault_end (t := 1) hl hr e2 (zTM_fr (zFR_trans f1 (zFR_trans r2 l2)) ht) e4 t12 e5 e6
      refine ⟨r'', q4, ?_, zFR_trans f1 (zFR_trans r2 (zFR_trans l2 b2)), ?_⟩
      · rw [e1]
        exact b1
      · have ew : wres tx len 0 zW0 = wres tx len j' (2, m', y', s', 1, g') := k7.trans e7
        rcases b3 with ⟨f, d1, d2, d3⟩ | ⟨p', t', d1, d2, d3, d4⟩
        · exact Or.inl ⟨f, d1, d2, ew.trans d3⟩
        · exact Or.inr ⟨(p', m', y', s', t', g'), d1, ew.trans d2, d3, d4⟩
end WF

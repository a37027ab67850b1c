/-! p24: adds(), syllable by syllable -/
/-- the letter that the law types as the m-th one of a word -/
def aCh (h : Int) (m : Nat) : Nat := 97 + lo (wshr h ((3 : Int) * (m : Int))) 4
theorem aCh_rng (h : Int) (m : Nat) : 97 ≤ aCh h m ∧ aCh h m ≤ 122 := by
  have := lo_lt (wshr h ((3 : Int) * (m : Int))) (n := 4) (by decide)
  unfold aCh
  omega
theorem wand1 (v : Int) : wand v 1 = 0 ∨ wand v 1 = 1 := by
  unfold wand
  have e : ((Int32.ofInt v &&& Int32.ofInt 1).toBitVec).toNat ≤ 1 := by
    rw [Int32.toBitVec_and, BitVec.toNat_and]
    exact Nat.le_trans Nat.and_le_right (by decide)
  rw [← Int32.toInt_toBitVec, BitVec.toInt_eq_toNat_of_lt (by omega)]
  omega
theorem upG_zero (g : Nat → Nat) (m c : Nat) : upG g m c 0 = if m = 0 then c else g 0 := by
  unfold upG
  by_cases h : m = 0
  · rw [if_pos h, if_pos h.symm]
  · rw [if_neg h, if_neg (fun q => h q.symm)]
theorem upG_last (g : Nat → Nat) (m c : Nat) : upG g m c (m + 1 - 1) = c := by
  unfold upG
  rw [if_pos (by omega)]
section AE
variable {q : zM} {A B : zT9} {tx : List Nat}
theorem snoc_len (tx : List Nat) (c : Nat) : (tx ++ [c]).length = tx.length + 1 := by rw [List.length_append]; rfl
theorem adds_letter (v1 v2 v3 v5 v9 : Int) (K : Int → Int → Int → Int → Int → zM → Option (Int × zM)) {m i n : Nat} (h : zSt q A tx) (hl : tx.length < 40) (hm : m < 100) (v6 f l : Int) (hc : wrap (i : Int) < wrap ((1 : Int) + wand (wshr v1 ((3 : Int) + v9)) 1)) : ∃ q', Lw_adds_L108 v1 v2 v3 v5 v9 K (n + 1) (m : Int) v6 f l (i : Int) q = Lw_adds_L108 v1 v2 v3 v5 v9 K n ((m + 1 : Nat) : Int) ((tx.length + 1 : Nat) : Int) (if m = 0 then (aCh v2 m : Int) else f) (aCh v2 m : Int) ((i + 1 : Nat) : Int) q' ∧ zSt q' A (tx ++ [aCh v2 m]) := by
  have hr := aCh_rng v2 m
  obtain ⟨q', t1, t2⟩ := s_type h (c := aCh v2 m) hl (by omega)
  refine ⟨q', ?_, t2⟩
  have e1 : (97 : Int) + (lo (wshr v2 ((3 : Int) * (m : Int))) 4 : Int) = (aCh v2 m : Int) := by unfold aCh; omega
  have e2 : (aCh v2 m : Int) % 65536 = (aCh v2 m : Int) := by omega
  have e3 : (m : Int) + 1 = ((m + 1 : Nat) : Int) := by omega
  have e4 : (i : Int) + 1 = ((i + 1 : Nat) : Int) := by omega
  have e5 : (m : Int) = 0 ↔ m = 0 := by omega
  have e6 : wrap (m : Int) = m := wrap_n (by omega)
  rw [Lw_adds_L108, if_pos hc, show (4 : Int) = ((4 : Nat) : Int) from rfl, Lw_low_eq q _ (n := 4) (by decide) (by decide), Option.bind_some, e6, e1]
  unfold Lw_adds_j150
  rw [e2, t1, Option.bind_some, e3, e4]
  by_cases c : m = 0
  · rw [if_pos (e5.mpr c), if_pos c]
  · rw [if_neg (fun g => c (e5.mp g)), if_neg c]
    rfl
theorem adds_L108 (v1 v2 v3 v5 v9 : Int) (K : Int → Int → Int → Int → Int → zM → Option (Int × zM)) {p m y s : Nat} {g : Nat → Nat} (h : zSt q A tx) (hr : rd tx (p, m, y, s, 1, g)) (hp : p = 0 ∨ p = 1) (hm : m ≤ 6) (hl : tx.length ≤ 30) (v6 f l : Int) (hf : 0 < m → f = (g 0 : Int)) : ∃ (q' : zM) (tx' : List Nat) (m' : Nat) (g' : Nat → Nat) (v6' f' l' x : Int), Lw_adds_L108 v1 v2 v3 v5 v9 K 5000 (m : Int) v6 f l 0 q = K (m' : Int) v6' f' l' x q' ∧ zSt q' A tx' ∧ rd tx' (2, m', y + 1, s, 1, g') ∧ m < m' ∧ m' ≤ m + 2 ∧ tx'.length ≤ tx.length + 2 ∧ f' = (g' 0 : Int) ∧ l' = (g' (m' - 1) : Int) := by
  have hb := wand1 (wshr v1 ((3 : Int) + v9))
  have h0 : wrap ((0 : Nat) : Int) < wrap ((1 : Int) + wand (wshr v1 ((3 : Int) + v9)) 1) := by
    rcases hb with hb | hb
    · rw [hb]; decide
    · rw [hb]; decide
  obtain ⟨q1, r1, r2⟩ := adds_letter v1 v2 v3 v5 v9 K (n := 4999) h (by omega) (show m < 100 by omega) v6 f l h0
  have w1 : rd (tx ++ [aCh v2 m]) (2, m + 1, y + 1, s, 1, upG g m (aCh v2 m)) := by
    have := wst_letter (y := y) (s := s) (t := 1) (g := g) (p := p) (m := m) (by omega) (by omega) (aCh_rng v2 m)
    rw [if_neg (by omega)] at this
    exact rd_snoc hr this
  have f1 : (if m = 0 then (aCh v2 m : Int) else f) = (upG g m (aCh v2 m) 0 : Int) := by
    rw [upG_zero]
    by_cases c : m = 0
    · rw [if_pos c, if_pos c]
    · rw [if_neg c, if_neg c]
      exact hf (by omega)
  have r1 : Lw_adds_L108 v1 v2 v3 v5 v9 K 5000 (m : Int) v6 f l 0 q = _ := r1
  rcases hb with hb | hb
  · refine ⟨q1, _, m + 1, _, _, _, _, _, r1.trans (by rw [Lw_adds_L108, hb, if_neg (by decide)]), r2, w1, by omega, by omega, by rw [snoc_len]; omega, f1, ?_⟩
    rw [upG_last]
  · have h1 : wrap ((0 + 1 : Nat) : Int) < wrap ((1 : Int) + wand (wshr v1 ((3 : Int) + v9)) 1) := by rw [hb]; decide
    obtain ⟨q2, s1, s2⟩ := adds_letter v1 v2 v3 v5 v9 K (n := 4998) r2 (by rw [snoc_len]; omega) (show m + 1 < 100 by omega) ((tx.length + 1 : Nat) : Int) (if m = 0 then (aCh v2 m : Int) else f) (aCh v2 m : Int) h1
    have w2 : rd (tx ++ [aCh v2 m] ++ [aCh v2 (m + 1)]) (2, m + 1 + 1, y + 1, s, 1, upG (upG g m (aCh v2 m)) (m + 1) (aCh v2 (m + 1))) := by
      have := wst_letter (y := y + 1) (s := s) (t := 1) (g := upG g m (aCh v2 m)) (p := 2) (m := m + 1) (by omega) (by omega) (aCh_rng v2 (m + 1))
      rw [if_pos rfl] at this
      exact rd_snoc w1 this
    refine ⟨q2, _, m + 1 + 1, _, _, _, _, _, r1.trans (s1.trans (by rw [Lw_adds_L108, hb, if_neg (by decide)])), s2, w2, by omega, by omega, by rw [snoc_len, snoc_len]; omega, ?_, ?_⟩
    · rw [if_neg (Nat.succ_ne_zero m), upG_zero, if_neg (Nat.succ_ne_zero m)]
      exact f1
    · rw [upG_last]
theorem ar_pw {k s : Nat} (hs : s < 2 ^ k) : s + 2 ^ k < 2 ^ (k + 1) ∧ s < 2 ^ (k + 1) := by
  have e := pow_y (y := k)
  omega
theorem adds_j64 (v1 v2 v3 : Int) (K R : Int → Int → Int → Int → Int → Int → zM → Option (Int × zM)) {m k s : Nat} {g : Nat → Nat} (h : zSt q A tx) (hr : rd tx (0, m, k, s, 1, g)) (hk : k ≤ 2) (hm : m ≤ 4) (hl : tx.length ≤ 20) (hs : s < 2 ^ k) (v6 f l : Int) (hf : 0 < m → f = (g 0 : Int)) : ∃ (q' : zM) (tx' : List Nat) (m' s' : Nat) (g' : Nat → Nat) (v6' f' l' : Int), Lw_adds_j64 q v1 v2 v3 (m : Int) (s : Int) v6 f l (k : Int) K R = R (m' : Int) (s' : Int) v6' f' l' ((k + 1 : Nat) : Int) q' ∧ zSt q' A tx' ∧ rd tx' (2, m', k + 1, s', 1, g') ∧ m < m' ∧ m' ≤ m + 2 ∧ tx'.length ≤ tx.length + 3 ∧ s' < 2 ^ (k + 1) ∧ f' = (g' 0 : Int) ∧ l' = (g' (m' - 1) : Int) := by
  obtain ⟨p1, p2⟩ := ar_pw hs
  have ek : (k : Int) + 1 = ((k + 1 : Nat) : Int) := by omega
  unfold Lw_adds_j64
  by_cases c : wrap (wand (wshr v2 (k : Int)) (1 : Int)) = (1 : Int)
  · rw [if_pos c]
    obtain ⟨q1, t1, t2⟩ := s_type h (c := 39) (by omega) (by decide)
    have w1 : rd (tx ++ [39]) (1, m, k, s + 2 ^ k, 1, g) := rd_snoc hr wst_stress
    obtain ⟨q2, a1, a2⟩ := add_mid t2 w1 (show (1 : Nat) ≠ 2 by decide) (show (1 : Nat) ≠ 4 by decide)
    rw [snoc_len] at a1
    obtain ⟨q', tx', m', g', v6', f', l', x, r1, r2, r3, r4, r5, r6, r7, r8⟩ := adds_L108 v1 v2 v3 ((s + 2 ^ k : Nat) : Int) (k : Int) (fun v4_10 v6_11 v7_12 v8_13 v10_14 q_15 => R v4_10 ((s + 2 ^ k : Nat) : Int) v6_11 v7_12 v8_13 ((k : Int) + 1) q_15) a2 w1 (Or.inr rfl) (by omega) (by rw [snoc_len]; omega) ((tx.length + 1 : Nat) : Int) f l hf
    refine ⟨q', tx', m', s + 2 ^ k, g', v6', f', l', ?_, r2, r3, r4, r5, by rw [snoc_len] at r6; omega, p1, r7, r8⟩
    have t1 : Ev_type q 39 = _ := t1
    rw [t1, Option.bind_some]
    dsimp only
    rw [a1, Option.bind_some]
    dsimp only
    rw [if_pos rfl, wor_bit hs (by omega), ← ek]
    exact r1
  · rw [if_neg c]
    obtain ⟨q', tx', m', g', v6', f', l', x, r1, r2, r3, r4, r5, r6, r7, r8⟩ := adds_L108 v1 v2 v3 (s : Int) (k : Int) (fun v4_10 v6_11 v7_12 v8_13 v10_14 q_15 => R v4_10 (s : Int) v6_11 v7_12 v8_13 ((k : Int) + 1) q_15) h hr (Or.inl rfl) (by omega) (by omega) v6 f l hf
    refine ⟨q', tx', m', s, g', v6', f', l', ?_, r2, r3, r4, r5, by omega, p2, r7, r8⟩
    rw [← ek]
    exact r1
theorem ar_a31 {k n : Nat} (hk : k < n) (hn : n ≤ 3) : wrap (k : Int) = k ∧ wrap (n : Int) = n ∧ (k : Int) < (n : Int) ∧ (0 < (k : Int) ↔ k ≠ 0) := ⟨wrap_n (by omega), wrap_n (by omega), by omega, by omega⟩
theorem adds_L31 (v1 v2 : Int) {n : Nat} (hn : n ≤ 3) (K : Int → Int → Int → Int → Int → Int → zM → Option (Int × zM)) : ∀ (d k fu : Nat) (q : zM) (tx : List Nat) (m s : Nat) (g : Nat → Nat) (v6 f l : Int), k + d = n → d < fu → zSt q A tx → rd tx ((if k = 0 then 0 else 2), m, k, s, 1, g) → m ≤ 2 * k → k ≤ m → tx.length ≤ 4 * k → s < 2 ^ k → (0 < m → f = (g 0 : Int) ∧ l = (g (m - 1) : Int)) → ∃ (q' : zM) (tx' : List Nat) (m' s' : Nat) (g' : Nat → Nat) (v6' f' l' : Int), Lw_adds_L31 v1 v2 (n : Int) K fu (m : Int) (s : Int) v6 f l (k : Int) q = K (m' : Int) (s' : Int) v6' f' l' (n : Int) q' ∧ zSt q' A tx' ∧ rd tx' ((if n = 0 then 0 else 2), m', n, s', 1, g') ∧ m' ≤ 6 ∧ n ≤ m' ∧ tx'.length ≤ 12 ∧ (0 < m' → f' = (g' 0 : Int) ∧ l' = (g' (m' - 1) : Int)) := by
  intro d
  induction d with
  | zero =>
    intro k fu q tx m s g v6 f l hk hfu h hr h1 h2 h3 h4 h5
    obtain ⟨fu, rfl⟩ : ∃ x, fu = x + 1 := ⟨fu - 1, by omega⟩
    have e : k = n := by omega
    subst e
    refine ⟨q, tx, m, s, g, v6, f, l, ?_, h, hr, by omega, h2, by omega, h5⟩
    rw [Lw_adds_L31, if_neg (Int.lt_irrefl _)]
  | succ d ih =>
    intro k fu q tx m s g v6 f l hk hfu h hr h1 h2 h3 h4 h5
    obtain ⟨fu, rfl⟩ : ∃ x, fu = x + 1 := ⟨fu - 1, by omega⟩
    have hkn : k < n := by omega
    have hfu' : d < fu := by omega
    have hk' : k + 1 + d = n := by omega
    have go : ∀ (q1 : zM) (tx1 : List Nat) (v6 : Int), zSt q1 A tx1 → rd tx1 (0, m, k, s, 1, g) → tx1.length ≤ tx.length + 1 → ∃ (q' : zM) (tx' : List Nat) (m' s' : Nat) (g' : Nat → Nat) (v6' f' l' : Int), Lw_adds_j64 q1 v1 v2 (n : Int) (m : Int) (s : Int) v6 f l (k : Int) K (Lw_adds_L31 v1 v2 (n : Int) K fu) = K (m' : Int) (s' : Int) v6' f' l' (n : Int) q' ∧ zSt q' A tx' ∧ rd tx' ((if n = 0 then 0 else 2), m', n, s', 1, g') ∧ m' ≤ 6 ∧ n ≤ m' ∧ tx'.length ≤ 12 ∧ (0 < m' → f' = (g' 0 : Int) ∧ l' = (g' (m' - 1) : Int)) := by
      intro q1 tx1 v6 g1 g2 g3
      obtain ⟨q2, tx2, m2, s2, g4, v62, f2, l2, b1, b2, b3, b4, b5, b6, b7, b8, b9⟩ := adds_j64 v1 v2 (n : Int) K (Lw_adds_L31 v1 v2 (n : Int) K fu) g1 g2 (by omega) (by omega) (by omega) h4 v6 f l (fun hm => (h5 hm).1)
      rw [b1]
      exact ih (k + 1) fu q2 tx2 m2 s2 g4 v62 f2 l2 hk' hfu' b2 (by rw [if_neg (Nat.succ_ne_zero k)]; exact b3) (by omega) (by omega) (by omega) b7 (fun _ => ⟨b8, b9⟩)
    obtain ⟨a1, a2, a3, a4⟩ := ar_a31 hkn hn
    rw [Lw_adds_L31, a1, a2, if_pos a3]
    by_cases c : k = 0
    · rw [if_neg (fun g => (a4.mp g) c)]
      refine go q tx v6 h ?_ (Nat.le_succ _)
      rw [if_pos c] at hr
      exact hr
    · rw [if_neg c] at hr
      have hlt : tx.length < 40 := by clear a1 a2; omega
      obtain ⟨q1, t1, t2⟩ := s_type h (c := 45) hlt (by decide)
      have w1 : rd (tx ++ [45]) (0, m, k, s, 1, g) := rd_snoc hr (wst_hyphen (m := m) (y := k) (s := s) (t := 1) (g := g) (by clear a1 a2; omega))
      obtain ⟨q2, e1, e2⟩ := add_mid t2 w1 (show (0 : Nat) ≠ 2 by decide) (show (0 : Nat) ≠ 4 by decide)
      rw [snoc_len] at e1
      have t1 : Ev_type q 45 = _ := t1
      rw [if_pos (a4.mpr c), t1, Option.bind_some]
      dsimp only
      rw [e1, Option.bind_some]
      dsimp only
      rw [if_pos rfl]
      exact go q2 (tx ++ [45]) _ e2 w1 (by rw [snoc_len]; exact Nat.le_refl _)
theorem add_fst {m : Nat} {σ : zW} {g : Nat → Nat} (hm : σ.2.1 = m) (hg : σ.2.2.2.2.2 = g) (h8 : m ≤ 8) (hf : fstTo (isW A m g) (aN A) = aN A) : fstTo (isW (aAdd A σ) (aNl (aAdd A σ) (aN A)) (aLt (aAdd A σ) (aN A))) (aN (aAdd A σ)) = aN A := by
  have e1 : aNl (aAdd A σ) (aN A) = m := by rw [(aAdd_new (A := A) (σ := σ)).1, hm]
  refine fstTo_eq (show aN A < aN A + 1 by omega) ((isW_iff _ _ _ _).mpr ⟨rfl, fun _ _ => rfl⟩) (fun i hi => ?_)
  have h1 := (fstTo_all (isW A m g) (aN A)).mp hf i hi
  cases hc : isW (aAdd A σ) (aNl (aAdd A σ) (aN A)) (aLt (aAdd A σ) (aN A)) i with
  | false => rfl
  | true =>
    exfalso
    obtain ⟨c1, c2⟩ := (isW_iff _ _ _ _).mp hc
    rw [e1] at c1 c2
    rw [(aAdd_old (σ := σ) hi).1] at c1
    have : isW A m g i = true := (isW_iff _ _ _ _).mpr ⟨c1, fun k hk => by
      have := c2 k hk
      rw [aAdd_lt (by omega), aAdd_lt (by omega), if_neg (Nat.ne_of_lt hi), if_pos rfl, hg] at this
      exact this⟩
    rw [h1] at this
    cases this
theorem adds_j227 (h : zSt q A tx) (hm : zLm A) (hN : zLn A) {p m y s t : Nat} {g : Nat → Nat} (hr : rd tx (p, m, y, s, t, g)) (hp : p = 2 ∨ p = 4) (hm1 : 1 ≤ m) (hl : tx.length ≤ 20) (v1 v2 v6 : Int) : ∃ q' B tx', Lw_adds_j227 q v1 v2 (y : Int) (m : Int) (s : Int) v6 (g 0 : Int) (g (m - 1) : Int) (t : Int) = some (1, q') ∧ zGd q' B tx' := by
  have hX := zSt_rx h
  have hW := zSt_wf h
  have hN40 := hW.1
  unfold Lw_adds_j227
  rw [x_count0 hX hW, Option.bind_some]
  rcases add_done h hr hp with ⟨-, q1, a1, a2⟩ | ⟨q1, a1, a2⟩ | ⟨hI, h40, hf, q1, a1, a2⟩
  · refine ⟨q1, A, tx, ?_, a2, hm, hN⟩
    rw [a1, Option.bind_some]
    dsimp only
    rw [if_pos (by decide)]
    unfold Lw_adds_j254
    rw [x_count0 (zSt_rx a2) hW, Option.bind_some, if_pos rfl]
  · refine ⟨q1, A, tx, ?_, a2, hm, hN⟩
    rw [a1, Option.bind_some]
    dsimp only
    rw [if_neg (by decide), if_pos (by decide)]
    unfold Lw_adds_j254
    rw [x_count0 (zSt_rx a2) hW, Option.bind_some, if_pos rfl]
  · have hX1 := zSt_rx a2
    have hW1 := zSt_wf a2
    have hw : aN A < aN (aAdd A (p, m, y, s, t, g)) := Nat.lt_succ_self _
    obtain ⟨n1, n2, n3, n4⟩ := aAdd_new (A := A) (σ := (p, m, y, s, t, g))
    have m8 : m ≤ 8 := hI.2.1
    have l0 : aLt (aAdd A (p, m, y, s, t, g)) (aN A) 0 = g 0 := by rw [aAdd_lt (by decide), if_pos rfl]
    have l9 : aLt (aAdd A (p, m, y, s, t, g)) (aN A) (m - 1) = g (m - 1) := by rw [aAdd_lt (by omega), if_pos rfl]
    have d0 := x_word0 hX1 hW1 hw
    have d1 := x_word1 hX1 hW1 hw
    have d2 := x_word2 hX1 hW1 hw
    have d3 := x_word3 hX1 hW1 hw
    have d5 := x_word5 hX1 hW1 hw
    have d6 := x_word6 hX1 hW1 hw
    have dc := x_count0 hX1 hW1
    rw [n1] at d0
    rw [n2] at d1
    rw [n3] at d2
    rw [n4] at d3
    rw [l0] at d5
    rw [n1] at d6
    dsimp only at d0 d1 d2 d3 d6
    rw [l9] at d6
    have e1 : (aN (aAdd A (p, m, y, s, t, g)) : Int) = (aN A : Int) + 1 := by
      show ((aN A + 1 : Nat) : Int) = _
      omega
    rw [e1] at dc
    obtain ⟨q2, t1, t2⟩ := s_type a2 (c := 46) (by omega) (by decide)
    obtain ⟨q3, b1, b2⟩ := add_dot t2 hr (wst_dot hp)
    obtain ⟨q4, tx4, f1, f2⟩ := Lw_finds_eq b2 hw (add_fst rfl rfl m8 hf)
    have hiv := zIv_add hm hN hW hI
    refine ⟨q4, _, tx4, ?_, f2, hiv.1, hiv.2⟩
    have e2 : (-99 : Int) - ((tx.length + 1 : Nat) : Int) = -100 - (tx.length : Int) := by omega
    have k1 : ¬ (aN A : Int) = -4 := by omega
    have k2 : ¬ (aN A : Int) = -3 := by omega
    have r1 : wrap (aN A : Int) = aN A := wrap_n (by omega)
    have t1 : Ev_type q1 46 = _ := t1
    rw [a1, Option.bind_some]
    dsimp only
    rw [r1, if_neg k1, if_neg k2, if_pos rfl, dc, Option.bind_some, if_pos rfl, d0, Option.bind_some, if_pos rfl, d1, Option.bind_some, if_pos rfl, d2, Option.bind_some, if_pos rfl, d3, Option.bind_some, if_pos rfl, d5, Option.bind_some, if_pos rfl, d6, Option.bind_some, if_pos rfl]
    unfold Lw_adds_j366
    rw [t1, Option.bind_some, if_neg one_ne]
    dsimp only
    rw [b1, Option.bind_some]
    dsimp only
    rw [e2, if_pos rfl, f1, Option.bind_some]
    dsimp only
    rw [if_neg one_ne]
theorem Lw_adds_eq (h : zGd q A tx) (v1 v2 : Int) : ∃ q' B tx', Lw_adds q v1 v2 = some (1, q') ∧ zGd q' B tx' := by
  obtain ⟨hS, hm, hN⟩ := h
  obtain ⟨q1, c1, c2⟩ := s_clear hS
  have hlo := lo_lt v1 (n := 3) (by decide)
  have hlt := lo_lt (wshr v1 7) (n := 3) (by decide)
  have en : (1 : Int) + (lo v1 3 : Int) = ((1 + lo v1 3 : Nat) : Int) := by omega
  have et : (1 : Int) + (lo (wshr v1 7) 3 : Int) = ((1 + lo (wshr v1 7) 3 : Nat) : Int) := by omega
  have hn1 : 1 ≤ 1 + lo v1 3 := by omega
  have hn3 : 1 + lo v1 3 ≤ 3 := by omega
  have ht1 : 1 ≤ 1 + lo (wshr v1 7) 3 := by omega
  have ht3 : 1 + lo (wshr v1 7) 3 ≤ 3 := by omega
  unfold Lw_adds
  rw [c1, Option.bind_some]
  dsimp only
  rw [show (3 : Int) = ((3 : Nat) : Int) from rfl, Lw_low_eq q1 v1 (n := 3) (by decide) (by decide), Option.bind_some, en]
  generalize 1 + lo v1 3 = n at *
  obtain ⟨q2, tx2, m, s, g, v6, f, l, r1, r2, r3, r4, r5, r6, r7⟩ := adds_L31 (A := A) v1 v2 hn3 (fun v4_22 v5_23 v6_24 v7_25 v8_26 v9_27 q_28 => 
        (Lw_low q_28 (wshr v1 (7 : Int)) ((3 : Nat) : Int)).bind fun r_29 =>
          if (1 : Int) < wrap ((1 : Int) + r_29) then
            (Ev_type q_28 (42 : Int)).bind fun r_58 =>
              (Ev_addWord r_58.2 ).bind fun r_59 =>
                if wrap r_59.1 = wrap ((-100 : Int) - r_58.1) then
                  (Ev_type r_59.2 (((48 : Int) + ((1 : Int) + r_29)) % 65536)).bind fun r_61 =>
                    Lw_adds_j227 r_61.2 v1 v2 (n : Int) v4_22 v5_23 r_58.1 v7_25 v8_26 ((1 : Int) + r_29)
                else
                  some ((0 : Int), r_59.2)
          else
            Lw_adds_j227 q_28 v1 v2 (n : Int) v4_22 v5_23 v6_24 v7_25 v8_26 ((1 : Int) + r_29)) n 0 5000 q1 [] 0 0 (fun _ => 0) 0 0 0 (Nat.zero_add _) (by omega) c2 rd_nil (Nat.le_refl _) (Nat.le_refl _) (Nat.le_refl _) (by decide) (fun g => absurd g (Nat.lt_irrefl _))
  obtain ⟨rfl, rfl⟩ := r7 (by omega)
  rw [if_neg (by omega)] at r3
  have goal : ∀ X, (∃ q' B tx', X = some ((1 : Int), q') ∧ zGd q' B tx') → ∀ Y, Y = X → ∃ q' B tx', Y = some ((1 : Int), q') ∧ zGd q' B tx' := fun X hX Y e => by rw [e]; exact hX
  refine goal _ ?_ _ r1
  rw [Lw_low_eq q2 (wshr v1 7) (n := 3) (by decide) (by decide), Option.bind_some, et]
  generalize 1 + lo (wshr v1 7) 3 = t at *
  have rt : wrap (t : Int) = t := wrap_n (by omega)
  have e48 : ((48 : Int) + (t : Int)) % 65536 = ((48 + t : Nat) : Int) := by clear rt; omega
  rw [rt]
  by_cases c : 1 < t
  · have hl2 : tx2.length < 40 := by clear rt; omega
    have hdg : 49 ≤ 48 + t ∧ 48 + t ≤ 57 := by clear rt; omega
    obtain ⟨q3, t1, t2⟩ := s_type r2 (c := 42) hl2 (by decide)
    have w3 := rd_snoc r3 (wst_star (m := m) (y := n) (s := s) (t := 1) (g := g))
    obtain ⟨q4, a1, a2⟩ := add_mid t2 w3 (show (3 : Nat) ≠ 2 by decide) (show (3 : Nat) ≠ 4 by decide)
    rw [snoc_len] at a1
    obtain ⟨q5, u1, u2⟩ := s_type a2 (c := 48 + t) (by rw [snoc_len]; clear rt; omega) (by clear rt; omega)
    have w4 := rd_snoc w3 (wst_digit (m := m) (y := n) (s := s) (t := 1) (g := g) hdg)
    rw [show 48 + t - 48 = t by clear rt; omega] at w4
    have t1 : Ev_type q2 42 = _ := t1
    rw [if_pos (by clear rt; omega), t1, Option.bind_some]
    dsimp only
    rw [a1, Option.bind_some]
    dsimp only
    rw [if_pos rfl, e48, u1, Option.bind_some]
    dsimp only
    exact adds_j227 u2 hm hN w4 (Or.inr rfl) (by clear rt; omega) (by rw [snoc_len, snoc_len]; clear rt; omega) v1 v2 _
  · have e1 : t = 1 := by clear rt; omega
    rw [if_neg (by clear rt; omega)]
    rw [e1]
    exact adds_j227 r2 hm hN r3 (Or.inl rfl) (by clear rt; omega) (by clear rt; omega) v1 v2 _
end AE

/-! p24: near(): a near miss has one wrong letter, just one, and the metre -/
section NE
variable {A : zT9} {hs : List zT9} {sn : Nat → Option zT9} {tx : List Nat} {l : Nat} {fr lr : Bool}
theorem sS_parts {w b : Nat} (h : sS A l fr lr w b = true) : sU A l w = true ∧ aFitB A w b = true ∧ (b = 0 → (aLt A w 0 = aFe A l ↔ fr = true)) ∧ (b + aSy A w = aB A → (aLt A w (aNl A w - 1) = aLe A l ↔ lr = true)) := by
  unfold sS at h
  rw [Bool.and_eq_true, Bool.and_eq_true, Bool.and_eq_true] at h
  obtain ⟨⟨⟨h1, h2⟩, h3⟩, h4⟩ := h
  refine ⟨h1, h2, fun hb => ?_, fun hb => ?_⟩
  · rw [decide_eq_false (show ¬ b ≠ 0 from fun g => g hb), Bool.false_or, beq_iff_eq] at h3
    rw [← h3, decide_eq_true_iff]
  · rw [decide_eq_false (show ¬ b + aSy A w ≠ aB A from fun g => g hb), Bool.false_or, beq_iff_eq] at h4
    rw [← h4, decide_eq_true_iff]
theorem near_neg {q : zM} (h : zRX q 5 A) (hW : zWF A) (hl : l < aL A) : Ev_nearMiss q (l : Int) (-1) = some (-2, q) := by
  unfold Ev_nearMiss
  rw [Po_has_in h hW hl, Option.bind_some, if_neg one_ne, if_pos (by decide)]
theorem near_row {q : zM} (h : zGX q A hs sn tx) (hk : zOK A hs sn tx) (hl : l < aL A) : (∀ p r, nrR A l p r → r = -5) ∨ ∃ fr lr n e, (fr = !lr) ∧ gM A (sS A l fr lr) n 0 e ∧ ∀ p r, nrR A l p r → r = if p < n then (rW A (sS A l fr lr) n e p : Int) else -5 := by
  have hW := hk.1
  obtain ⟨r0, -, -, -, -, h0⟩ := Ev_near h hk hl (p := 0) (by decide)
  rcases h0 with ⟨a1, a2, -⟩ | ⟨n, e, a1, a2, -⟩ | ⟨n, e, a1, a2, -⟩
  · exact Or.inl fun p r hr => nrR_det hW hr (Or.inl ⟨a1, a2, rfl⟩)
  · exact Or.inr ⟨true, false, n, e, rfl, a1, fun p r hr => nrR_det hW hr (Or.inr (Or.inl ⟨n, e, a1, a2, rfl⟩))⟩
  · exact Or.inr ⟨false, true, n, e, rfl, a1, fun p r hr => nrR_det hW hr (Or.inr (Or.inr ⟨n, e, a1, a2, rfl⟩))⟩
/-- what the loop of near() has counted after i words -/
def nWr (fr : Bool) (i : Nat) : Nat := if i = 0 then 0 else if fr = true then 0 else 1
def nLa (A : zT9) (S : Nat → Nat → Bool) (n e : Nat) : Nat → Int
  | 0 => -1
  | i + 1 => (rW A S n e i : Int)
theorem ar_ne {i n b s d w : Nat} (hi : i < n) (hn : n ≤ 12) (hb : b < 13) (hs : s ≤ 4) (hd : d ≤ 1) (hw : w < 40) : wrap (i : Int) = i ∧ (i : Int) < 13 ∧ wrap (w : Int) = w ∧ ¬ (w : Int) < 0 ∧ wrap (d : Int) = d ∧ ¬ (d : Int) < 0 ∧ ((i : Int) = 0 ↔ i = 0) ∧ (i : Int) + 1 = ((i + 1 : Nat) : Int) ∧ (b : Int) + (s : Int) = ((b + s : Nat) : Int) := ⟨wrap_n (by omega), by omega, wrap_n (by omega), by omega, wrap_n (by omega), by omega, by omega, by omega, by omega⟩
theorem near_L10 (hk : zOK A hs sn tx) (hl : l < aL A) {n e : Nat} (hg : gM A (sS A l fr lr) n 0 e) (hr : ∀ p r, nrR A l p r → r = if p < n then (rW A (sS A l fr lr) n e p : Int) else -5) (K : Int → Int → Int → Int → zM → Option (Int × zM)) : ∀ (d i m : Nat) (q : zM), i + d = n → d < m → zGX q A hs sn tx → ∃ q', zGX q' A hs sn tx ∧ Lw_near_L10 (l : Int) K m (i : Int) ((rS A (sS A l fr lr) n e i).1 : Int) (nLa A (sS A l fr lr) n e i) (nWr fr i : Int) q = K (n : Int) ((rS A (sS A l fr lr) n e n).1 : Int) (nLa A (sS A l fr lr) n e n) (nWr fr n : Int) q' := by
  have hW := hk.1
  have hle := gG_le hW (sS_ok A l fr lr) hg.1
  have hB := hW.2.2.1
  have n12 : n ≤ 12 := by omega
  intro d
  induction d with
  | zero =>
    intro i m q hi hm hX
    obtain ⟨m, rfl⟩ : ∃ k, m = k + 1 := ⟨m - 1, by omega⟩
    have ei : i = n := by omega
    subst ei
    obtain ⟨r, q1, b1, b2, -, b4⟩ := Ev_near hX hk hl (p := i) (by omega)
    have hr1 := hr i r b4
    rw [if_neg (Nat.lt_irrefl _)] at hr1
    subst hr1
    refine ⟨q1, b2, ?_⟩
    rw [Lw_near_L10, wrap_n (n := i) (by omega), if_pos (by omega), b1, Option.bind_some]
    dsimp only
    rw [if_pos (by decide)]
  | succ d ih =>
    intro i m q hi hm hX
    obtain ⟨m, rfl⟩ : ∃ k, m = k + 1 := ⟨m - 1, by omega⟩
    have hin : i < n := by omega
    have hi31 : i < 2147483648 := by omega
    obtain ⟨f1, f2, f3, f4, f5⟩ := rW_ok hW (sS_ok A l fr lr) hg hin
    obtain ⟨s1, s2, s3, s4⟩ := sS_parts f2
    have hN := hW.1
    have hsy := (hW.2.2.2.2.2.2.1 _ f1).2.2.2.1
    have hbd := aBd_le A (rW A (sS A l fr lr) n e i) (rS A (sS A l fr lr) n e i).1
    obtain ⟨a1, a2, a3, a4, a5, a6, a7, a8, a9⟩ := ar_ne hin n12 (Nat.lt_of_lt_of_le f4 (Nat.le_trans hB (by decide))) hsy hbd (Nat.lt_of_lt_of_le f1 hN)
    obtain ⟨r, q1, b1, b2, -, b4⟩ := Ev_near hX hk hl (p := i) hi31
    have hr1 := hr i r b4
    rw [if_pos hin] at hr1
    subst hr1
    obtain ⟨r, q2, c1, c2, -, c4⟩ := Ev_near b2 hk hl (p := i) hi31
    have hr2 := hr i r c4
    rw [if_pos hin] at hr2
    subst hr2
    obtain ⟨q', g1, g2⟩ := ih (i + 1) m q2 (by clear a1 a2 a3 a5 a7 a8 a9; omega) (Nat.lt_of_succ_lt_succ hm) c2
    refine ⟨q', g1, ?_⟩
    rw [Lw_near_L10, a1, if_pos a2, b1, Option.bind_some]
    dsimp only
    rw [a3, if_neg a4, c1, Option.bind_some]
    dsimp only
    rw [Lw_bends_eq c2.1 hW f1 (by clear a1 a2 a3 a5 a7 a8 a9; omega), Option.bind_some, if_pos s2, a5, if_neg a6]
    unfold Lw_near_j71 Lw_near_j72
    rw [x_word1 c2.1 hW f1, Option.bind_some]
    by_cases c : i = 0
    · subst c
      have s3 := s3 rfl
      rw [if_pos (a7.mpr rfl), x_word5 c2.1 hW f1, Option.bind_some, x_line3 c2.1 hW hl, Option.bind_some]
      dsimp only
      rw [x_word1 c2.1 hW f1, Option.bind_some, a9, a8, ← g2]
      have hl1 := lt_rng hW f1 (k := 0) (hW.2.2.2.2.2.2.1 _ f1).1
      have hl2 := hW.2.2.2.2.2.2.2.1 l hl
      rw [wrap_n (n := aLt A (rW A (sS A l fr lr) n e 0) 0) (by clear a1 a3 a5 a7 a8 a9; omega), wrap_n (n := aFe A l) (by clear a1 a3 a5 a7 a8 a9; omega)]
      by_cases cf : fr = true
      · rw [if_pos (by have := s3.mpr cf; clear a1 a3 a5 a7 a8 a9; omega)]
        have e0 : (nWr fr 0 : Int) + 0 = (nWr fr (0 + 1) : Int) := by unfold nWr; rw [cf]; rfl
        rw [e0]
        rfl
      · rw [if_neg (by intro g; exact cf (s3.mp (by clear a1 a3 a5 a7 a8 a9; omega)))]
        have e0 : (nWr fr 0 : Int) + 1 = (nWr fr (0 + 1) : Int) := by unfold nWr; rw [if_pos rfl, if_neg (by decide), if_neg cf]; rfl
        rw [e0]
        rfl
    · rw [if_neg (fun g => c (a7.mp g)), a9, a8, ← g2]
      have e0 : (nWr fr i : Int) + 0 = (nWr fr (i + 1) : Int) := by
        unfold nWr
        rw [if_neg c, if_neg (Nat.succ_ne_zero i), Int.add_zero]
      rw [e0]
      rfl
theorem Lw_near_eq {q : zM} (hX : zGX q A hs sn tx) (hk : zOK A hs sn tx) (hl : l < aL A) : ∃ q', Lw_near q (l : Int) = some (1, q') ∧ zGX q' A hs sn tx := by
  have hW := hk.1
  have hB := hW.2.2.1
  unfold Lw_near
  rcases near_row hX hk hl with hr | ⟨fr, lr, n, e, hfl, hg, hr⟩
  · obtain ⟨r, q1, b1, b2, -, b4⟩ := Ev_near hX hk hl (p := 0) (by decide)
    have hr1 := hr 0 r b4
    subst hr1
    obtain ⟨r, q2, c1, c2, -, c4⟩ := Ev_near b2 hk hl (p := 0) (by decide)
    have hr2 := hr 0 r c4
    subst hr2
    have b1 : Ev_nearMiss q (l : Int) 0 = some (-5, q1) := b1
    have c1 : Ev_nearMiss q1 (l : Int) 0 = some (-5, q2) := c1
    refine ⟨q2, ?_, c2⟩
    rw [Lw_near_L10, if_pos (by decide), b1, Option.bind_some]
    dsimp only
    rw [if_pos (by decide), if_neg (by decide)]
    unfold Lw_near_j118 Lw_near_j119
    rw [c1, Option.bind_some]
    dsimp only
    rw [if_pos (by decide), near_neg c2.1 hW hl, Option.bind_some]
    dsimp only
    rw [if_pos (by decide), if_pos (by decide)]
  · have hle := gG_le hW (sS_ok A l fr lr) hg.1
    have hpos := gM_pos hW hg
    obtain ⟨q1, g1, g2⟩ := near_L10 hk hl hg hr (fun v2_12 v3_13 v4_14 v5_15 q_16 => 
    if (0 : Int) < wrap v2_12 then
      (Ev_word q_16 v4_14 (6 : Int)).bind fun r_26 =>
        (Ev_line q_16 (l : Int) (4 : Int)).bind fun r_27 =>
          if wrap r_26 = wrap r_27.1 then
            Lw_near_j118 r_27.2 (l : Int) v2_12 v3_13 v4_14 v5_15 v5_15
          else
            Lw_near_j119 r_27.2 (l : Int) v2_12 v3_13 v4_14 v5_15 v5_15 (1 : Int)
    else
      Lw_near_j118 q_16 (l : Int) v2_12 v3_13 v4_14 v5_15 v5_15) n 0 5000 q (Nat.zero_add _) (by omega) hX
    have g2' : Lw_near_L10 (l : Int) _ 5000 0 0 (-1) 0 q = _ := g2
    rw [g2']
    clear g2 g2'
    obtain ⟨n, rfl⟩ : ∃ k, n = k + 1 := ⟨n - 1, by omega⟩
    obtain ⟨f1, f2, f3, f4, f5⟩ := rW_ok hW (sS_ok A l fr lr) hg (k := n) (by omega)
    obtain ⟨s1, s2, s3, s4⟩ := sS_parts f2
    have hend := rS_end hg
    have s4 := s4 (by rw [rS_succ] at hend; exact hend)
    obtain ⟨r, q2, b1, b2, -, b4⟩ := Ev_near g1 hk hl (p := n + 1) (by omega)
    have hr1 := hr (n + 1) r b4
    rw [if_neg (Nat.lt_irrefl _)] at hr1
    subst hr1
    have hc4 := x_count4 b2.1 hW
    have hl1 := lt_rng hW f1 (k := aNl A (rW A (sS A l fr lr) (n + 1) e n) - 1) (by have := (hW.2.2.2.2.2.2.1 _ f1).1; omega)
    have hl2 := hW.2.2.2.2.2.2.2.1 l hl
    rw [hend]
    refine ⟨q2, ?_, b2⟩
    have fin : ∀ x : Int, wrap ((nWr fr (n + 1) : Int) + x) = 1 → Lw_near_j119 q1 (l : Int) ((n + 1 : Nat) : Int) (aB A : Int) (nLa A (sS A l fr lr) (n + 1) e (n + 1)) (nWr fr (n + 1) : Int) (nWr fr (n + 1) : Int) x = some (1, q2) := by
      intro x hx
      unfold Lw_near_j119
      rw [b1, Option.bind_some]
      dsimp only
      rw [if_pos (by decide), near_neg b2.1 hW hl, Option.bind_some]
      dsimp only
      rw [if_pos (by decide), wrap_n (n := n + 1) (by clear hx; omega), if_neg (by clear hx; omega), if_pos hx, hc4, Option.bind_some, if_pos rfl]
    rw [wrap_n (n := n + 1) (by omega), if_pos (by omega), show nLa A (sS A l fr lr) (n + 1) e (n + 1) = (rW A (sS A l fr lr) (n + 1) e n : Int) from rfl, x_word6 g1.1 hW f1, Option.bind_some, x_line4 g1.1 hW hl, Option.bind_some]
    dsimp only
    rw [wrap_n (n := aLt A (rW A (sS A l fr lr) (n + 1) e n) (aNl A (rW A (sS A l fr lr) (n + 1) e n) - 1)) (by omega), wrap_n (n := aLe A l) (by omega)]
    by_cases cl : lr = true
    · have cf : fr = false := by rw [hfl, cl]; rfl
      rw [if_pos (by have := s4.mpr cl; omega)]
      exact fin 0 (by unfold nWr; rw [if_neg (Nat.succ_ne_zero n), if_neg (by rw [cf]; decide)]; decide)
    · have cf : fr = true := by rw [hfl]; cases lr with
        | true => exact absurd rfl cl
        | false => rfl
      rw [if_neg (fun g => cl (s4.mp (by omega)))]
      exact fin 1 (by unfold nWr; rw [if_neg (Nat.succ_ne_zero n), if_pos cf]; decide)
end NE

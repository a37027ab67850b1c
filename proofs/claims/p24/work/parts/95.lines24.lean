/-! p24: lines(): the poem as it is read, each line with its metre and letters -/
/-- each line that is made fills the metre and has both letters -/
def zLn (A : zT9) : Prop := ∀ l, l < aL A → 0 < aSz A l → aBt A l (aSz A l) = aB A ∧ aLt A (aWd A l 0) 0 = aFe A l ∧ aLt A (aWd A l (aSz A l - 1)) (aNl A (aWd A l (aSz A l - 1)) - 1) = aLe A l
/-- where a line's reading stands ahead of its k-th word, in the poem -/
def aPe (A : zT9) (l k : Nat) : Nat := aPo A l + (if k < aSz A l then aOf A l k else aLg A l - 1)
section LN
variable {q : zM} {A : zT9} {l : Nat}
theorem aLg_pos (A : zT9) (l : Nat) : 1 ≤ aLg A l := by
  unfold aLg
  by_cases c : 0 < aSz A l
  · rw [if_pos c]; omega
  · rw [if_neg c]; omega
/-- a word lies in its line -/
theorem of_in (hW : zWF A) {k : Nat} (hk : k < aSz A l) : aOf A l k + aNl A (aWd A l k) + 1 ≤ aLg A l ∧ (k + 1 = aSz A l → aLg A l = aOf A l k + aNl A (aWd A l k) + 1) := by
  have e1 := aOf_succ A l k
  have e2 := aOf_mono A l (show k + 1 ≤ aSz A l by omega)
  rw [aOf_Lg, if_pos (show 0 < aSz A l by omega)]
  refine ⟨by omega, fun h => ?_⟩
  rw [← h, e1]
  omega
theorem ar_l1 {i n p : Nat} (hi : i < n) (hn : n ≤ 40) (hp : p < 100000) : wrap (i : Int) = i ∧ wrap (n : Int) = n ∧ (i : Int) < (n : Int) ∧ (i : Int) + 1 = ((i + 1 : Nat) : Int) ∧ ((p + i : Nat) : Int) + 1 = ((p + (i + 1) : Nat) : Int) := ⟨wrap_n (by omega), wrap_n (by omega), by omega, by omega, by omega⟩
theorem lines_L162 (h : zRX q 5 A) (hW : zWF A) (hl : l < aL A) {k : Nat} (hk : k < aSz A l) (v1 v2 v4 v5 v6 v7 v8 v9 v11 : Int) (K : Int → Int → Option (Int × zM)) : Lw_lines_L162 q v1 v2 v4 v5 v6 v7 v8 v9 (aWd A l k : Int) v11 K 5000 ((aPo A l + aOf A l k : Nat) : Int) 0 = K ((aPo A l + aOf A l k + aNl A (aWd A l k) : Nat) : Int) (aNl A (aWd A l k) : Int) := by
  obtain ⟨l1, l2, l3, l4⟩ := line_at hW hk
  have h8 := (hW.2.2.2.2.2.2.1 _ l1).2.1
  have hp := aPo_le hW l
  have hL := hW.2.2.2.2.2.1
  have ho := aOf_le hW hl (k := k) (by omega)
  have hin := (of_in hW hk).1
  refine for_all (G := fun n i => Lw_lines_L162 q v1 v2 v4 v5 v6 v7 v8 v9 (aWd A l k : Int) v11 K n ((aPo A l + aOf A l k + i : Nat) : Int) (i : Int)) (N := aNl A (aWd A l k)) (by omega) (fun n i hi => ?_) (fun n => ?_)
  · obtain ⟨a1, a2, a3, a4, a5⟩ := ar_l1 (p := aPo A l + aOf A l k) hi (Nat.le_trans h8 (by decide)) (by omega)
    have hlt := lt_rng hW l1 hi
    have hpo := poemAt_in h hW hl (r := aOf A l k + i) (by clear a1 a2; omega) (codeIn_letter h hW hl hk hi) (by clear a1 a2; omega)
    rw [← Nat.add_assoc] at hpo
    show Lw_lines_L162 _ _ _ _ _ _ _ _ _ _ _ _ (n + 1) _ _ = Lw_lines_L162 _ _ _ _ _ _ _ _ _ _ _ _ n _ _
    rw [Lw_lines_L162, x_word0 h hW l1, Option.bind_some, a1, a2, if_pos a3, hpo, Option.bind_some, x_letter h hW l1 hi, Option.bind_some, if_pos rfl, a4, a5]
  · show Lw_lines_L162 _ _ _ _ _ _ _ _ _ _ _ _ (n + 1) _ _ = _
    rw [Lw_lines_L162, x_word0 h hW l1, Option.bind_some, if_neg (Int.lt_irrefl _)]
theorem ar_l2 {k s : Nat} (hk : k < s) (hs : s ≤ 12) : wrap (k : Int) = k ∧ wrap (s : Int) = s ∧ (k : Int) < (s : Int) ∧ (s : Int) - 1 = ((s - 1 : Nat) : Int) ∧ wrap ((s - 1 : Nat) : Int) = ((s - 1 : Nat) : Int) ∧ ((k : Int) < ((s - 1 : Nat) : Int) ↔ k + 1 < s) ∧ ((k : Int) = ((s - 1 : Nat) : Int) ↔ k = s - 1) ∧ ((k : Int) = 0 ↔ k = 0) ∧ (k : Int) + 1 = ((k + 1 : Nat) : Int) := ⟨wrap_n (by omega), wrap_n (by omega), by omega, by omega, wrap_n (by omega), by omega, by omega, by omega, by omega⟩
theorem add_n (a b : Nat) : (a : Int) + (b : Int) = ((a + b : Nat) : Int) := by omega
theorem lines_j128 (h : zRX q 5 A) (hW : zWF A) (hl : l < aL A) {k : Nat} (hk : k < aSz A l) (v1 v2 v4 : Int) (b e m : Nat) (K R : Int → Int → Int → Int → Int → zM → Option (Int × zM)) : Lw_lines_j128 q v1 v2 (aPe A l k : Int) v4 (aSz A l : Int) (b : Int) (e : Int) (m : Int) (k : Int) (aWd A l k : Int) (aBd A (aWd A l k) (aBt A l k) : Int) K R = R (aPe A l (k + 1) : Int) ((b + aSy A (aWd A l k) : Nat) : Int) ((e + aBd A (aWd A l k) (aBt A l k) : Nat) : Int) ((m + aNl A (aWd A l k) : Nat) : Int) ((k + 1 : Nat) : Int) q := by
  obtain ⟨l1, l2, l3, l4⟩ := line_at hW hk
  have h12 := (hW.2.2.2.2.2.2.2.2.1 l).1
  obtain ⟨a1, a2, a3, a4, a5, a6, a7, a8, a9⟩ := ar_l2 hk h12
  have hp := aPo_le hW l
  have hL := hW.2.2.2.2.2.1
  obtain ⟨hin, hlast⟩ := of_in hW hk
  have hos := aOf_succ A l k
  have e0 : aPe A l k = aPo A l + aOf A l k := by unfold aPe; rw [if_pos hk]
  unfold Lw_lines_j128
  rw [x_word1 h hW l1, Option.bind_some, x_word0 h hW l1, Option.bind_some, e0, lines_L162 h hW hl hk, a1, a4, a5, add_n, add_n, add_n, a9]
  by_cases c : k + 1 < aSz A l
  · have hb := poemAt_in h hW hl (r := aOf A l k + aNl A (aWd A l k)) (by clear a1 a2 a5; omega) (codeIn_blank h hW hl c) (by decide)
    rw [← Nat.add_assoc] at hb
    have e1 : aPe A l (k + 1) = aPo A l + aOf A l k + aNl A (aWd A l k) + 1 := by unfold aPe; rw [if_pos c, hos]; omega
    rw [if_pos (a6.mpr c), hb, Option.bind_some, if_pos (by decide), e1]
    rfl
  · have hls := hlast (by clear a1 a2 a5; omega)
    have e1 : aPe A l (k + 1) = aPo A l + aOf A l k + aNl A (aWd A l k) := by unfold aPe; rw [if_neg c]; omega
    rw [if_neg (fun g => c (a6.mp g)), e1]
theorem lines_L40 (h : zRX q 5 A) (hW : zWF A) (hN : zLn A) (hl : l < aL A) (v1 v2 : Int) (K : Int → Int → Int → Int → Int → zM → Option (Int × zM)) : Lw_lines_L40 v1 v2 (l : Int) (aSz A l : Int) K 5000 (aPo A l : Int) 0 0 0 0 q = K ((aPo A l + (aLg A l - 1) : Nat) : Int) (aBt A l (aSz A l) : Int) (aBI A l : Int) (aLI A l : Int) (aSz A l : Int) q := by
  have h12 := (hW.2.2.2.2.2.2.2.2.1 l).1
  have e0 : aPe A l 0 = aPo A l := by
    unfold aPe
    by_cases c : 0 < aSz A l
    · rw [if_pos c]; rfl
    · rw [if_neg c, aOf_Lg, if_neg c]; rfl
  have e1 : aPo A l + (aLg A l - 1) = aPe A l (aSz A l) := by
    unfold aPe
    rw [if_neg (Nat.lt_irrefl _)]
  rw [e1, ← e0]
  refine for_all (G := fun n i => Lw_lines_L40 v1 v2 (l : Int) (aSz A l : Int) K n (aPe A l i : Int) (aBt A l i : Int) (sumTo (fun k => aBd A (aWd A l k) (aBt A l k)) i : Int) (sumTo (fun k => aNl A (aWd A l k)) i : Int) (i : Int) q) (N := aSz A l) (by omega) (fun n i hi => ?_) (fun n => ?_)
  · obtain ⟨l1, l2, l3, l4⟩ := line_at hW hi
    obtain ⟨a1, a2, a3, a4, a5, a6, a7, a8, a9⟩ := ar_l2 hi h12
    obtain ⟨n1, n2, n3⟩ := hN l hl (by clear a1 a2 a5; omega)
    have hbd := aBd_le A (aWd A l i) (aBt A l i)
    have nb : ¬ (aBd A (aWd A l i) (aBt A l i) : Int) < 0 := by clear a1 a2 a5; omega
    have nw : ¬ (aWd A l i : Int) < 0 := by clear a1 a2 a5; omega
    have rb : wrap (aBd A (aWd A l i) (aBt A l i) : Int) = aBd A (aWd A l i) (aBt A l i) := wrap_n (by clear a1 a2 a5; omega)
    have rw1 : wrap (aWd A l i : Int) = aWd A l i := wrap_n (by clear a1 a2 a5 rb; omega)
    have fin : Lw_lines_j128 q v1 v2 (aPe A l i : Int) (l : Int) (aSz A l : Int) (aBt A l i : Int) (sumTo (fun k => aBd A (aWd A l k) (aBt A l k)) i : Int) (sumTo (fun k => aNl A (aWd A l k)) i : Int) (i : Int) (aWd A l i : Int) (aBd A (aWd A l i) (aBt A l i) : Int) K (Lw_lines_L40 v1 v2 (l : Int) (aSz A l : Int) K n) = Lw_lines_L40 v1 v2 (l : Int) (aSz A l : Int) K n (aPe A l (i + 1) : Int) (aBt A l (i + 1) : Int) (sumTo (fun k => aBd A (aWd A l k) (aBt A l k)) (i + 1) : Int) (sumTo (fun k => aNl A (aWd A l k)) (i + 1) : Int) ((i + 1 : Nat) : Int) q := by
      rw [lines_j128 h hW hl hi]
      rfl
    have j99 : Lw_lines_j99 q v1 v2 (aPe A l i : Int) (l : Int) (aSz A l : Int) (aBt A l i : Int) (sumTo (fun k => aBd A (aWd A l k) (aBt A l k)) i : Int) (sumTo (fun k => aNl A (aWd A l k)) i : Int) (i : Int) (aWd A l i : Int) (aBd A (aWd A l i) (aBt A l i) : Int) K (Lw_lines_L40 v1 v2 (l : Int) (aSz A l : Int) K n) = Lw_lines_L40 v1 v2 (l : Int) (aSz A l : Int) K n (aPe A l (i + 1) : Int) (aBt A l (i + 1) : Int) (sumTo (fun k => aBd A (aWd A l k) (aBt A l k)) (i + 1) : Int) (sumTo (fun k => aNl A (aWd A l k)) (i + 1) : Int) ((i + 1 : Nat) : Int) q := by
      unfold Lw_lines_j99
      rw [a1, a4, a5]
      by_cases c : i = aSz A l - 1
      · rw [if_pos (a7.mpr c), x_word6 h hW l1, Option.bind_some, x_line4 h hW hl, Option.bind_some]
        have n3' : aLt A (aWd A l i) (aNl A (aWd A l i) - 1) = aLe A l := by rw [← c] at n3; exact n3
        rw [n3', if_pos rfl, fin]
      · rw [if_neg (fun g => c (a7.mp g)), fin]
    show Lw_lines_L40 _ _ _ _ _ (n + 1) _ _ _ _ _ _ = Lw_lines_L40 _ _ _ _ _ n _ _ _ _ _ _
    rw [Lw_lines_L40, a1, a2, if_pos a3, x_wordAt h hW hl hi, Option.bind_some, Lw_bends_eq h hW l1 (by clear a1 a2 a5 rb rw1; omega), Option.bind_some, if_pos l4, rb, if_neg nb, rw1, if_neg nw]
    by_cases c : i = 0
    · rw [if_pos (a8.mpr c), x_word5 h hW l1, Option.bind_some, x_line3 h hW hl, Option.bind_some]
      have n2' : aLt A (aWd A l i) 0 = aFe A l := by rw [c]; exact n2
      rw [n2', if_pos rfl, j99]
    · rw [if_neg (fun g => c (a8.mp g)), j99]
  · show Lw_lines_L40 _ _ _ _ _ (n + 1) _ _ _ _ _ _ = _
    rw [Lw_lines_L40, if_neg (Int.lt_irrefl _)]
    rfl
def lMd (A : zT9) (l : Nat) : Bool := decide (0 < aSz A l)
theorem lines_j256 (h : zRX q 5 A) (hW : zWF A) (hl : l < aL A) (m e p b k : Int) (K R : Int → Int → Int → Int → zM → Option (Int × zM)) : Lw_lines_j256 q m e p (l : Int) (aSz A l : Int) b (aBI A l : Int) (aLI A l : Int) k K R = R (m + (if lMd A l = true then 1 else 0)) (e + (aBI A l : Int)) (p + 1) ((l : Int) + 1) q := by
  have h12 := (hW.2.2.2.2.2.2.2.2.1 l).1
  unfold Lw_lines_j256 Lw_lines_j334
  rw [x_line1 h hW hl, Option.bind_some, if_pos rfl, x_line2 h hW hl, Option.bind_some, if_pos rfl, x_wordAt_end h hW hl, Option.bind_some, if_pos (by decide), x_wordAt_neg h hW hl, Option.bind_some, if_pos (by decide), x_line6 h hW hl, Option.bind_some]
  dsimp only
  rw [if_pos (by decide), wrap_n (n := aSz A l) (by omega)]
  by_cases c : 0 < aSz A l
  · rw [if_pos (by omega), show lMd A l = true from decide_eq_true c, if_pos rfl]
  · rw [if_neg (by omega), show lMd A l = false from decide_eq_false c, if_neg (by decide)]
theorem lines_L9 (h : zRX q 5 A) (hW : zWF A) (hN : zLn A) (K : Int → Int → Int → Int → zM → Option (Int × zM)) : Lw_lines_L9 K 5000 0 0 0 0 q = K (cntTo (lMd A) (aL A) : Int) (sumTo (aBI A) (aL A) : Int) (aPo A (aL A) : Int) (aL A : Int) q := by
  have hL := hW.2.2.2.2.2.1
  refine for_all (G := fun n i => Lw_lines_L9 K n (cntTo (lMd A) i : Int) (sumTo (aBI A) i : Int) (aPo A i : Int) (i : Int) q) (N := aL A) (by omega) (fun n i hi => ?_) (fun n => ?_)
  · obtain ⟨a1, a2, a3, a4⟩ := ar_w1 hi (Nat.le_trans hL (by decide))
    have h12 := (hW.2.2.2.2.2.2.2.2.1 i).1
    have rs : wrap (aSz A i : Int) = aSz A i := wrap_n (by clear a1 a2; omega)
    have hg := aLg_pos A i
    have hps := poemAt_in h hW hi (r := aLg A i - 1) (by clear a1 a2; omega) (codeIn_slash h hW hi) (by decide)
    have e1 : (sumTo (aBI A) i : Int) + (aBI A i : Int) = (sumTo (aBI A) (i + 1) : Int) := add_n _ _
    have e2 : ((aPo A i + (aLg A i - 1) : Nat) : Int) + 1 = (aPo A (i + 1) : Int) := by rw [aPo_succ]; omega
    show Lw_lines_L9 _ (n + 1) _ _ _ _ _ = Lw_lines_L9 _ n _ _ _ _ _
    rw [Lw_lines_L9, x_count1 h hW, Option.bind_some, a1, a2, if_pos a3, x_line0 h hW hi, Option.bind_some, lines_L40 h hW hN hi, hps, Option.bind_some, if_pos (by decide), rs, cntTo_step]
    by_cases c : 0 < aSz A i
    · rw [if_pos (by clear a1 a2 rs; omega), x_count4 h hW, Option.bind_some, (hN i hi c).1, if_pos rfl, lines_j256 h hW hi, e1, e2, a4]
    · rw [if_neg (by clear a1 a2 rs; omega), lines_j256 h hW hi, e1, e2, a4]
  · show Lw_lines_L9 _ (n + 1) _ _ _ _ _ = _
    rw [Lw_lines_L9, x_count1 h hW, Option.bind_some, if_neg (Int.lt_irrefl _)]
theorem Lw_lines_eq (h : zRX q 5 A) (hW : zWF A) (hN : zLn A) : Lw_lines q = some (1, q) := by
  have c2 : Ev_count q 2 = some (cntTo (lMd A) (aL A) : Int) := x_count2 h hW
  have c9 : Ev_count q 9 = some (aPo A (aL A) : Int) := x_count9 h hW
  unfold Lw_lines
  rw [lines_L9 h hW hN, c2, Option.bind_some, if_pos rfl, x_count3 h hW, Option.bind_some, if_pos rfl, c9, Option.bind_some, if_pos rfl, poemAt_end h hW, Option.bind_some, if_pos (by decide), poemAt_neg, Option.bind_some, if_pos (by decide), x_count1 h hW, Option.bind_some, x_line_out h hW, Option.bind_some]
  dsimp only
  rw [if_pos (by decide), x_count12, Option.bind_some, if_pos (by decide)]
end LN

/-! p24: words(): what is told of each word -/
theorem aUB_all (A : zT9) (w : Nat) : aUB A (-1) w = cntTo (fun l => aUs A l w) (aL A) := by
  unfold aUB
  apply cntTo_congr
  intro i _
  rw [decide_eq_true (show (i : Int) ≠ -1 by omega)]
  rfl
theorem aUs_any (A : zT9) (l w : Nat) : aUs A l w = anyTo (fun k => decide (aWd A l k = w)) (aSz A l) := by
  unfold aUs
  rw [anyTo_fst]
theorem cntTo_step (p : Nat → Bool) (i : Nat) : (cntTo p (i + 1) : Int) = (cntTo p i : Int) + (if p i = true then 1 else 0) := by
  show ((cntTo p i + (if p i = true then 1 else 0) : Nat) : Int) = _
  by_cases c : p i = true
  · rw [if_pos c, if_pos c]; omega
  · rw [if_neg c, if_neg c]; omega
theorem anyTo_step (p : Nat → Bool) (i : Nat) : anyTo p (i + 1) = (anyTo p i || p i) := rfl
section WO
variable {q : zM} {A : zT9}
theorem ar_w1 {i n : Nat} (hi : i < n) (hn : n ≤ 40) : wrap (i : Int) = i ∧ wrap (n : Int) = n ∧ (i : Int) < (n : Int) ∧ (i : Int) + 1 = ((i + 1 : Nat) : Int) := ⟨wrap_n (by omega), wrap_n (by omega), by omega, by omega⟩
theorem fit_case {α : Type} (A : zT9) (w i : Nat) (x y : α) : (if wrap (if aFitB A w i = true then (aBd A w i : Int) else -1) < 0 then x else y) = if aFitB A w i = true then y else x := by
  by_cases c : aFitB A w i = true
  · have := aBd_le A w i
    rw [if_pos c, wrap_n (by omega), if_neg (by omega), if_pos c]
  · rw [if_neg c, if_pos (by decide), if_neg c]
theorem words_L37 (h : zRX q 5 A) (hW : zWF A) {w : Nat} (hw : w < aN A) (v1 v2 v3 v5 v7 : Int) (K : Int → Int → Option (Int × zM)) : Lw_words_L37 q v1 v2 v3 (w : Int) v5 v7 K 5000 0 0 = K (cntTo (aFitB A w) (aB A) : Int) (aB A : Int) := by
  have hB := hW.2.2.1
  refine for_all (G := fun n i => Lw_words_L37 q v1 v2 v3 (w : Int) v5 v7 K n (cntTo (aFitB A w) i : Int) (i : Int)) (N := aB A) (by omega) (fun n i hi => ?_) (fun n => ?_)
  · obtain ⟨a1, a2, a3, a4⟩ := ar_w1 hi (Nat.le_trans hB (by decide))
    show Lw_words_L37 _ _ _ _ _ _ _ _ (n + 1) _ _ = Lw_words_L37 _ _ _ _ _ _ _ _ n _ _
    rw [Lw_words_L37, x_count4 h hW, Option.bind_some, a1, a2, if_pos a3, Lw_bends_eq h hW hw (by clear a1 a2; omega), Option.bind_some, fit_case, cntTo_step, a4]
    by_cases c : aFitB A w i = true
    · rw [if_pos c, if_pos c]
    · rw [if_neg c, if_neg c]
  · show Lw_words_L37 _ _ _ _ _ _ _ _ (n + 1) _ _ = _
    rw [Lw_words_L37, x_count4 h hW, Option.bind_some, if_neg (Int.lt_irrefl _)]
theorem words_L93 (h : zRX q 5 A) (hW : zWF A) {w l : Nat} (hw : w < 1000) (hl : l < aL A) (v1 v2 v3 v5 v6 v7 : Int) (K : Int → Int → zM → Option (Int × zM)) : Lw_words_L93 v1 v2 v3 (w : Int) v5 v6 v7 (l : Int) K 5000 0 0 q = K (zb (aUs A l w)) (aSz A l : Int) q := by
  have h12 := (hW.2.2.2.2.2.2.2.2.1 l).1
  rw [aUs_any]
  refine for_all (G := fun n i => Lw_words_L93 v1 v2 v3 (w : Int) v5 v6 v7 (l : Int) K n (zb (anyTo (fun k => decide (aWd A l k = w)) i)) (i : Int) q) (N := aSz A l) (by omega) (fun n i hi => ?_) (fun n => ?_)
  · obtain ⟨a1, a2, a3, a4⟩ := ar_w1 hi (Nat.le_trans h12 (by decide))
    have hwd := (hW.2.2.2.2.2.2.2.2.1 l).2 i hi
    have hN := hW.1
    show Lw_words_L93 _ _ _ _ _ _ _ _ _ (n + 1) _ _ _ = Lw_words_L93 _ _ _ _ _ _ _ _ _ n _ _ _
    rw [Lw_words_L93, x_line0 h hW hl, Option.bind_some, a1, a2, if_pos a3, x_wordAt h hW hl hi, Option.bind_some, wrap_n (n := aWd A l i) (by clear a1 a2; omega), wrap_n (n := w) (by clear a1 a2; omega), anyTo_step, a4]
    by_cases c : aWd A l i = w
    · rw [if_pos (by clear a1 a2; omega), decide_eq_true c, Bool.or_true]
      rfl
    · rw [if_neg (by clear a1 a2; omega), decide_eq_false c, Bool.or_false]
  · show Lw_words_L93 _ _ _ _ _ _ _ _ _ (n + 1) _ _ _ = _
    rw [Lw_words_L93, x_line0 h hW hl, Option.bind_some, if_neg (Int.lt_irrefl _)]
theorem words_L77 (h : zRX q 5 A) (hW : zWF A) {w : Nat} (hw : w < 1000) (v1 v2 v3 v5 v6 : Int) (K : Int → Int → zM → Option (Int × zM)) : Lw_words_L77 v1 v2 v3 (w : Int) v5 v6 K 5000 0 0 q = K (aUB A (-1) w : Int) (aL A : Int) q := by
  have h8 := hW.2.2.2.2.2.1
  rw [aUB_all]
  refine for_all (G := fun n i => Lw_words_L77 v1 v2 v3 (w : Int) v5 v6 K n (cntTo (fun l => aUs A l w) i : Int) (i : Int) q) (N := aL A) (by omega) (fun n i hi => ?_) (fun n => ?_)
  · obtain ⟨a1, a2, a3, a4⟩ := ar_w1 hi (Nat.le_trans h8 (by decide))
    show Lw_words_L77 _ _ _ _ _ _ _ (n + 1) _ _ _ = Lw_words_L77 _ _ _ _ _ _ _ n _ _ _
    rw [Lw_words_L77, x_count1 h hW, Option.bind_some, a1, a2, if_pos a3, words_L93 h hW hw hi, cntTo_step, a4]
    rfl
  · show Lw_words_L77 _ _ _ _ _ _ _ (n + 1) _ _ _ = _
    rw [Lw_words_L77, x_count1 h hW, Option.bind_some, if_neg (Int.lt_irrefl _)]
/-- no limit is passed -/
def zLm (A : zT9) : Prop := ∀ w, w < aN A → aUB A (-1) w ≤ aLi A w
def wP1 (A : zT9) (w : Nat) : Bool := decide (0 < cntTo (aFitB A w) (aB A))
def wP2 (A : zT9) (w : Nat) : Bool := decide (0 < aUB A (-1) w)
def wP3 (A : zT9) (w : Nat) : Bool := decide (aUB A (-1) w = aLi A w)
theorem shr_zero {s y : Nat} (h : s < 2 ^ y) (hy : y ≤ 4) : wshr (s : Int) (y : Int) = 0 := by
  have h16 : (2 : Nat) ^ y ≤ 2 ^ 4 := Nat.pow_le_pow_right (by decide) hy
  rw [wshr_n s y (by omega) (by omega), Nat.div_eq_of_lt h]
  rfl
theorem words_j316 (h : zRX q 5 A) (hW : zWF A) {w : Nat} (hw : w < aN A) (v1 v2 v3 v6 v7 : Int) (K R : Int → Int → Int → Int → zM → Option (Int × zM)) : Lw_words_j316 q v1 v2 v3 (w : Int) (aNl A w : Int) v6 v7 1 1 K R = R v1 v2 v3 ((w + 1 : Nat) : Int) q := by
  obtain ⟨b1, b2, b3, b4, b5, -⟩ := hW.2.2.2.2.2.2.1 w hw
  have r0 := shr_zero b5 b4
  have r1 : wrap (aNl A w : Int) = aNl A w := wrap_n (by clear r0; omega)
  have r2 : wrap (aSy A w : Int) = aSy A w := wrap_n (by clear r0 r1; omega)
  unfold Lw_words_j316
  rw [if_neg one_ne, if_neg one_ne, r1, if_neg (by clear r0 r1 r2; omega), if_neg (by clear r0 r1 r2; omega), x_word1 h hW hw, Option.bind_some, r2, if_neg (by clear r0 r1 r2; omega), Option.bind_some, r2, if_neg (by clear r0 r1 r2; omega), x_word2 h hW hw, Option.bind_some, Option.bind_some, r0, if_pos zero_eq]
  rfl
theorem words_j246 (h : zRX q 5 A) (hW : zWF A) {w : Nat} (hw : w < aN A) (v1 v2 v3 v6 v7 v8 : Int) (K R : Int → Int → Int → Int → zM → Option (Int × zM)) : Lw_words_j246 q v1 v2 v3 (w : Int) (aNl A w : Int) v6 v7 v8 1 K R = R v1 v2 v3 ((w + 1 : Nat) : Int) q := by
  obtain ⟨b1, b2, -⟩ := hW.2.2.2.2.2.2.1 w hw
  unfold Lw_words_j246
  rw [show (0 : Int) = ((0 : Nat) : Int) from rfl, x_letter h hW hw (k := 0) (by omega), Option.bind_some, x_word5 h hW hw, Option.bind_some, if_pos rfl, show (aNl A w : Int) - (1 : Int) = ((aNl A w - 1 : Nat) : Int) by omega, x_letter h hW hw (k := aNl A w - 1) (by omega), Option.bind_some, x_word6 h hW hw, Option.bind_some, if_pos rfl, x_letter_end h hW hw, Option.bind_some, if_pos (by decide), x_letter_neg h hW hw, Option.bind_some, if_pos (by decide)]
  exact words_j316 h hW hw _ _ _ _ _ _ _
theorem words_j156 (h : zRX q 5 A) (hW : zWF A) (hL : zLm A) {w : Nat} (hw : w < aN A) (p u f v8 x : Int) (K R : Int → Int → Int → Int → zM → Option (Int × zM)) : Lw_words_j156 q p u f (w : Int) (aNl A w : Int) (cntTo (aFitB A w) (aB A) : Int) (aUB A (-1) w : Int) v8 p x K R = R (p + x) (u + (if wP2 A w = true then 1 else 0)) (f + (if wP3 A w = true then 1 else 0)) ((w + 1 : Nat) : Int) q := by
  have c1 := cntTo_le (aFitB A w) (aB A)
  have c2 := hW.2.2.1
  have c3 := aUB_le hW (-1) w
  have c4 := hL w hw
  have c5 := (hW.2.2.2.2.2.2.1 w hw).2.2.2.2.2.2.1
  have e2 : (0 < (aUB A (-1) w : Int)) ↔ wP2 A w = true := by
    unfold wP2
    rw [decide_eq_true_iff]
    omega
  have e3 : ((aUB A (-1) w : Int) = (aLi A w : Int)) ↔ wP3 A w = true := by
    unfold wP3
    rw [decide_eq_true_iff]
    omega
  have e4 : ¬ (aLi A w : Int) < (aUB A (-1) w : Int) := by omega
  have r1 : wrap (aUB A (-1) w : Int) = aUB A (-1) w := wrap_n (by omega)
  have r2 : wrap (aLi A w : Int) = aLi A w := wrap_n (by omega)
  have j189 : ∀ (a b c s x : Int), Lw_words_j189 q a b c (w : Int) (aNl A w : Int) (cntTo (aFitB A w) (aB A) : Int) (aUB A (-1) w : Int) v8 s x K R = R a b (s + x) ((w + 1 : Nat) : Int) q := by
    intro a b c s x
    unfold Lw_words_j189
    rw [x_word7 h hW hw, Option.bind_some, if_pos rfl, x_word4 h hW hw, Option.bind_some, if_pos rfl, x_word3 h hW hw, Option.bind_some, r1, r2, if_neg e4, x_word8 h hW hw, Option.bind_some, if_pos (by decide)]
    exact words_j246 h hW hw _ _ _ _ _ _ _ _
  unfold Lw_words_j156 Lw_words_j169
  rw [r1, x_word3 h hW hw, Option.bind_some, Option.bind_some, r2]
  by_cases p2 : wP2 A w = true
  · rw [if_pos (e2.mpr p2), if_pos p2]
    by_cases p3 : wP3 A w = true
    · rw [if_pos (e3.mpr p3), if_pos p3, j189]
    · rw [if_neg (fun g => p3 (e3.mp g)), if_neg p3, j189]
  · rw [if_neg (fun g => p2 (e2.mp g)), if_neg p2]
    by_cases p3 : wP3 A w = true
    · rw [if_pos (e3.mpr p3), if_pos p3, j189]
    · rw [if_neg (fun g => p3 (e3.mp g)), if_neg p3, j189]
theorem words_L9 (h : zRX q 5 A) (hW : zWF A) (hL : zLm A) (K : Int → Int → Int → Int → zM → Option (Int × zM)) : Lw_words_L9 K 5000 0 0 0 0 q = K (cntTo (wP1 A) (aN A) : Int) (cntTo (wP2 A) (aN A) : Int) (cntTo (wP3 A) (aN A) : Int) (aN A : Int) q := by
  have hN := hW.1
  refine for_all (G := fun n i => Lw_words_L9 K n (cntTo (wP1 A) i : Int) (cntTo (wP2 A) i : Int) (cntTo (wP3 A) i : Int) (i : Int) q) (N := aN A) (by omega) (fun n i hi => ?_) (fun n => ?_)
  · obtain ⟨a1, a2, a3, a4⟩ := ar_w1 hi hN
    have c1 := cntTo_le (aFitB A i) (aB A)
    have c2 := hW.2.2.1
    show Lw_words_L9 _ (n + 1) _ _ _ _ _ = Lw_words_L9 _ n _ _ _ _ _
    rw [Lw_words_L9, x_count0 h hW, Option.bind_some, a1, a2, if_pos a3, x_word0 h hW hi, Option.bind_some, words_L37 h hW hi, words_L77 h hW (by clear a1 a2; omega), wrap_n (n := cntTo (aFitB A i) (aB A)) (by clear a1 a2; omega), words_j156 h hW hL hi, words_j156 h hW hL hi, cntTo_step (wP1 A), cntTo_step (wP2 A), cntTo_step (wP3 A)]
    by_cases p1 : wP1 A i = true
    · rw [if_pos (by have := of_decide_eq_true p1; (clear a1 a2; omega)), if_pos p1]
    · rw [if_neg (by have := of_decide_eq_false (Bool.eq_false_iff.mpr p1); (clear a1 a2; omega)), if_neg p1]
  · show Lw_words_L9 _ (n + 1) _ _ _ _ _ = _
    rw [Lw_words_L9, x_count0 h hW, Option.bind_some, if_neg (Int.lt_irrefl _)]
theorem Lw_words_eq (h : zRX q 5 A) (hW : zWF A) (hL : zLm A) : Lw_words q = some (1, q) := by
  have c8 : Ev_count q 8 = some (cntTo (wP1 A) (aN A) : Int) := x_count8 h hW
  have c6 : Ev_count q 6 = some (cntTo (wP2 A) (aN A) : Int) := x_count6 h hW
  have c7 : Ev_count q 7 = some (cntTo (wP3 A) (aN A) : Int) := x_count7 h hW
  unfold Lw_words
  rw [words_L9 h hW hL, c8, Option.bind_some, if_pos rfl, c6, Option.bind_some, if_pos rfl, c7, Option.bind_some, if_pos rfl, x_count0 h hW, Option.bind_some, x_word_out h hW, Option.bind_some, if_pos (by decide)]
end WO

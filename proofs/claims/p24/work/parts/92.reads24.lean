/-! p24: what the calls answer, one by one: those that only read -/
section RA
variable {q : zM} {A : zT9}
theorem x_word0 (h : zRX q 5 A) (hW : zWF A) {w : Nat} (hw : w < aN A) : Ev_word q (w : Int) 0 = some (aNl A w : Int) := by
  unfold Ev_word
  rw [Ws_has_in h hW hw, Option.bind_some, if_neg one_ne, if_pos (by decide), Ws_letterCountOf_eq h hW hw]
  rfl
theorem x_word1 (h : zRX q 5 A) (hW : zWF A) {w : Nat} (hw : w < aN A) : Ev_word q (w : Int) 1 = some (aSy A w : Int) := by
  unfold Ev_word
  rw [Ws_has_in h hW hw, Option.bind_some, if_neg one_ne, if_neg (by decide), if_pos (by decide), Ws_syllablesOf_eq h hW hw]
  rfl
theorem x_word2 (h : zRX q 5 A) (hW : zWF A) {w : Nat} (hw : w < aN A) : Ev_word q (w : Int) 2 = some (aSt A w : Int) := by
  unfold Ev_word
  rw [Ws_has_in h hW hw, Option.bind_some, if_neg one_ne, if_neg (by decide), if_neg (by decide), if_pos (by decide), Ws_strongOf_eq h hW hw]
  rfl
theorem x_word3 (h : zRX q 5 A) (hW : zWF A) {w : Nat} (hw : w < aN A) : Ev_word q (w : Int) 3 = some (aLi A w : Int) := by
  unfold Ev_word
  rw [Ws_has_in h hW hw, Option.bind_some, if_neg one_ne, if_neg (by decide), if_neg (by decide), if_neg (by decide), if_pos (by decide), Ws_limitOf_eq h hW hw]
  rfl
theorem x_word4 (h : zRX q 5 A) (hW : zWF A) {w : Nat} (hw : w < aN A) : Ev_word q (w : Int) 4 = some (aUB A (-1) w : Int) := by
  have w1 := hW.1
  unfold Ev_word
  rw [Ws_has_in h hW hw, Option.bind_some, if_neg one_ne, if_neg (by decide), if_neg (by decide), if_neg (by decide), if_neg (by decide), if_pos (by decide), Po_linesUsing_eq h hW (by omega)]
  rfl
theorem x_word5 (h : zRX q 5 A) (hW : zWF A) {w : Nat} (hw : w < aN A) : Ev_word q (w : Int) 5 = some (aLt A w 0 : Int) := by
  unfold Ev_word
  rw [Ws_has_in h hW hw, Option.bind_some, if_neg one_ne, if_neg (by decide), if_neg (by decide), if_neg (by decide), if_neg (by decide), if_neg (by decide), if_pos (by decide), Ws_firstLetterOf_eq h hW hw]
  rfl
theorem x_word6 (h : zRX q 5 A) (hW : zWF A) {w : Nat} (hw : w < aN A) : Ev_word q (w : Int) 6 = some (aLt A w (aNl A w - 1) : Int) := by
  unfold Ev_word
  rw [Ws_has_in h hW hw, Option.bind_some, if_neg one_ne, if_neg (by decide), if_neg (by decide), if_neg (by decide), if_neg (by decide), if_neg (by decide), if_neg (by decide), if_pos (by decide), Ws_lastLetterOf_eq h hW hw]
  rfl
theorem x_word7 (h : zRX q 5 A) (hW : zWF A) {w : Nat} (hw : w < aN A) : Ev_word q (w : Int) 7 = some (cntTo (aFitB A w) (aB A) : Int) := by
  unfold Ev_word
  rw [Ws_has_in h hW hw, Option.bind_some, if_neg one_ne, if_neg (by decide), if_neg (by decide), if_neg (by decide), if_neg (by decide), if_neg (by decide), if_neg (by decide), if_neg (by decide), if_pos (by decide), St_beatsFor_eq h hW hw]
  rfl
theorem x_word8 (h : zRX q 5 A) (hW : zWF A) {w : Nat} (hw : w < aN A) : Ev_word q (w : Int) 8 = some (-2) := by
  unfold Ev_word
  rw [Ws_has_in h hW hw, Option.bind_some, if_neg one_ne, if_neg (by decide), if_neg (by decide), if_neg (by decide), if_neg (by decide), if_neg (by decide), if_neg (by decide), if_neg (by decide), if_neg (by decide)]
theorem x_word_out (h : zRX q 5 A) (hW : zWF A) (k : Int) : Ev_word q (aN A : Int) k = some (-1) := by
  have w1 := hW.1
  unfold Ev_word
  rw [Ws_has_eq h hW (by omega), Option.bind_some, if_neg (c := 0 ≤ (aN A : Int) ∧ (aN A : Int) < (aN A : Int)) (fun g => Int.lt_irrefl _ g.2), if_pos zero_eq]
theorem x_letter (h : zRX q 5 A) (hW : zWF A) {w k : Nat} (hw : w < aN A) (hk : k < aNl A w) : Ev_letterAt q (w : Int) (k : Int) = some (aLt A w k : Int) := by
  have h8 := (hW.2.2.2.2.2.2.1 w hw).2.1
  unfold Ev_letterAt
  rw [Ws_has_in h hW hw, Option.bind_some, if_neg one_ne, wrap_n (n := k) (by omega), if_neg (by omega), Ws_letterCountOf_eq h hW hw, Option.bind_some, wrap_n (n := aNl A w) (by omega), if_pos (by omega), Ws_letterOf_eq h hW hw (by omega), Option.bind_some, if_pos (by omega), Int.toNat_natCast]
theorem x_letter_end (h : zRX q 5 A) (hW : zWF A) {w : Nat} (hw : w < aN A) : Ev_letterAt q (w : Int) (aNl A w : Int) = some (-5) := by
  have h8 := (hW.2.2.2.2.2.2.1 w hw).2.1
  unfold Ev_letterAt
  rw [Ws_has_in h hW hw, Option.bind_some, if_neg one_ne, wrap_n (n := aNl A w) (by omega), if_neg (by omega), Ws_letterCountOf_eq h hW hw, Option.bind_some, wrap_n (n := aNl A w) (by omega), if_neg (by omega)]
theorem x_letter_neg (h : zRX q 5 A) (hW : zWF A) {w : Nat} (hw : w < aN A) : Ev_letterAt q (w : Int) (-1) = some (-2) := by
  unfold Ev_letterAt
  rw [Ws_has_in h hW hw, Option.bind_some, if_neg one_ne, if_pos (by decide)]
theorem x_letter_out (h : zRX q 5 A) (hW : zWF A) (k : Int) : Ev_letterAt q (aN A : Int) k = some (-1) := by
  have w1 := hW.1
  unfold Ev_letterAt
  rw [Ws_has_eq h hW (by omega), Option.bind_some, if_neg (c := 0 ≤ (aN A : Int) ∧ (aN A : Int) < (aN A : Int)) (fun g => Int.lt_irrefl _ g.2), if_pos zero_eq]
theorem x_line0 (h : zRX q 5 A) (hW : zWF A) {l : Nat} (hl : l < aL A) : Ev_line q (l : Int) 0 = some ((aSz A l : Int), q) := by
  unfold Ev_line
  rw [Po_has_in h hW hl, Option.bind_some, if_neg one_ne, if_pos (by decide), Po_wordsIn_eq h hW hl]
  rfl
theorem x_line1 (h : zRX q 5 A) (hW : zWF A) {l : Nat} (hl : l < aL A) : Ev_line q (l : Int) 1 = some ((aBI A l : Int), q) := by
  unfold Ev_line
  rw [Po_has_in h hW hl, Option.bind_some, if_neg one_ne, if_neg (by decide), if_pos (by decide), St_bendsIn_eq h hW hl]
  rfl
theorem x_line2 (h : zRX q 5 A) (hW : zWF A) {l : Nat} (hl : l < aL A) : Ev_line q (l : Int) 2 = some ((aLI A l : Int), q) := by
  unfold Ev_line
  rw [Po_has_in h hW hl, Option.bind_some, if_neg one_ne, if_neg (by decide), if_neg (by decide), if_pos (by decide), St_lettersIn_eq h hW hl]
  rfl
theorem x_line3 (h : zRX q 5 A) (hW : zWF A) {l : Nat} (hl : l < aL A) : Ev_line q (l : Int) 3 = some ((aFe A l : Int), q) := by
  unfold Ev_line
  rw [Po_has_in h hW hl, Option.bind_some, if_neg one_ne, if_neg (by decide), if_neg (by decide), if_neg (by decide), if_pos (by decide), Po_firstLetterOf_eq h hW hl]
  rfl
theorem x_line4 (h : zRX q 5 A) (hW : zWF A) {l : Nat} (hl : l < aL A) : Ev_line q (l : Int) 4 = some ((aLe A l : Int), q) := by
  unfold Ev_line
  rw [Po_has_in h hW hl, Option.bind_some, if_neg one_ne, if_neg (by decide), if_neg (by decide), if_neg (by decide), if_neg (by decide), if_pos (by decide), Po_lastLetterOf_eq h hW hl]
  rfl
theorem x_line6 (h : zRX q 5 A) (hW : zWF A) {l : Nat} (hl : l < aL A) : Ev_line q (l : Int) 6 = some (-2, q) := by
  unfold Ev_line
  rw [Po_has_in h hW hl, Option.bind_some, if_neg one_ne, if_neg (by decide), if_neg (by decide), if_neg (by decide), if_neg (by decide), if_neg (by decide), if_neg (by decide)]
theorem x_line_out (h : zRX q 5 A) (hW : zWF A) (k : Int) : Ev_line q (aL A : Int) k = some (-1, q) := by
  have w1 := hW.2.2.2.2.2.1
  unfold Ev_line
  rw [Po_has_eq h hW (by omega), Option.bind_some, if_neg (c := 0 ≤ (aL A : Int) ∧ (aL A : Int) < (aL A : Int)) (fun g => Int.lt_irrefl _ g.2), if_pos zero_eq]
theorem x_wordAt (h : zRX q 5 A) (hW : zWF A) {l k : Nat} (hl : l < aL A) (hk : k < aSz A l) : Ev_wordAt q (l : Int) (k : Int) = some (aWd A l k : Int) := by
  have h8 := (hW.2.2.2.2.2.2.2.2.1 l).1
  unfold Ev_wordAt
  rw [Po_has_in h hW hl, Option.bind_some, if_neg one_ne, wrap_n (n := k) (by omega), if_neg (by omega), Po_wordsIn_eq h hW hl, Option.bind_some, wrap_n (n := aSz A l) (by omega), if_pos (by omega), Po_wordIn_eq h hW hl hk]
  rfl
theorem x_wordAt_end (h : zRX q 5 A) (hW : zWF A) {l : Nat} (hl : l < aL A) : Ev_wordAt q (l : Int) (aSz A l : Int) = some (-5) := by
  have h8 := (hW.2.2.2.2.2.2.2.2.1 l).1
  unfold Ev_wordAt
  rw [Po_has_in h hW hl, Option.bind_some, if_neg one_ne, wrap_n (n := aSz A l) (by omega), if_neg (by omega), Po_wordsIn_eq h hW hl, Option.bind_some, wrap_n (n := aSz A l) (by omega), if_neg (by omega)]
theorem x_wordAt_neg (h : zRX q 5 A) (hW : zWF A) {l : Nat} (hl : l < aL A) : Ev_wordAt q (l : Int) (-1) = some (-2) := by
  unfold Ev_wordAt
  rw [Po_has_in h hW hl, Option.bind_some, if_neg one_ne, if_pos (by decide)]
theorem x_wordAt_out (h : zRX q 5 A) (hW : zWF A) (k : Int) : Ev_wordAt q (aL A : Int) k = some (-1) := by
  have w1 := hW.2.2.2.2.2.1
  unfold Ev_wordAt
  rw [Po_has_eq h hW (by omega), Option.bind_some, if_neg (c := 0 ≤ (aL A : Int) ∧ (aL A : Int) < (aL A : Int)) (fun g => Int.lt_irrefl _ g.2), if_pos zero_eq]
theorem x_count0 (h : zRX q 5 A) (hW : zWF A) : Ev_count q 0 = some (aN A : Int) := by
  unfold Ev_count
  rw [if_pos (by decide), show Ws_size q = some (aN A : Int) from congrArg some h.1]
  rfl
theorem x_count1 (h : zRX q 5 A) (hW : zWF A) : Ev_count q 1 = some (aL A : Int) := by
  unfold Ev_count
  rw [if_neg (by decide), if_pos (by decide), show Po_size q = some (aL A : Int) from congrArg some h.2.2.2.1]
  rfl
theorem x_count2 (h : zRX q 5 A) (hW : zWF A) : Ev_count q 2 = some (cntTo (fun l => decide (0 < aSz A l)) (aL A) : Int) := by
  unfold Ev_count
  rw [if_neg (by decide), if_neg (by decide), if_pos (by decide), Po_madeLines_eq h hW]
  rfl
theorem x_count3 (h : zRX q 5 A) (hW : zWF A) : Ev_count q 3 = some (sumTo (aBI A) (aL A) : Int) := by
  unfold Ev_count
  rw [if_neg (by decide), if_neg (by decide), if_neg (by decide), if_pos (by decide), St_bendsInAll_eq h hW]
  rfl
theorem x_count4 (h : zRX q 5 A) (hW : zWF A) : Ev_count q 4 = some (aB A : Int) := by
  unfold Ev_count
  rw [if_neg (by decide), if_neg (by decide), if_neg (by decide), if_neg (by decide), if_pos (by decide), show q.1 12 0 = (aB A : Int) from h.2.1]
theorem x_count5 (h : zRX q 5 A) (hW : zWF A) : Ev_count q 5 = some (aS A : Int) := by
  unfold Ev_count
  rw [if_neg (by decide), if_neg (by decide), if_neg (by decide), if_neg (by decide), if_neg (by decide), if_pos (by decide), show q.1 12 1 = (aS A : Int) from h.2.2.1]
theorem x_count6 (h : zRX q 5 A) (hW : zWF A) : Ev_count q 6 = some (cntTo (fun w => decide (0 < aUB A (-1) w)) (aN A) : Int) := by
  unfold Ev_count
  rw [if_neg (by decide), if_neg (by decide), if_neg (by decide), if_neg (by decide), if_neg (by decide), if_neg (by decide), if_pos (by decide), St_usedWords_eq h hW]
  rfl
theorem x_count7 (h : zRX q 5 A) (hW : zWF A) : Ev_count q 7 = some (cntTo (fun w => decide (aUB A (-1) w = aLi A w)) (aN A) : Int) := by
  unfold Ev_count
  rw [if_neg (by decide), if_neg (by decide), if_neg (by decide), if_neg (by decide), if_neg (by decide), if_neg (by decide), if_neg (by decide), if_pos (by decide), St_usedUpWords_eq h hW]
  rfl
theorem x_count8 (h : zRX q 5 A) (hW : zWF A) : Ev_count q 8 = some (cntTo (fun w => decide (0 < cntTo (aFitB A w) (aB A))) (aN A) : Int) := by
  unfold Ev_count
  rw [if_neg (by decide), if_neg (by decide), if_neg (by decide), if_neg (by decide), if_neg (by decide), if_neg (by decide), if_neg (by decide), if_neg (by decide), if_pos (by decide), St_wordsWithBeats_eq h hW]
  rfl
theorem x_count9 (h : zRX q 5 A) (hW : zWF A) : Ev_count q 9 = some (sumTo (aLg A) (aL A) : Int) := by
  unfold Ev_count
  rw [if_neg (by decide), if_neg (by decide), if_neg (by decide), if_neg (by decide), if_neg (by decide), if_neg (by decide), if_neg (by decide), if_neg (by decide), if_neg (by decide), if_pos (by decide), St_poemLength_eq h hW]
  rfl
theorem x_count12 : Ev_count q 12 = some (-2) := by
  unfold Ev_count
  rw [if_neg (by decide), if_neg (by decide), if_neg (by decide), if_neg (by decide), if_neg (by decide), if_neg (by decide), if_neg (by decide), if_neg (by decide), if_neg (by decide), if_neg (by decide), if_neg (by decide), if_neg (by decide)]
end RA
/-! the poem as it is read -/
/-- where the k-th word of a line begins in it -/
def aOf (A : zT9) (l k : Nat) : Nat := sumTo (fun j => aNl A (aWd A l j) + 1) k
theorem aOf_zero (A : zT9) (l : Nat) : aOf A l 0 = 0 := rfl
theorem aOf_succ (A : zT9) (l k : Nat) : aOf A l (k + 1) = aOf A l k + (aNl A (aWd A l k) + 1) := rfl
theorem aOf_sz (A : zT9) (l : Nat) : ∀ n, sumTo (fun j => aNl A (aWd A l j) + 1) n = sumTo (fun j => aNl A (aWd A l j)) n + n := by
  intro n
  induction n with
  | zero => rfl
  | succ n ih =>
    show sumTo (fun j => aNl A (aWd A l j) + 1) n + (aNl A (aWd A l n) + 1) = sumTo (fun j => aNl A (aWd A l j)) n + aNl A (aWd A l n) + (n + 1)
    rw [ih]
    omega
theorem aOf_Lg (A : zT9) (l : Nat) : aLg A l = (if 0 < aSz A l then aOf A l (aSz A l) else 1) := by
  unfold aLg aOf aLI
  rw [aOf_sz]
  by_cases c : 0 < aSz A l
  · rw [if_pos c, if_pos c]
  · rw [if_neg c, if_neg c, show aSz A l = 0 by omega]
    rfl
theorem sumTo_mono {f : Nat → Nat} {a b : Nat} (h : a ≤ b) : sumTo f a ≤ sumTo f b := by
  induction b with
  | zero => rw [Nat.le_zero.mp h]; exact Nat.le_refl _
  | succ b ih =>
    by_cases e : a = b + 1
    · rw [e]; exact Nat.le_refl _
    · have := ih (by omega)
      show sumTo f a ≤ sumTo f b + f b
      omega
section PO
variable {q : zM} {A : zT9} {l : Nat}
theorem ar_ci {k s r m : Nat} (hk : k < s) (hs : s ≤ 12) (hr : r < 2147483648) (hm : m ≤ 8) : wrap (k : Int) = k ∧ wrap (s : Int) = s ∧ (k : Int) < (s : Int) ∧ wrap (r : Int) = r ∧ wrap (m : Int) = m ∧ ((r : Int) < (m : Int) ↔ r < m) ∧ ((r : Int) = (m : Int) ↔ r = m) ∧ wrap ((k : Int) + 1) = ((k + 1 : Nat) : Int) ∧ (((k + 1 : Nat) : Int) < (s : Int) ↔ k + 1 < s) ∧ (m < r → (r : Int) - ((m : Int) + 1) = ((r - (m + 1) : Nat) : Int)) ∧ (k : Int) + 1 = ((k + 1 : Nat) : Int) := ⟨wrap_n (by omega), wrap_n (by omega), by omega, wrap_n hr, wrap_n (by omega), by omega, by omega, wrap_n (n := k + 1) (by omega), by omega, fun h => by omega, by omega⟩
theorem ci_step (h : zRX q 5 A) (hW : zWF A) (hl : l < aL A) (v : Int) (K : Int → Int → Option Int) {k r : Nat} (hk : k < aSz A l) (hr : r < 2147483648) (n : Nat) (hg : aNl A (aWd A l k) < r) : St_codeIn_L15 q (l : Int) v (aSz A l : Int) K (n + 1) (r : Int) (k : Int) = St_codeIn_L15 q (l : Int) v (aSz A l : Int) K n ((r - (aNl A (aWd A l k) + 1) : Nat) : Int) ((k + 1 : Nat) : Int) := by
  have w2 := (hW.2.2.2.2.2.2.2.2.1 l).1
  obtain ⟨l1, l2, l3, l4⟩ := line_at hW hk
  obtain ⟨a1, a2, a3, a4, a5, a6, a7, a8, a9, a10, a11⟩ := ar_ci hk w2 hr (hW.2.2.2.2.2.2.1 _ l1).2.1
  rw [St_codeIn_L15, a1, a2, if_pos a3, Po_wordIn_eq h hW hl hk, Option.bind_some, Ws_letterCountOf_eq h hW l1, Option.bind_some, a4, a5, if_neg (fun g => Nat.lt_asymm hg (a6.mp g)), if_neg (fun g => Nat.ne_of_lt hg (a7.mp g).symm), a10 hg, a11]
theorem ci_letter (h : zRX q 5 A) (hW : zWF A) (hl : l < aL A) (v : Int) (K : Int → Int → Option Int) {k r : Nat} (hk : k < aSz A l) (n : Nat) (hg : r < aNl A (aWd A l k)) : St_codeIn_L15 q (l : Int) v (aSz A l : Int) K (n + 1) (r : Int) (k : Int) = some (aLt A (aWd A l k) r : Int) := by
  have w2 := (hW.2.2.2.2.2.2.2.2.1 l).1
  obtain ⟨l1, l2, l3, l4⟩ := line_at hW hk
  have h8 := (hW.2.2.2.2.2.2.1 _ l1).2.1
  have o1 : -2147483648 ≤ (r : Int) ∧ (r : Int) < 2147483648 := by omega
  have o2 : 0 ≤ (r : Int) ∧ (r : Int) < (aNl A (aWd A l k) : Int) := by omega
  obtain ⟨a1, a2, a3, a4, a5, a6, a7, a8, a9, a10, a11⟩ := ar_ci (r := r) hk w2 (by omega) h8
  rw [St_codeIn_L15, a1, a2, if_pos a3, Po_wordIn_eq h hW hl hk, Option.bind_some, Ws_letterCountOf_eq h hW l1, Option.bind_some, a4, a5, if_pos (a6.mpr hg), Ws_letterOf_eq h hW l1 o1, Option.bind_some, if_pos o2, Int.toNat_natCast]
theorem ci_blank (h : zRX q 5 A) (hW : zWF A) (hl : l < aL A) (v : Int) (K : Int → Int → Option Int) {k : Nat} (hk : k + 1 < aSz A l) (n : Nat) : St_codeIn_L15 q (l : Int) v (aSz A l : Int) K (n + 1) (aNl A (aWd A l k) : Int) (k : Int) = some 32 := by
  have w2 := (hW.2.2.2.2.2.2.2.2.1 l).1
  have hk' : k < aSz A l := by omega
  obtain ⟨l1, l2, l3, l4⟩ := line_at hW hk'
  have h8 := (hW.2.2.2.2.2.2.1 _ l1).2.1
  obtain ⟨a1, a2, a3, a4, a5, a6, a7, a8, a9, a10, a11⟩ := ar_ci (r := aNl A (aWd A l k)) hk' w2 (by omega) h8
  rw [St_codeIn_L15, a1, a2, if_pos a3, Po_wordIn_eq h hW hl hk', Option.bind_some, Ws_letterCountOf_eq h hW l1, Option.bind_some, if_neg (Int.lt_irrefl _), if_pos rfl, a8, if_pos (a9.mpr hk)]
theorem ci_last (h : zRX q 5 A) (hW : zWF A) (hl : l < aL A) (v : Int) (K : Int → Int → Option Int) {k : Nat} (hk : k + 1 = aSz A l) (n : Nat) : St_codeIn_L15 q (l : Int) v (aSz A l : Int) K (n + 1) (aNl A (aWd A l k) : Int) (k : Int) = St_codeIn_L15 q (l : Int) v (aSz A l : Int) K n (-1) (aSz A l : Int) := by
  have w2 := (hW.2.2.2.2.2.2.2.2.1 l).1
  have hk' : k < aSz A l := by omega
  obtain ⟨l1, l2, l3, l4⟩ := line_at hW hk'
  have h8 := (hW.2.2.2.2.2.2.1 _ l1).2.1
  have o1 : (aNl A (aWd A l k) : Int) - ((aNl A (aWd A l k) : Int) + 1) = -1 := by omega
  obtain ⟨a1, a2, a3, a4, a5, a6, a7, a8, a9, a10, a11⟩ := ar_ci (r := aNl A (aWd A l k)) hk' w2 (by omega) h8
  rw [St_codeIn_L15, a1, a2, if_pos a3, Po_wordIn_eq h hW hl hk', Option.bind_some, Ws_letterCountOf_eq h hW l1, Option.bind_some, if_neg (Int.lt_irrefl _), if_pos rfl, a8, if_neg (fun g => Nat.ne_of_lt (a9.mp g) hk), o1, a11, hk]
theorem ci_end (l : Int) (v s : Int) (K : Int → Int → Option Int) (r : Int) (n : Nat) : St_codeIn_L15 q l v s K (n + 1) r s = K r s := by
  rw [St_codeIn_L15, if_neg (Int.lt_irrefl _)]
theorem aOf_mono (A : zT9) (l : Nat) {a b : Nat} (h : a ≤ b) : aOf A l a ≤ aOf A l b := sumTo_mono h
theorem aOf_le (hW : zWF A) (hl : l < aL A) {k : Nat} (hk : k ≤ aSz A l) : aOf A l k ≤ 108 := by
  have h1 := aOf_mono A l hk
  have h2 := aLg_le hW l
  rw [aOf_Lg] at h2
  by_cases c : 0 < aSz A l
  · rw [if_pos c] at h2
    omega
  · have e : k = 0 := by omega
    rw [e, aOf_zero]
    omega
theorem ci_to (h : zRX q 5 A) (hW : zWF A) (hl : l < aL A) (v : Int) (K : Int → Int → Option Int) {r : Nat} (hr : r < 1000) : ∀ (j n : Nat), j ≤ aSz A l → St_codeIn_L15 q (l : Int) v (aSz A l : Int) K (n + j) ((aOf A l j + r : Nat) : Int) 0 = St_codeIn_L15 q (l : Int) v (aSz A l : Int) K n (r : Int) (j : Int) := by
  have main : ∀ (d j n : Nat), j + d ≤ aSz A l → St_codeIn_L15 q (l : Int) v (aSz A l : Int) K (n + d) ((aOf A l (j + d) - aOf A l j + r : Nat) : Int) (j : Int) = St_codeIn_L15 q (l : Int) v (aSz A l : Int) K n (r : Int) ((j + d : Nat) : Int) := by
    intro d
    induction d with
    | zero =>
      intro j n _
      rw [Nat.add_zero, Nat.add_zero, Nat.sub_self, Nat.zero_add]
    | succ d ih =>
      intro j n hj
      have hjl : j < aSz A l := by omega
      have e1 := aOf_succ A l j
      have e2 := aOf_mono A l (show j + 1 ≤ j + (d + 1) by omega)
      have e3 := aOf_le hW hl (show j + (d + 1) ≤ aSz A l from hj)
      have e4 := ih (j + 1) n (by omega)
      rw [show j + 1 + d = j + (d + 1) by omega] at e4
      rw [show n + (d + 1) = n + d + 1 by omega, ci_step h hW hl v K hjl (by omega) (n + d) (by omega), ← e4, show aOf A l (j + (d + 1)) - aOf A l j + r - (aNl A (aWd A l j) + 1) = aOf A l (j + (d + 1)) - aOf A l (j + 1) + r by omega]
  intro j n hj
  have := main j 0 n (by omega)
  rw [Nat.zero_add, aOf_zero, Nat.sub_zero] at this
  exact this
/-- a word's letter in a line -/
theorem codeIn_letter (h : zRX q 5 A) (hW : zWF A) (hl : l < aL A) {k i : Nat} (hk : k < aSz A l) (hi : i < aNl A (aWd A l k)) : St_codeIn q (l : Int) ((aOf A l k + i : Nat) : Int) = some (aLt A (aWd A l k) i : Int) := by
  have w2 := (hW.2.2.2.2.2.2.2.2.1 l).1
  obtain ⟨l1, l2, l3, l4⟩ := line_at hW hk
  have h8 := (hW.2.2.2.2.2.2.1 _ l1).2.1
  unfold St_codeIn
  rw [Po_wordsIn_eq h hW hl, Option.bind_some, show (5000 : Nat) = (4999 - k) + 1 + k by omega, ci_to h hW hl _ _ (by omega) k _ (by omega), ci_letter h hW hl _ _ hk _ hi]
theorem codeIn_blank (h : zRX q 5 A) (hW : zWF A) (hl : l < aL A) {k : Nat} (hk : k + 1 < aSz A l) : St_codeIn q (l : Int) ((aOf A l k + aNl A (aWd A l k) : Nat) : Int) = some 32 := by
  have w2 := (hW.2.2.2.2.2.2.2.2.1 l).1
  obtain ⟨l1, l2, l3, l4⟩ := line_at hW (show k < aSz A l by omega)
  have h8 := (hW.2.2.2.2.2.2.1 _ l1).2.1
  unfold St_codeIn
  rw [Po_wordsIn_eq h hW hl, Option.bind_some, show (5000 : Nat) = (4999 - k) + 1 + k by omega, ci_to h hW hl _ _ (by omega) k _ (by omega), ci_blank h hW hl _ _ hk _]
theorem codeIn_slash (h : zRX q 5 A) (hW : zWF A) (hl : l < aL A) : St_codeIn q (l : Int) ((aLg A l - 1 : Nat) : Int) = some 47 := by
  have w2 := (hW.2.2.2.2.2.2.2.2.1 l).1
  unfold St_codeIn
  rw [Po_wordsIn_eq h hW hl, Option.bind_some, aOf_Lg]
  by_cases c : 0 < aSz A l
  · have hk : aSz A l - 1 + 1 = aSz A l := by omega
    obtain ⟨l1, l2, l3, l4⟩ := line_at hW (show aSz A l - 1 < aSz A l by omega)
    have h8 := (hW.2.2.2.2.2.2.1 _ l1).2.1
    have e := aOf_succ A l (aSz A l - 1)
    rw [hk] at e
    rw [if_pos c, show aOf A l (aSz A l) - 1 = aOf A l (aSz A l - 1) + aNl A (aWd A l (aSz A l - 1)) by omega, show (5000 : Nat) = (4998 - (aSz A l - 1)) + 1 + 1 + (aSz A l - 1) by omega, ci_to h hW hl _ _ (by omega) _ _ (by omega), ci_last h hW hl _ _ hk _, ci_end]
  · rw [if_neg c, show aSz A l = 0 by omega]
    exact ci_end _ _ _ _ _ 4999
theorem ar_ca {i L r g : Nat} (hi : i < L) (hL : L ≤ 8) (hr : r < 100000) (hg : g ≤ 108) : wrap (i : Int) = i ∧ wrap (L : Int) = L ∧ (i : Int) < (L : Int) ∧ wrap (r : Int) = r ∧ wrap (g : Int) = g ∧ ((r : Int) < (g : Int) ↔ r < g) ∧ (g ≤ r → (r : Int) - (g : Int) = ((r - g : Nat) : Int)) ∧ (i : Int) + 1 = ((i + 1 : Nat) : Int) := ⟨wrap_n (by omega), wrap_n (by omega), by omega, wrap_n (by omega), wrap_n (by omega), by omega, fun h => by omega, by omega⟩
theorem ca_step (h : zRX q 5 A) (hW : zWF A) (v : Int) (K : Int → Int → Option Int) {i r : Nat} (hi : i < aL A) (hr : r < 100000) (n : Nat) (hg : aLg A i ≤ r) : St_codeAt_L4 q v K (n + 1) (r : Int) (i : Int) = St_codeAt_L4 q v K n ((r - aLg A i : Nat) : Int) ((i + 1 : Nat) : Int) := by
  obtain ⟨a1, a2, a3, a4, a5, a6, a7, a8⟩ := ar_ca hi hW.2.2.2.2.2.1 hr (aLg_le hW i)
  rw [St_codeAt_L4, show Po_size q = some (aL A : Int) from congrArg some h.2.2.2.1, Option.bind_some, a1, a2, if_pos a3, St_lengthOf_eq h hW hi, Option.bind_some, a4, a5, if_neg (fun g => Nat.lt_irrefl _ (Nat.lt_of_lt_of_le (a6.mp g) hg)), a7 hg, a8]
theorem ca_in (h : zRX q 5 A) (hW : zWF A) (v : Int) (K : Int → Int → Option Int) {i r : Nat} (hi : i < aL A) (hr : r < 100000) (n : Nat) (hg : r < aLg A i) {c : Int} (hc : St_codeIn q (i : Int) (r : Int) = some c) : St_codeAt_L4 q v K (n + 1) (r : Int) (i : Int) = some c := by
  obtain ⟨a1, a2, a3, a4, a5, a6, a7, a8⟩ := ar_ca hi hW.2.2.2.2.2.1 hr (aLg_le hW i)
  rw [St_codeAt_L4, show Po_size q = some (aL A : Int) from congrArg some h.2.2.2.1, Option.bind_some, a1, a2, if_pos a3, St_lengthOf_eq h hW hi, Option.bind_some, a4, a5, if_pos (a6.mpr hg), hc]
  rfl
theorem ca_end (h : zRX q 5 A) (v r : Int) (K : Int → Int → Option Int) (n : Nat) : St_codeAt_L4 q v K (n + 1) r (aL A : Int) = K r (aL A : Int) := by
  rw [St_codeAt_L4, show Po_size q = some (aL A : Int) from congrArg some h.2.2.2.1, Option.bind_some, if_neg (Int.lt_irrefl _)]
/-- where a line begins in the poem -/
def aPo (A : zT9) (l : Nat) : Nat := sumTo (aLg A) l
theorem aPo_succ (A : zT9) (l : Nat) : aPo A (l + 1) = aPo A l + aLg A l := rfl
theorem aPo_le (hW : zWF A) (l : Nat) : aPo A l ≤ l * 108 := sumTo_le (fun i _ => aLg_le hW i)
theorem ca_to (h : zRX q 5 A) (hW : zWF A) (v : Int) (K : Int → Int → Option Int) {r : Nat} (hr : r < 1000) : ∀ (j n : Nat), j ≤ aL A → St_codeAt_L4 q v K (n + j) ((aPo A j + r : Nat) : Int) 0 = St_codeAt_L4 q v K n (r : Int) (j : Int) := by
  have w8 := hW.2.2.2.2.2.1
  have main : ∀ (d j n : Nat), j + d ≤ aL A → St_codeAt_L4 q v K (n + d) ((aPo A (j + d) - aPo A j + r : Nat) : Int) (j : Int) = St_codeAt_L4 q v K n (r : Int) ((j + d : Nat) : Int) := by
    intro d
    induction d with
    | zero =>
      intro j n _
      rw [Nat.add_zero, Nat.add_zero, Nat.sub_self, Nat.zero_add]
    | succ d ih =>
      intro j n hj
      have hjl : j < aL A := by omega
      have e1 := aPo_succ A j
      have e2 : aPo A (j + 1) ≤ aPo A (j + (d + 1)) := sumTo_mono (by omega)
      have e3 := aPo_le hW (j + (d + 1))
      have e4 := ih (j + 1) n (by omega)
      rw [show j + 1 + d = j + (d + 1) by omega] at e4
      rw [show n + (d + 1) = n + d + 1 by omega, ca_step h hW v K hjl (by omega) (n + d) (by omega), ← e4, show aPo A (j + (d + 1)) - aPo A j + r - aLg A j = aPo A (j + (d + 1)) - aPo A (j + 1) + r by omega]
  intro j n hj
  have := main j 0 n (by omega)
  rw [Nat.zero_add, show aPo A 0 = 0 from rfl, Nat.sub_zero] at this
  exact this
theorem poemAt_in (h : zRX q 5 A) (hW : zWF A) (hl : l < aL A) {r : Nat} (hr : r < aLg A l) {c : Nat} (hc : St_codeIn q (l : Int) (r : Int) = some (c : Int)) (hc2 : c < 1000) : Ev_poemAt q ((aPo A l + r : Nat) : Int) = some (c : Int) := by
  have w8 := hW.2.2.2.2.2.1
  have g1 := aLg_le hW l
  have g2 := aPo_le hW l
  unfold Ev_poemAt St_codeAt
  rw [wrap_n (by omega), if_neg (by omega), show (5000 : Nat) = (4999 - l) + 1 + l by omega, ca_to h hW _ _ (by omega) l _ (by omega), ca_in h hW _ _ hl (by omega) _ hr hc, Option.bind_some, wrap_n (by omega), if_neg (by omega)]
theorem poemAt_end (h : zRX q 5 A) (hW : zWF A) : Ev_poemAt q (aPo A (aL A) : Int) = some (-5) := by
  have w8 := hW.2.2.2.2.2.1
  have g2 := aPo_le hW (aL A)
  have e := ca_to h hW (aPo A (aL A) : Int) (fun _ _ => some (-1)) (r := 0) (by omega) (aL A) (4999 - aL A + 1) (Nat.le_refl _)
  rw [show 4999 - aL A + 1 + aL A = 5000 by omega, ca_end h, Nat.add_zero] at e
  unfold Ev_poemAt St_codeAt
  rw [wrap_n (by omega), if_neg (by omega), show (0 : Int) = ((0 : Nat) : Int) from rfl]
  rw [show ((0 : Nat) : Int) = (0 : Int) from rfl, e, Option.bind_some, if_pos (by decide)]
theorem poemAt_neg : Ev_poemAt q (-1) = some (-2) := by
  unfold Ev_poemAt
  rw [if_pos (by decide)]
end PO

/-! calls that only read: both answer the same -/
theorem aUB_neg (A : zT9) {a b : Int} (ha : a < 0) (hb : b < 0) (w : Nat) : aUB A a w = aUB A b w := by
  unfold aUB
  apply cntTo_congr
  intro i _
  rw [decide_eq_true (show (i : Int) ≠ a by omega), decide_eq_true (show (i : Int) ≠ b by omega)]
def rSame (o o' : Option Int) : Prop := ∃ r : Int, o = some r ∧ o' = some r
section SAME
variable {q : zM} {A : zT9}
theorem word_same (hX : zRX q 5 A) (hM : zRM (q.1 127) A) (hW : zWF A) {v1 v2 : Int} (h1 : -2147483648 ≤ v1 ∧ v1 < 2147483648) (h2 : -2147483648 ≤ v2 ∧ v2 < 2147483648) : rSame (Ev_word q v1 v2) (Mo_word q v1 v2) := by
  have w1 := hW.1
  unfold Ev_word Mo_word
  rw [Ws_has_eq hX hW h1, Mo_noWord_eq hM hW h1, Option.bind_some, Option.bind_some]
  by_cases hin : 0 ≤ v1 ∧ v1 < aN A
  · rw [if_pos hin, if_pos hin, if_neg one_ne, if_pos zero_eq]
    obtain ⟨w, rfl⟩ : ∃ w : Nat, v1 = (w : Int) := ⟨v1.toNat, by omega⟩
    have hw : w < aN A := by omega
    rw [Ws_letterCountOf_eq hX hW hw, Mo_letters_eq hM hW hw, Ws_syllablesOf_eq hX hW hw, Mo_syllables_eq hM hW hw, Ws_strongOf_eq hX hW hw, Mo_stresses_eq hM hW hw, Ws_limitOf_eq hX hW hw, Mo_limit_eq hM hW hw, Po_linesUsing_eq hX hW (by omega), Mo_usedBut_eq hM hW (by decide) (by omega), Ws_firstLetterOf_eq hX hW hw, Mo_firstLetter_eq hM hW hw, Ws_lastLetterOf_eq hX hW hw, Mo_lastLetter_eq hM hW hw, St_beatsFor_eq hX hW hw, Mo_beatsFor_eq hM hW hw, aUB_neg A (a := -1) (b := -5) (by decide) (by decide)]
    simp only [Option.bind_some]
    (repeat' split) <;> exact ⟨_, rfl, rfl⟩
  · rw [if_neg hin, if_neg hin, if_pos zero_eq, if_neg one_ne]
    exact ⟨_, rfl, rfl⟩
theorem letterAt_same (hX : zRX q 5 A) (hM : zRM (q.1 127) A) (hW : zWF A) {v1 v2 : Int} (h1 : -2147483648 ≤ v1 ∧ v1 < 2147483648) (h2 : -2147483648 ≤ v2 ∧ v2 < 2147483648) : rSame (Ev_letterAt q v1 v2) (Mo_letterAt q v1 v2) := by
  have w1 := hW.1
  unfold Ev_letterAt Mo_letterAt
  rw [Ws_has_eq hX hW h1, Mo_noWord_eq hM hW h1, Option.bind_some, Option.bind_some]
  by_cases hin : 0 ≤ v1 ∧ v1 < aN A
  · rw [if_pos hin, if_pos hin, if_neg one_ne, if_pos zero_eq, wrap_eq h2]
    obtain ⟨w, rfl⟩ : ∃ w : Nat, v1 = (w : Int) := ⟨v1.toNat, by omega⟩
    have hw : w < aN A := by omega
    have h8 := (hW.2.2.2.2.2.2.1 w hw).2.1
    rw [Ws_letterCountOf_eq hX hW hw, Mo_letters_eq hM hW hw, Option.bind_some, Option.bind_some, wrap_n (n := aNl A w) (by omega)]
    by_cases h3 : v2 < 0
    · rw [if_pos h3, if_pos h3]; exact ⟨_, rfl, rfl⟩
    · rw [if_neg h3, if_neg h3]
      by_cases h4 : v2 < (aNl A w : Int)
      · rw [if_pos h4, if_pos h4, Ws_letterOf_eq hX hW hw h2, if_pos (by omega)]
        obtain ⟨k, rfl⟩ : ∃ k : Nat, v2 = (k : Int) := ⟨v2.toNat, by omega⟩
        rw [Mo_letter_eq hM hW hw (by omega)]
        exact ⟨_, rfl, rfl⟩
      · rw [if_neg h4, if_neg h4]; exact ⟨_, rfl, rfl⟩
  · rw [if_neg hin, if_neg hin, if_pos zero_eq, if_neg one_ne]
    exact ⟨_, rfl, rfl⟩
theorem wordAt_same (hX : zRX q 5 A) (hM : zRM (q.1 127) A) (hW : zWF A) {v1 v2 : Int} (h1 : -2147483648 ≤ v1 ∧ v1 < 2147483648) (h2 : -2147483648 ≤ v2 ∧ v2 < 2147483648) : rSame (Ev_wordAt q v1 v2) (Mo_wordAt q v1 v2) := by
  have w1 := hW.2.2.2.2.2.1
  unfold Ev_wordAt Mo_wordAt
  rw [Po_has_eq hX hW h1, Mo_noLine_eq hM hW h1, Option.bind_some, Option.bind_some]
  by_cases hin : 0 ≤ v1 ∧ v1 < aL A
  · rw [if_pos hin, if_pos hin, if_neg one_ne, if_pos zero_eq, wrap_eq h2]
    obtain ⟨l, rfl⟩ : ∃ w : Nat, v1 = (w : Int) := ⟨v1.toNat, by omega⟩
    have hl : l < aL A := by omega
    have h8 := (hW.2.2.2.2.2.2.2.2.1 l).1
    rw [Po_wordsIn_eq hX hW hl, Mo_size_eq hM (by omega), Option.bind_some, Option.bind_some, wrap_n (n := aSz A l) (by omega)]
    by_cases h3 : v2 < 0
    · rw [if_pos h3, if_pos h3]; exact ⟨_, rfl, rfl⟩
    · rw [if_neg h3, if_neg h3]
      by_cases h4 : v2 < (aSz A l : Int)
      · rw [if_pos h4, if_pos h4]
        obtain ⟨k, rfl⟩ : ∃ k : Nat, v2 = (k : Int) := ⟨v2.toNat, by omega⟩
        rw [Po_wordIn_eq hX hW hl (by omega), Mo_wordIn_eq hM hW hl (by omega)]
        exact ⟨_, rfl, rfl⟩
      · rw [if_neg h4, if_neg h4]; exact ⟨_, rfl, rfl⟩
  · rw [if_neg hin, if_neg hin, if_pos zero_eq, if_neg one_ne]
    exact ⟨_, rfl, rfl⟩
/-- the calls of line() but for the rows' number -/
theorem line_same (hX : zRX q 5 A) (hM : zRM (q.1 127) A) (hW : zWF A) {v1 v2 : Int} (h1 : -2147483648 ≤ v1 ∧ v1 < 2147483648) (h2 : -2147483648 ≤ v2 ∧ v2 < 2147483648) (h5 : ¬ (v2 = 5 ∧ 0 ≤ v1 ∧ v1 < aL A)) : ∃ r : Int, Ev_line q v1 v2 = some (r, q) ∧ Mo_line q v1 v2 = some (r, q) := by
  have w1 := hW.2.2.2.2.2.1
  unfold Ev_line Mo_line
  rw [Po_has_eq hX hW h1, Mo_noLine_eq hM hW h1, Option.bind_some, Option.bind_some]
  by_cases hin : 0 ≤ v1 ∧ v1 < aL A
  · rw [if_pos hin, if_pos hin, if_neg one_ne, if_pos zero_eq, wrap_eq h2]
    obtain ⟨l, rfl⟩ : ∃ w : Nat, v1 = (w : Int) := ⟨v1.toNat, by omega⟩
    have hl : l < aL A := by omega
    have h8 := (hW.2.2.2.2.2.2.2.2.1 l).1
    have e1 : ((4 : Int) + (l : Int)) = ((4 + l : Nat) : Int) := by omega
    have e2 : ((12 : Int) + (l : Int)) = ((12 + l : Nat) : Int) := by omega
    rw [Po_wordsIn_eq hX hW hl, Mo_size_eq hM (by omega), St_bendsIn_eq hX hW hl, Mo_bendsIn_eq hM hW hl, St_lettersIn_eq hX hW hl, Mo_lettersIn_eq hM hW hl, Po_firstLetterOf_eq hX hW hl, Po_lastLetterOf_eq hX hW hl, e1, e2, wrap_n (n := 4 + l) (by omega), wrap_n (n := 12 + l) (by omega), ck_in (by omega), ck_in (by omega), Int.toNat_natCast, Int.toNat_natCast, (hM.2.2.2.2.2.1 l hl).1, (hM.2.2.2.2.2.1 l hl).2]
    simp only [Option.bind_some]
    rw [if_neg (c := v2 = 5) (by omega), if_neg (c := v2 = 5) (by omega)]
    (repeat' split) <;> exact ⟨_, rfl, rfl⟩
  · rw [if_neg hin, if_neg hin, if_pos zero_eq, if_neg one_ne]
    exact ⟨_, rfl, rfl⟩
theorem code_same (hX : zRX q 5 A) (hM : zRM (q.1 127) A) (hW : zWF A) {l : Nat} (hl : l < aL A) (v2 : Int) : ∀ (d k n r : Nat), k + d = aSz A l → d < n → r < 2147483648 → ∃ x : Nat, 0 < x ∧ x < 256 ∧ St_codeIn_L15 q (l : Int) v2 (aSz A l : Int) (fun _ _ => some 47) n (r : Int) (k : Int) = some (x : Int) ∧ Mo_characterIn_L5 q (l : Int) v2 (fun _ _ => some 47) n (r : Int) (k : Int) = some (x : Int) := by
  have w1 := hW.2.2.2.2.2.1
  have w2 := (hW.2.2.2.2.2.2.2.2.1 l).1
  intro d
  induction d with
  | zero =>
    intro k n r hk hn hr
    obtain ⟨n, rfl⟩ : ∃ m, n = m + 1 := ⟨n - 1, by omega⟩
    refine ⟨47, by omega, by omega, ?_, ?_⟩
    · rw [St_codeIn_L15, wrap_n (n := k) (by omega), wrap_n (n := aSz A l) (by omega), if_neg (by omega)]
      rfl
    · rw [Mo_characterIn_L5, Mo_size_eq hM (by omega), Option.bind_some, wrap_n (n := k) (by omega), wrap_n (n := aSz A l) (by omega), if_neg (by omega)]
      rfl
  | succ d ih =>
    intro k n r hk hn hr
    obtain ⟨n, rfl⟩ : ∃ m, n = m + 1 := ⟨n - 1, by omega⟩
    have hks : k < aSz A l := by omega
    obtain ⟨l1, l2, l3, l4⟩ := line_at hW hks
    have h8 := (hW.2.2.2.2.2.2.1 _ l1).2.1
    rw [St_codeIn_L15, Mo_characterIn_L5, Mo_size_eq hM (by omega), Option.bind_some, Option.bind_some, wrap_n (n := k) (by omega), wrap_n (n := aSz A l) (by omega), if_pos (by omega), if_pos (by omega), Po_wordIn_eq hX hW hl hks, Mo_wordIn_eq hM hW hl hks, Option.bind_some, Option.bind_some, Option.bind_some, Ws_letterCountOf_eq hX hW l1, Mo_letters_eq hM hW l1, Option.bind_some, Option.bind_some, wrap_n hr, wrap_n (n := aNl A (aWd A l k)) (by omega)]
    by_cases h1 : r < aNl A (aWd A l k)
    · have hlt := lt_rng hW l1 h1
      rw [if_pos (by omega), if_pos (by omega), Ws_letterOf_eq hX hW l1 (by omega), if_pos (by omega), Mo_letter_eq hM hW l1 h1, Int.toNat_natCast]
      exact ⟨_, by omega, by omega, rfl, rfl⟩
    · rw [if_neg (c := (r : Int) < (aNl A (aWd A l k) : Int)) (by omega), if_neg (c := (r : Int) < (aNl A (aWd A l k) : Int)) (by omega)]
      by_cases h2 : r = aNl A (aWd A l k)
      · rw [if_pos (c := (r : Int) = (aNl A (aWd A l k) : Int)) (by omega), if_pos (c := (r : Int) = (aNl A (aWd A l k) : Int)) (by omega), show ((k : Int) + 1) = ((k + 1 : Nat) : Int) by omega, wrap_n (n := k + 1) (by omega)]
        by_cases h3 : k + 1 < aSz A l
        · rw [if_pos (by omega), show ((aSz A l : Int) - 1) = ((aSz A l - 1 : Nat) : Int) by omega, wrap_n (by omega), if_neg (by omega)]
          exact ⟨32, by omega, by omega, rfl, rfl⟩
        · rw [if_neg (by omega), show ((aSz A l : Int) - 1) = ((aSz A l - 1 : Nat) : Int) by omega, wrap_n (by omega), if_pos (by omega)]
          obtain ⟨n, rfl⟩ : ∃ m, n = m + 1 := ⟨n - 1, by omega⟩
          refine ⟨47, by omega, by omega, ?_, rfl⟩
          rw [St_codeIn_L15, wrap_n (n := k + 1) (by omega), wrap_n (n := aSz A l) (by omega), if_neg (by omega)]
          rfl
      · rw [if_neg (c := (r : Int) = (aNl A (aWd A l k) : Int)) (by omega), if_neg (c := (r : Int) = (aNl A (aWd A l k) : Int)) (by omega), show ((k : Int) + 1) = ((k + 1 : Nat) : Int) by omega, show ((r : Int) - ((aNl A (aWd A l k) : Int) + 1)) = ((r - (aNl A (aWd A l k) + 1) : Nat) : Int) by omega]
        exact ih (k + 1) n _ (by omega) (by omega) (by omega)
theorem codeIn_same (hX : zRX q 5 A) (hM : zRM (q.1 127) A) (hW : zWF A) {l r : Nat} (hl : l < aL A) (hr : r < 2147483648) : ∃ x : Nat, 0 < x ∧ x < 256 ∧ St_codeIn q (l : Int) (r : Int) = some (x : Int) ∧ Mo_characterIn q (l : Int) (r : Int) = some (x : Int) := by
  have w2 := (hW.2.2.2.2.2.2.2.2.1 l).1
  obtain ⟨x, h1, h2, h3, h4⟩ := code_same hX hM hW hl (r : Int) (aSz A l) 0 5000 r (by omega) (by omega) hr
  refine ⟨x, h1, h2, ?_, h4⟩
  unfold St_codeIn
  rw [Po_wordsIn_eq hX hW hl, Option.bind_some]
  exact h3
theorem poem_same (hX : zRX q 5 A) (hM : zRM (q.1 127) A) (hW : zWF A) (v : Int) : ∀ (d l n r : Nat), l + d = aL A → d < n → r < 2147483648 → (∃ x : Nat, 0 < x ∧ x < 256 ∧ St_codeAt_L4 q v (fun _ _ => some (-1)) n (r : Int) (l : Int) = some (x : Int) ∧ Mo_poemAt_L11 q v (fun _ _ => some (-5)) n (r : Int) (l : Int) = some (x : Int)) ∨ (St_codeAt_L4 q v (fun _ _ => some (-1)) n (r : Int) (l : Int) = some (-1) ∧ Mo_poemAt_L11 q v (fun _ _ => some (-5)) n (r : Int) (l : Int) = some (-5)) := by
  have w1 := hW.2.2.2.2.2.1
  intro d
  induction d with
  | zero =>
    intro l n r hk hn hr
    obtain ⟨n, rfl⟩ : ∃ m, n = m + 1 := ⟨n - 1, by omega⟩
    refine Or.inr ⟨?_, ?_⟩
    · rw [St_codeAt_L4]
      unfold Po_size
      rw [Option.bind_some, show q.1 13 0 = aL A from hX.2.2.2.1, wrap_n (n := l) (by omega), wrap_n (n := aL A) (by omega), if_neg (by omega)]
    · rw [Mo_poemAt_L11, hM.2.2.2.1, wrap_n (n := l) (by omega), wrap_n (n := aL A) (by omega), if_neg (by omega)]
  | succ d ih =>
    intro l n r hk hn hr
    obtain ⟨n, rfl⟩ : ∃ m, n = m + 1 := ⟨n - 1, by omega⟩
    have hl : l < aL A := by omega
    have hg := aLg_le hW l
    rw [St_codeAt_L4, Mo_poemAt_L11, hM.2.2.2.1]
    unfold Po_size
    rw [Option.bind_some, show q.1 13 0 = aL A from hX.2.2.2.1, wrap_n (n := l) (by omega), wrap_n (n := aL A) (by omega), if_pos (by omega), if_pos (by omega), St_lengthOf_eq hX hW hl, Mo_lengthOf_eq hM hW hl, Option.bind_some, Option.bind_some, Option.bind_some, wrap_n hr, wrap_n (n := aLg A l) (by omega)]
    by_cases h1 : r < aLg A l
    · rw [if_pos (by omega), if_pos (by omega)]
      obtain ⟨x, x1, x2, x3, x4⟩ := codeIn_same hX hM hW hl hr
      rw [x3, x4]
      exact Or.inl ⟨x, x1, x2, rfl, rfl⟩
    · rw [if_neg (by omega), if_neg (by omega), show ((l : Int) + 1) = ((l + 1 : Nat) : Int) by omega, show ((r : Int) - (aLg A l : Int)) = ((r - aLg A l : Nat) : Int) by omega]
      exact ih (l + 1) n _ (by omega) (by omega) (by omega)
theorem poemAt_same (hX : zRX q 5 A) (hM : zRM (q.1 127) A) (hW : zWF A) {v : Int} (h1 : -2147483648 ≤ v ∧ v < 2147483648) : rSame (Ev_poemAt q v) (Mo_poemAt q v) := by
  have w1 := hW.2.2.2.2.2.1
  unfold Ev_poemAt Mo_poemAt
  rw [wrap_eq h1]
  by_cases h2 : v < 0
  · rw [if_pos h2, if_pos h2]; exact ⟨_, rfl, rfl⟩
  · rw [if_neg h2, if_neg h2]
    obtain ⟨r, rfl⟩ : ∃ k : Nat, v = (k : Int) := ⟨v.toNat, by omega⟩
    unfold St_codeAt
    rcases poem_same hX hM hW (r : Int) (aL A) 0 5000 r (by omega) (by omega) (by omega) with ⟨x, x1, x2, x3, x4⟩ | ⟨x3, x4⟩
    · rw [show (0 : Int) = ((0 : Nat) : Int) from rfl, x3, x4, Option.bind_some, wrap_n (by omega), if_neg (by omega)]
      exact ⟨_, rfl, rfl⟩
    · rw [show (0 : Int) = ((0 : Nat) : Int) from rfl, x3, x4, Option.bind_some, if_pos (by decide)]
      exact ⟨_, rfl, rfl⟩
end SAME

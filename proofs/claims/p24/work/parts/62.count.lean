/-! count -/
section CT
variable {q : zM} {A : zT9} {hs : List zT9} {sn : Nat → Option zT9} {tx : List Nat}
theorem St_bendsInAll_eq (h : zRX q 5 A) (hW : zWF A) : St_bendsInAll q = some (sumTo (aBI A) (aL A) : Int) := by
  have w1 := hW.2.2.2.2.2.1
  unfold St_bendsInAll
  refine for_all (G := fun n i => St_bendsInAll_L4 q (fun v _ => some v) n (sumTo (aBI A) i : Int) (i : Int)) (N := aL A) (by omega) (fun n i hi => ?_) (fun n => ?_)
  · show St_bendsInAll_L4 _ _ (n + 1) _ _ = St_bendsInAll_L4 _ _ n (sumTo _ (i + 1) : Int) ((i + 1 : Nat) : Int)
    rw [St_bendsInAll_L4, show Po_size q = some (aL A : Int) from congrArg some h.2.2.2.1, Option.bind_some, wrap_n (n := i) (by omega), wrap_n (n := aL A) (by omega), if_pos (by omega), St_bendsIn_eq h hW hi, Option.bind_some]
    simp [sumTo]
  · show St_bendsInAll_L4 _ _ (n + 1) _ _ = _
    rw [St_bendsInAll_L4, show Po_size q = some (aL A : Int) from congrArg some h.2.2.2.1, Option.bind_some, if_neg (Int.lt_irrefl _)]
theorem St_poemLength_eq (h : zRX q 5 A) (hW : zWF A) : St_poemLength q = some (sumTo (aLg A) (aL A) : Int) := by
  have w1 := hW.2.2.2.2.2.1
  unfold St_poemLength
  refine for_all (G := fun n i => St_poemLength_L4 q (fun v _ => some v) n (sumTo (aLg A) i : Int) (i : Int)) (N := aL A) (by omega) (fun n i hi => ?_) (fun n => ?_)
  · show St_poemLength_L4 _ _ (n + 1) _ _ = St_poemLength_L4 _ _ n (sumTo _ (i + 1) : Int) ((i + 1 : Nat) : Int)
    rw [St_poemLength_L4, show Po_size q = some (aL A : Int) from congrArg some h.2.2.2.1, Option.bind_some, wrap_n (n := i) (by omega), wrap_n (n := aL A) (by omega), if_pos (by omega), St_lengthOf_eq h hW hi, Option.bind_some]
    simp [sumTo]
  · show St_poemLength_L4 _ _ (n + 1) _ _ = _
    rw [St_poemLength_L4, show Po_size q = some (aL A : Int) from congrArg some h.2.2.2.1, Option.bind_some, if_neg (Int.lt_irrefl _)]
theorem St_usedWords_eq (h : zRX q 5 A) (hW : zWF A) : St_usedWords q = some (cntTo (fun w => decide (0 < aUB A (-1) w)) (aN A) : Int) := by
  have w1 := hW.1
  unfold St_usedWords
  refine for_all (G := fun n i => St_usedWords_L4 q (fun v _ => some v) n (cntTo (fun w => decide (0 < aUB A (-1) w)) i : Int) (i : Int)) (N := aN A) (by omega) (fun n i hi => ?_) (fun n => ?_)
  · show St_usedWords_L4 _ _ (n + 1) _ _ = St_usedWords_L4 _ _ n (cntTo _ (i + 1) : Int) ((i + 1 : Nat) : Int)
    have hu := aUB_le hW (-1) i
    rw [St_usedWords_L4, show Ws_size q = some (aN A : Int) from congrArg some h.1, Option.bind_some, wrap_n (n := i) (by omega), wrap_n (n := aN A) (by omega), if_pos (by omega), Po_linesUsing_eq h hW (by omega), Option.bind_some, wrap_n (n := aUB A (-1) i) (by omega)]
    by_cases c : 0 < aUB A (-1) i
    · rw [if_pos (by omega)]
      simp [cntTo, c]
    · rw [if_neg (by omega)]
      simp [cntTo, c]
  · show St_usedWords_L4 _ _ (n + 1) _ _ = _
    rw [St_usedWords_L4, show Ws_size q = some (aN A : Int) from congrArg some h.1, Option.bind_some, if_neg (Int.lt_irrefl _)]
theorem St_usedUpWords_eq (h : zRX q 5 A) (hW : zWF A) : St_usedUpWords q = some (cntTo (fun w => decide (aUB A (-1) w = aLi A w)) (aN A) : Int) := by
  have w1 := hW.1
  unfold St_usedUpWords
  refine for_all (G := fun n i => St_usedUpWords_L4 q (fun v _ => some v) n (cntTo (fun w => decide (aUB A (-1) w = aLi A w)) i : Int) (i : Int)) (N := aN A) (by omega) (fun n i hi => ?_) (fun n => ?_)
  · show St_usedUpWords_L4 _ _ (n + 1) _ _ = St_usedUpWords_L4 _ _ n (cntTo _ (i + 1) : Int) ((i + 1 : Nat) : Int)
    have hu := aUB_le hW (-1) i
    have hli := (hW.2.2.2.2.2.2.1 i hi).2.2.2.2.2.2.1
    rw [St_usedUpWords_L4, show Ws_size q = some (aN A : Int) from congrArg some h.1, Option.bind_some, wrap_n (n := i) (by omega), wrap_n (n := aN A) (by omega), if_pos (by omega), Po_linesUsing_eq h hW (by omega), Option.bind_some, Ws_limitOf_eq h hW hi, Option.bind_some, wrap_n (n := aUB A (-1) i) (by omega), wrap_n (n := aLi A i) (by omega)]
    by_cases c : aUB A (-1) i = aLi A i
    · rw [if_pos (by omega)]
      simp [cntTo, c]
    · rw [if_neg (by omega)]
      simp [cntTo, c]
  · show St_usedUpWords_L4 _ _ (n + 1) _ _ = _
    rw [St_usedUpWords_L4, show Ws_size q = some (aN A : Int) from congrArg some h.1, Option.bind_some, if_neg (Int.lt_irrefl _)]
theorem St_wordsWithBeats_eq (h : zRX q 5 A) (hW : zWF A) : St_wordsWithBeats q = some (cntTo (fun w => decide (0 < cntTo (aFitB A w) (aB A))) (aN A) : Int) := by
  have w1 := hW.1
  have wb := hW.2.2.1
  unfold St_wordsWithBeats
  refine for_all (G := fun n i => St_wordsWithBeats_L4 q (fun v _ => some v) n (cntTo (fun w => decide (0 < cntTo (aFitB A w) (aB A))) i : Int) (i : Int)) (N := aN A) (by omega) (fun n i hi => ?_) (fun n => ?_)
  · show St_wordsWithBeats_L4 _ _ (n + 1) _ _ = St_wordsWithBeats_L4 _ _ n (cntTo _ (i + 1) : Int) ((i + 1 : Nat) : Int)
    have hu := cntTo_le (aFitB A i) (aB A)
    rw [St_wordsWithBeats_L4, show Ws_size q = some (aN A : Int) from congrArg some h.1, Option.bind_some, wrap_n (n := i) (by omega), wrap_n (n := aN A) (by omega), if_pos (by omega), St_beatsFor_eq h hW hi, Option.bind_some, wrap_n (n := cntTo (aFitB A i) (aB A)) (by omega)]
    by_cases c : 0 < cntTo (aFitB A i) (aB A)
    · rw [if_pos (by omega)]
      simp [cntTo, c]
    · rw [if_neg (by omega)]
      simp [cntTo, c]
  · show St_wordsWithBeats_L4 _ _ (n + 1) _ _ = _
    rw [St_wordsWithBeats_L4, show Ws_size q = some (aN A : Int) from congrArg some h.1, Option.bind_some, if_neg (Int.lt_irrefl _)]
/-- the word's part of a count, as the reference asks -/
def cwP (A : zT9) (m : Int) (w : Nat) : Bool := if m = 6 then decide (0 < aUB A (-1) w) else if m = 7 then decide (aUB A (-1) w = aLi A w) else decide (0 < cntTo (aFitB A w) (aB A))
end CT

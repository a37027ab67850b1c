/-! reads of lines: the class -/
/-- the line uses the word -/
def aUs (A : zT9) (l w : Nat) : Bool := decide (fstTo (fun k => decide (aWd A l k = w)) (aSz A l) < aSz A l)
/-- in how many lines, but one, the word is used -/
def aUB (A : zT9) (but : Int) (w : Nat) : Nat := cntTo (fun l => decide ((l : Int) ≠ but) && aUs A l w) (aL A)
theorem aUB_le {A : zT9} (hW : zWF A) (but : Int) (w : Nat) : aUB A but w ≤ 8 := Nat.le_trans (cntTo_le _ _) hW.2.2.2.2.2.1
section XU
variable {q : zM} {A : zT9}
theorem Po_wordIn_eq (h : zRX q 5 A) (hW : zWF A) {l k : Nat} (hl : l < aL A) (hk : k < aSz A l) : Po_wordIn q (l : Int) (k : Int) = some (aWd A l k : Int) := by
  have w1 := hW.2.2.2.2.2.1
  have w2 := (hW.2.2.2.2.2.2.2.2.1 l).1
  unfold Po_wordIn
  rw [wrap_n (by omega), if_neg (by omega), Po_wordsIn_eq h hW hl, Option.bind_some, wrap_n (by omega), if_pos (by omega)]
  have e : ((l : Int) * 12 + (k : Int)) = ((12 * l + k : Nat) : Int) := by omega
  rw [e, wrap_n (by omega), ck_in (by omega), Int.toNat_natCast, h.2.2.2.2.2.2 l k hl hk]
theorem Po_uses_eq (h : zRX q 5 A) (hW : zWF A) {l w : Nat} (hl : l < aL A) (hw : w < 2147483648) : Po_uses q (l : Int) (w : Int) = some (if aUs A l w = true then 1 else 0) := by
  have w1 := hW.2.2.2.2.2.1
  have w2 := (hW.2.2.2.2.2.2.2.2.1 l).1
  unfold Po_uses
  rw [Po_wordsIn_eq h hW hl, Option.bind_some]
  have hs := fstTo_spec (fun k => decide (aWd A l k = w)) (aSz A l)
  have hle := fstTo_le (fun k => decide (aWd A l k = w)) (aSz A l)
  generalize hf : fstTo (fun k => decide (aWd A l k = w)) (aSz A l) = f at hs hle
  have hu : aUs A l w = decide (f < aSz A l) := by unfold aUs; rw [hf]
  have rd : ∀ i, i < aSz A l → q.1 17 (wrap ((l : Int) * 12 + (i : Int))).toNat = (aWd A l i : Int) ∧ wrap ((l : Int) * 12 + (i : Int)) = ((12 * l + i : Nat) : Int) := by
    intro i hi
    have e : ((l : Int) * 12 + (i : Int)) = ((12 * l + i : Nat) : Int) := by omega
    rw [e, wrap_n (by omega), Int.toNat_natCast]
    exact ⟨h.2.2.2.2.2.2 l i hl hi, rfl⟩
  have wdlt : ∀ i, i < aSz A l → aWd A l i < 40 := fun i hi => Nat.lt_of_lt_of_le ((hW.2.2.2.2.2.2.2.2.1 l).2 i hi).1 hW.1
  refine for_hit (G := fun n i => Po_uses_L9 q (l : Int) (w : Int) (aSz A l : Int) (fun _ => some 0) n (i : Int)) (k := f) (by omega) (fun n i hi => ?_) (fun n => ?_)
  · show Po_uses_L9 _ _ _ _ _ (n + 1) _ = _
    rw [Po_uses_L9]
    have hi2 : i < aSz A l := by omega
    obtain ⟨r1, r2⟩ := rd i hi2
    have hne : ¬ aWd A l i = w := of_decide_eq_false (hs.1 i hi)
    have := wdlt i hi2
    rw [wrap_n (n := i) (by omega), wrap_n (n := aSz A l) (by omega), if_pos (by omega), r1, r2, ck_in (by omega), wrap_n (by omega), wrap_n hw, if_neg (by omega)]
    rfl
  · show Po_uses_L9 _ _ _ _ _ (n + 1) _ = _
    rw [Po_uses_L9, wrap_n (n := f) (by omega), wrap_n (n := aSz A l) (by omega), hu]
    by_cases hlt : f < aSz A l
    · obtain ⟨r1, r2⟩ := rd f hlt
      have he : aWd A l f = w := of_decide_eq_true (hs.2 hlt)
      have := wdlt f hlt
      rw [if_pos (by omega), r1, r2, ck_in (by omega), wrap_n (by omega), wrap_n hw, if_pos (by omega), if_pos (by simp [hlt])]
    · rw [if_neg (by omega), if_neg (by simp [hlt])]
theorem Po_linesUsingBesides_eq (h : zRX q 5 A) (hW : zWF A) {but : Int} (hb : -2147483648 ≤ but ∧ but < 2147483648) {w : Nat} (hw : w < 2147483648) : Po_linesUsingBesides q but (w : Int) = some (aUB A but w : Int) := by
  have w1 := hW.2.2.2.2.2.1
  unfold Po_linesUsingBesides
  refine for_all (G := fun n i => Po_linesUsingBesides_L5 q but (w : Int) (fun v _ => some v) n (cntTo (fun l => decide ((l : Int) ≠ but) && aUs A l w) i : Int) (i : Int)) (N := aL A) (by omega) (fun n i hi => ?_) (fun n => ?_)
  · show Po_linesUsingBesides_L5 _ _ _ _ (n + 1) _ _ = Po_linesUsingBesides_L5 _ _ _ _ n (cntTo _ (i + 1) : Int) ((i + 1 : Nat) : Int)
    rw [Po_linesUsingBesides_L5, show q.1 13 0 = aL A from h.2.2.2.1, wrap_n (n := i) (by omega), wrap_n (n := aL A) (by omega), if_pos (by omega), wrap_eq hb]
    by_cases h1 : (i : Int) = but
    · rw [if_pos h1]
      simp [cntTo, h1]
    · rw [if_neg h1, Po_uses_eq h hW hi hw, Option.bind_some]
      cases hu : aUs A i w with
      | true =>
        rw [if_pos rfl, if_neg one_ne]
        simp [cntTo, h1, hu]
      | false =>
        rw [if_neg (c := false = true) (by simp), if_pos zero_eq]
        simp [cntTo, h1, hu]
  · show Po_linesUsingBesides_L5 _ _ _ _ (n + 1) _ _ = _
    rw [Po_linesUsingBesides_L5, show q.1 13 0 = aL A from h.2.2.2.1, if_neg (by omega)]
    rfl
theorem Po_linesUsing_eq (h : zRX q 5 A) (hW : zWF A) {w : Nat} (hw : w < 2147483648) : Po_linesUsing q (w : Int) = some (aUB A (-1) w : Int) := by
  unfold Po_linesUsing
  rw [Po_linesUsingBesides_eq h hW (by decide) hw]
  rfl
theorem Po_madeLines_eq (h : zRX q 5 A) (hW : zWF A) : Po_madeLines q = some (cntTo (fun l => decide (0 < aSz A l)) (aL A) : Int) := by
  have w1 := hW.2.2.2.2.2.1
  unfold Po_madeLines
  refine for_all (G := fun n i => Po_madeLines_L4 q (fun v _ => some v) n (cntTo (fun l => decide (0 < aSz A l)) i : Int) (i : Int)) (N := aL A) (by omega) (fun n i hi => ?_) (fun n => ?_)
  · show Po_madeLines_L4 _ _ (n + 1) _ _ = Po_madeLines_L4 _ _ n (cntTo _ (i + 1) : Int) ((i + 1 : Nat) : Int)
    have w2 := (hW.2.2.2.2.2.2.2.2.1 i).1
    rw [Po_madeLines_L4, show q.1 13 0 = aL A from h.2.2.2.1, wrap_n (n := i) (by omega), wrap_n (n := aL A) (by omega), if_pos (by omega), Po_wordsIn_eq h hW hi, Option.bind_some, wrap_n (by omega)]
    by_cases h1 : 0 < aSz A i
    · rw [if_pos (by omega)]
      simp [cntTo, h1]
    · rw [if_neg (by omega)]
      simp [cntTo, h1]
  · show Po_madeLines_L4 _ _ (n + 1) _ _ = _
    rw [Po_madeLines_L4, show q.1 13 0 = aL A from h.2.2.2.1, if_neg (by omega)]
end XU

/-! find: the class -/
section FD
variable {q : zM} {A : zT9} {hs : List zT9} {sn : Nat → Option zT9} {tx : List Nat}
/-- the text is letters alone, at most eight -/
def tPl (tx : List Nat) : Prop := tx.length ≤ 8 ∧ ∀ i, i < tx.length → isLt (tx.getD i 0) = true
theorem Te_plainLetters_yes (ht : q.1 2 1 = tx.length) (hc : ∀ i, i < tx.length → q.1 3 i = tx.getD i 0) (hk : zOK A hs sn tx) (he : tPl tx) : Te_plainLetters q = some (pkL (fun i => tx.getD i 0) tx.length) := by
  have hl := hk.2.2.2.2.1
  obtain ⟨e1, e2⟩ := he
  have hh := hasLetters_eq ht hc hk (f := 0) (t := tx.length) (by omega) (by omega)
  rw [if_pos ((fstTo_all _ _).mpr (fun i hi => by rw [Nat.zero_add, e2 i (by omega)]; rfl))] at hh
  have hh : Te_hasLetters q (0 : Int) (tx.length : Int) = _ := hh
  unfold Te_plainLetters
  rw [ht, wrap_n (n := tx.length) (by omega), if_neg (by omega), hh, Option.bind_some, if_neg one_ne]
  refine for_all (G := fun n i => Te_plainLetters_L27 q (fun v _ => some v) n (pkL (fun i => tx.getD i 0) i) (i : Int)) (N := tx.length) (by omega) (fun n i hi => ?_) (fun n => ?_)
  · show Te_plainLetters_L27 _ _ (n + 1) _ _ = Te_plainLetters_L27 _ _ n (pkL _ (i + 1)) ((i + 1 : Nat) : Int)
    have rc := Te_codeAt_eq ht hc hl hi
    rw [Te_plainLetters_L27, ht]
    clear ht hc hh
    rw [wrap_n (n := i) (by omega), wrap_n (n := tx.length) (by omega), if_pos (by omega), rc, Option.bind_some]
    rfl
  · show Te_plainLetters_L27 _ _ (n + 1) _ _ = _
    rw [Te_plainLetters_L27, ht, if_neg (Int.lt_irrefl _)]
theorem Te_plainLetters_no (ht : q.1 2 1 = tx.length) (hc : ∀ i, i < tx.length → q.1 3 i = tx.getD i 0) (hk : zOK A hs sn tx) (he : ¬ tPl tx) : Te_plainLetters q = some (Int64.ofNat 0) := by
  have hl := hk.2.2.2.2.1
  unfold Te_plainLetters
  rw [ht, wrap_n (n := tx.length) (by omega)]
  by_cases c : 8 < tx.length
  · rw [if_pos (by omega)]
  · have hh := hasLetters_eq ht hc hk (f := 0) (t := tx.length) (by omega) (by omega)
    have hh : Te_hasLetters q (0 : Int) (tx.length : Int) = _ := hh
    rw [if_neg (by omega), hh, Option.bind_some, if_neg (c := fstTo (fun i => !isLt (tx.getD (0 + i) 0)) (tx.length - 0) = tx.length - 0) (fun g => he ⟨by omega, fun i hi => by
      have := (fstTo_all _ _).mp g i (by omega)
      rw [Nat.zero_add] at this
      simpa using this⟩), if_pos zero_eq]
end FD

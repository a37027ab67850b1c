/-! setEdges -/
def isLt (c : Nat) : Bool := decide (97 ≤ c ∧ c ≤ 122)
/-- the text is two edges -/
def tEdge (tx : List Nat) : Prop := tx.length % 2 = 1 ∧ 1 ≤ tx.length / 2 ∧ tx.length / 2 ≤ 8 ∧ tx.getD (tx.length / 2) 0 = 47 ∧ ∀ i, i < tx.length → i ≠ tx.length / 2 → isLt (tx.getD i 0) = true
theorem wdiv2 : ∀ k : Fin 64, wdiv (k.val : Int) (2 : Int) = ((k.val / 2 : Nat) : Int) ∧ wrem (k.val : Int) (2 : Int) = ((k.val % 2 : Nat) : Int) := by decide
theorem fstTo_all (p : Nat → Bool) (n : Nat) : fstTo p n = n ↔ ∀ i, i < n → p i = false := by
  have hs := fstTo_spec p n
  have hl := fstTo_le p n
  constructor
  · intro h i hi
    exact hs.1 i (by omega)
  · intro h
    rcases Nat.lt_or_ge (fstTo p n) n with q | q
    · have := hs.2 q
      rw [h _ q] at this
      cases this
    · omega
section ED
variable {q : zM} {A : zT9} {hs : List zT9} {sn : Nat → Option zT9} {tx : List Nat}
theorem Ev_isLetter_eq {c : Nat} (hc : c < 65536) : Ev_isLetter q (c : Int) = some (if isLt c = true then 1 else 0) := by
  unfold Ev_isLetter isLt
  rw [wrap_n (by omega)]
  by_cases h1 : c < 97
  · rw [if_pos (by omega), if_neg]
    simp
    omega
  · rw [if_neg (by omega)]
    by_cases h2 : 122 < c
    · rw [if_pos (by omega), if_neg]
      simp
      omega
    · rw [if_neg (by omega), if_pos]
      simp
      omega
theorem tx_rng (hk : zOK A hs sn tx) (i : Nat) : tx.getD i 0 < 65536 := by
  rw [List.getD_eq_getElem?_getD]
  rcases Nat.lt_or_ge i tx.length with h | h
  · rw [List.getElem?_eq_getElem h]
    exact hk.2.2.2.2.2 _ (List.getElem_mem h)
  · rw [List.getElem?_eq_none h]
    exact Nat.zero_lt_succ _
theorem Te_codeAt_eq (ht : q.1 2 1 = tx.length) (hc : ∀ i, i < tx.length → q.1 3 i = tx.getD i 0) (hl : tx.length ≤ 40) {i : Nat} (hi : i < tx.length) : Te_codeAt q (i : Int) = some (tx.getD i 0 : Int) := by
  unfold Te_codeAt
  rw [ht, wrap_n (n := i) (by omega), wrap_n (n := tx.length) (by omega), if_neg (by omega), if_pos (by omega), ck_in (by omega), Int.toNat_natCast, hc i hi]
theorem hasLetters_eq (ht : q.1 2 1 = tx.length) (hc : ∀ i, i < tx.length → q.1 3 i = tx.getD i 0) (hk : zOK A hs sn tx) {f t : Nat} (hf : f ≤ t) (hn : t ≤ tx.length) : Te_hasLetters q (f : Int) (t : Int) = some (if fstTo (fun i => !isLt (tx.getD (f + i) 0)) (t - f) = t - f then 1 else 0) := by
  have hl := hk.2.2.2.2.1
  unfold Te_hasLetters
  have hs := fstTo_spec (fun i => !isLt (tx.getD (f + i) 0)) (t - f)
  have hle := fstTo_le (fun i => !isLt (tx.getD (f + i) 0)) (t - f)
  generalize fstTo (fun i => !isLt (tx.getD (f + i) 0)) (t - f) = x at hs hle
  refine for_hit (G := fun n i => Te_hasLetters_L2 q (f : Int) (t : Int) (fun _ => some 1) n ((f + i : Nat) : Int)) (k := x) (by omega) (fun n i hi => ?_) (fun n => ?_)
  · show Te_hasLetters_L2 _ _ _ _ (n + 1) _ = _
    have hb := hs.1 i hi
    have hb : isLt (tx.getD (f + i) 0) = true := by simpa using hb
    rw [Te_hasLetters_L2, wrap_n (n := f + i) (by omega), wrap_n (n := t) (by omega), if_pos (by omega), Te_codeAt_eq ht hc hl (by omega), Option.bind_some, Ev_isLetter_eq (tx_rng hk _), Option.bind_some, hb, if_pos rfl, if_neg one_ne]
    rfl
  · show Te_hasLetters_L2 _ _ _ _ (n + 1) _ = _
    rw [Te_hasLetters_L2, wrap_n (n := f + x) (by omega), wrap_n (n := t) (by omega)]
    by_cases hx : x = t - f
    · rw [if_neg (by omega), if_pos hx]
    · have hb := hs.2 (by omega)
      have hb : isLt (tx.getD (f + x) 0) = false := by simpa using hb
      rw [if_pos (by omega), Te_codeAt_eq ht hc hl (by omega), Option.bind_some, Ev_isLetter_eq (tx_rng hk _), Option.bind_some, hb, if_neg (c := false = true) (by simp), if_pos zero_eq, if_neg hx]
theorem edgeLength_yes (ht : q.1 2 1 = tx.length) (hc : ∀ i, i < tx.length → q.1 3 i = tx.getD i 0) (hk : zOK A hs sn tx) (he : tEdge tx) : Te_edgeLength q = some ((tx.length / 2 : Nat) : Int) := by
  have hl := hk.2.2.2.2.1
  obtain ⟨e1, e2, e3, e4, e5⟩ := he
  obtain ⟨d1, d2⟩ := wdiv2 ⟨tx.length, by omega⟩
  dsimp only at d1 d2
  unfold Te_edgeLength
  rw [ht, d1, d2, wrap_n (n := tx.length % 2) (by omega), wrap_n (n := tx.length / 2) (by omega), if_pos (by omega), if_neg (by omega), if_neg (by omega)]
  have hh := hasLetters_eq ht hc hk (f := 0) (t := tx.length / 2) (by omega) (by omega)
  rw [if_pos ((fstTo_all _ _).mpr (fun i hi => by rw [Nat.zero_add, e5 i (by omega) (by omega)]; rfl))] at hh
  have hh2 := hasLetters_eq ht hc hk (f := tx.length / 2 + 1) (t := tx.length) (by omega) (by omega)
  rw [if_pos ((fstTo_all _ _).mpr (fun i hi => by rw [e5 (tx.length / 2 + 1 + i) (by omega) (by omega)]; rfl))] at hh2
  have hh : Te_hasLetters q (0 : Int) ((tx.length / 2 : Nat) : Int) = _ := hh
  rw [hh, Option.bind_some, if_neg one_ne, Te_codeAt_eq ht hc hl (by omega), Option.bind_some, e4, if_pos (by decide), show ((tx.length / 2 : Nat) : Int) + 1 = ((tx.length / 2 + 1 : Nat) : Int) by omega, hh2, Option.bind_some, if_neg one_ne, if_neg (by decide)]
theorem edgeLength_no (ht : q.1 2 1 = tx.length) (hc : ∀ i, i < tx.length → q.1 3 i = tx.getD i 0) (hk : zOK A hs sn tx) (he : ¬ tEdge tx) : Te_edgeLength q = some (-1) := by
  have hl := hk.2.2.2.2.1
  obtain ⟨d1, d2⟩ := wdiv2 ⟨tx.length, by omega⟩
  dsimp only at d1 d2
  unfold Te_edgeLength
  rw [ht, d1, d2, wrap_n (n := tx.length % 2) (by omega), wrap_n (n := tx.length / 2) (by omega)]
  by_cases c1 : tx.length % 2 = 1
  · rw [if_pos (by omega)]
    by_cases c2 : tx.length / 2 < 1
    · rw [if_pos (by omega), if_pos rfl]
    · rw [if_neg (by omega)]
      by_cases c3 : 8 < tx.length / 2
      · rw [if_pos (by omega), if_pos rfl]
      · have hh := hasLetters_eq ht hc hk (f := 0) (t := tx.length / 2) (by omega) (by omega)
        have hh2 := hasLetters_eq ht hc hk (f := tx.length / 2 + 1) (t := tx.length) (by omega) (by omega)
        have hh : Te_hasLetters q (0 : Int) ((tx.length / 2 : Nat) : Int) = _ := hh
        rw [if_neg (by omega), hh, Option.bind_some]
        by_cases c4 : fstTo (fun i => !isLt (tx.getD (0 + i) 0)) (tx.length / 2 - 0) = tx.length / 2 - 0
        · rw [if_pos c4, if_neg one_ne, Te_codeAt_eq ht hc hl (by omega), Option.bind_some, wrap_n (by have := tx_rng hk (tx.length / 2); omega)]
          by_cases c5 : tx.getD (tx.length / 2) 0 = 47
          · rw [if_pos (by omega), show ((tx.length / 2 : Nat) : Int) + 1 = ((tx.length / 2 + 1 : Nat) : Int) by omega, hh2, Option.bind_some]
            by_cases c6 : fstTo (fun i => !isLt (tx.getD (tx.length / 2 + 1 + i) 0)) (tx.length - (tx.length / 2 + 1)) = tx.length - (tx.length / 2 + 1)
            · exfalso
              refine he ⟨c1, by omega, by omega, c5, fun i hi hne => ?_⟩
              rcases Nat.lt_or_ge i (tx.length / 2) with g | g
              · have := (fstTo_all _ _).mp c4 i (by omega)
                simpa using this
              · have := (fstTo_all _ _).mp c6 (i - (tx.length / 2 + 1)) (by omega)
                rw [show tx.length / 2 + 1 + (i - (tx.length / 2 + 1)) = i by omega] at this
                simpa using this
            · rw [if_neg c6, if_pos zero_eq, if_pos rfl]
          · rw [if_neg (by omega), if_pos rfl]
        · rw [if_neg c4, if_pos zero_eq, if_pos rfl]
  · rw [if_neg (by omega), if_pos rfl]
end ED

section FD2
variable {q : zM} {A : zT9} {hs : List zT9} {sn : Nat → Option zT9} {tx : List Nat}
theorem Ev_find_yes (h : zGX q A hs sn tx) (hk : zOK A hs sn tx) (he : tPl tx) : Ev_find q = some (if 1 ≤ tx.length ∧ fstTo (isW A tx.length (fun i => tx.getD i 0)) (aN A) < aN A then (fstTo (isW A tx.length (fun i => tx.getD i 0)) (aN A) : Int) else -5) := by
  have hW := hk.1
  have w1 := hW.1
  have hx := h.1
  unfold Ev_find
  have hp := Te_plainLetters_yes h.2.1 h.2.2.1 hk he
  have hg : ∀ i, i < tx.length → 1 ≤ (fun i => tx.getD i 0) i ∧ (fun i => tx.getD i 0) i < 256 := fun i hi => by
    have := he.2 i hi
    unfold isLt at this
    have := of_decide_eq_true this
    exact ⟨Nat.le_trans (by decide) this.1, Nat.lt_of_le_of_lt this.2 (by decide)⟩
  rw [hp, Option.bind_some, Ws_indexOf_eq hx hW he.1 hg]
  have hle := fstTo_le (isW A tx.length (fun i => tx.getD i 0)) (aN A)
  generalize fstTo (isW A tx.length (fun i => tx.getD i 0)) (aN A) = x at hle
  have hz : wrap (wlcmp (pkL (fun i => tx.getD i 0) tx.length) (Int64.ofNat 0)) = 0 ↔ tx.length = 0 := by
    rw [wlcmp_eq, show Int64.ofNat 0 = pkL (fun i => tx.getD i 0) 0 from rfl, pkL_inj he.1 (by omega) hg (fun i hi => absurd hi (Nat.not_lt_zero _))]
    exact ⟨fun g => g.1, fun g => ⟨g, fun i hi => absurd hi (by omega)⟩⟩
  by_cases c0 : tx.length = 0
  · rw [if_pos (hz.mpr c0), if_pos rfl, if_neg (fun g => by omega)]
  · rw [if_neg (fun g => c0 (hz.mp g)), Option.bind_some]
    by_cases c : x < aN A
    · rw [if_pos c, wrap_n (by omega), if_neg (by omega), if_pos ⟨by omega, c⟩]
    · rw [if_neg c, if_pos (by decide), if_neg (fun g => c g.2)]
theorem Ev_find_no (h : zGX q A hs sn tx) (hk : zOK A hs sn tx) (he : ¬ tPl tx) : Ev_find q = some (-5) := by
  unfold Ev_find
  rw [Te_plainLetters_no h.2.1 h.2.2.1 hk he, Option.bind_some, if_pos ((wlcmp_eq _ _).mpr rfl), if_pos rfl]
end FD2

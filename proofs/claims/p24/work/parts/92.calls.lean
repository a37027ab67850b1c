theorem snUp_ok {A : zT9} {hs : List zT9} {sn : Nat → Option zT9} {tx : List Nat} (hk : zOK A hs sn tx) (s : Nat) : zOK A hs (snUp sn s A) tx := by
  obtain ⟨k1, k2, k3, k4, k5, k6⟩ := hk
  refine ⟨k1, k2, k3, fun i A' hA => ?_, k5, k6⟩
  unfold snUp at hA
  by_cases e : i = s
  · rw [if_pos e] at hA
    cases hA
    exact k1
  · rw [if_neg e] at hA
    exact k4 i A' hA

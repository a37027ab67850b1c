/-! setEdges, both sides -/
section ED3
variable {q : zM} {A : zT9} {hs : List zT9} {sn : Nat → Option zT9} {tx : List Nat}
theorem Ev_setEdges_bad (h : zGX q A hs sn tx) (hk : zOK A hs sn tx) (he : ¬ tEdge tx) : Ev_setEdges q = some (-4, q) := by
  unfold Ev_setEdges
  rw [edgeLength_no h.2.1 h.2.2.1 hk he, Option.bind_some, if_pos (by decide)]
theorem Ev_setEdges_ok (h : zGX q A hs sn tx) (hk : zOK A hs sn tx) (he : tEdge tx) : ∃ q', Ev_setEdges q = some (((tx.length / 2 : Nat) : Int), q') ∧ zGX q' (aEdg A (tx.length / 2) tx) (pushH hs A) sn tx ∧ zFX q q' := by
  have hl := hk.2.2.2.2.1
  unfold Ev_setEdges
  rw [edgeLength_yes h.2.1 h.2.2.1 hk he, Option.bind_some, wrap_n (by omega), if_neg (by omega)]
  obtain ⟨q1, r1, r2, r3⟩ := record_eq h hk
  rw [r1, Option.bind_some, Po_changeEdges_eq r2.2.1 r2.2.2.1 hl he, Option.bind_some]
  have e2 := he.2.1
  have e3 := he.2.2.1
  have hat : ∀ a k, (qz (qe (qs q1 13 0 ((tx.length / 2 : Nat) : Int)) (tx.length / 2) tx (tx.length / 2)) 16 0 (tx.length / 2)).1 a k = if a = 16 ∧ 0 ≤ k ∧ k < 0 + tx.length / 2 then 0 else if a = 14 ∧ k < tx.length / 2 then (tx.getD k 0 : Int) else if a = 15 ∧ k < tx.length / 2 then (tx.getD (tx.length / 2 + 1 + k) 0 : Int) else if a = 13 ∧ k = 0 then ((tx.length / 2 : Nat) : Int) else q1.1 a k := fun a k => rfl
  have hat2 : ∀ a k, (qz (qe (qs q1 13 0 ((tx.length / 2 : Nat) : Int)) (tx.length / 2) tx (tx.length / 2)) 16 0 (tx.length / 2)).2 a k = q1.2 a k := fun a k => rfl
  generalize hq2 : qz (qe (qs q1 13 0 ((tx.length / 2 : Nat) : Int)) (tx.length / 2) tx (tx.length / 2)) 16 0 (tx.length / 2) = q2 at hat hat2
  have far : ∀ a, (a < 13 ∨ 16 < a) → q2.1 a = q1.1 a := fun a ha => funext fun k => by rw [hat, if_neg (by omega), if_neg (by omega), if_neg (by omega), if_neg (by omega)]
  obtain ⟨x1, x2, x3, x4, x5, x6, x7⟩ := r2.1
  refine ⟨_, rfl, zGX_mut r2 (fun a ha _ => ⟨far a (by omega), funext fun k => hat2 a k⟩) ?_, fun a ha => by rw [← (r3 a (by omega)).1, far a (by omega)]⟩
  refine ⟨?_, ?_, ?_, ?_, fun w hw => ?_, fun i hi => ?_, fun i k hi hk => absurd hk (Nat.not_lt_zero _)⟩
  · rw [far _ (by omega)]; exact x1
  · rw [far _ (by omega)]; exact x2
  · rw [far _ (by omega)]; exact x3
  · show q2.1 13 0 = _
    rw [hat, if_neg (by omega), if_neg (by omega), if_neg (by omega), if_pos (by omega)]
    rfl
  · rw [far _ (by omega), far _ (by omega), far _ (by omega), far _ (by omega), hat2]
    exact x5 w hw
  · have hi : i < tx.length / 2 := hi
    refine ⟨?_, ?_, ?_⟩
    · show q2.1 14 i = _
      rw [hat, if_neg (by omega), if_pos (by omega)]
      rfl
    · show q2.1 15 i = _
      rw [hat, if_neg (by omega), if_neg (by omega), if_pos (by omega)]
      rfl
    · show q2.1 16 i = _
      rw [hat, if_pos (by omega)]
      rfl
end ED3

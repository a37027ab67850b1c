/-! count: class and reference answer alike -/
section CT2
variable {q : zM} {A : zT9} {hs : List zT9} {sn : Nat → Option zT9} {tx : List Nat}
theorem count_same (hX : zGX q A hs sn tx) (hM : zGM q A hs sn tx) (hk : zOK A hs sn tx) (v : Int) : rSame (Ev_count q v) (Mo_count q v) := by
  have hW := hk.1
  have hx := hX.1
  have hm := hM.1
  have e10 : q.1 18 2 = hs.length := by
    obtain ⟨o, -, -, e, -⟩ := hX.2.2.2.1
    exact e
  unfold Ev_count Mo_count
  by_cases c0 : wrap v = 0
  · rw [if_pos c0, if_pos c0]
    exact ⟨_, congrArg some hx.1, congrArg some hm.1⟩
  rw [if_neg c0, if_neg c0]
  by_cases c1 : wrap v = 1
  · rw [if_pos c1, if_pos c1]
    exact ⟨_, congrArg some hx.2.2.2.1, congrArg some hm.2.2.2.1⟩
  rw [if_neg c1, if_neg c1]
  by_cases c2 : wrap v = 2
  · rw [if_pos c2, if_pos c2, Po_madeLines_eq hx hW, countLines2 hm hW c2]
    exact ⟨_, rfl, rfl⟩
  rw [if_neg c2, if_neg c2]
  by_cases c3 : wrap v = 3
  · rw [if_pos c3, if_pos c3, St_bendsInAll_eq hx hW, countLines3 hm hW c3]
    exact ⟨_, rfl, rfl⟩
  rw [if_neg c3, if_neg c3]
  by_cases c4 : wrap v = 4
  · rw [if_pos c4, if_pos c4]
    exact ⟨_, congrArg some hx.2.1, congrArg some hm.2.1⟩
  rw [if_neg c4, if_neg c4]
  by_cases c5 : wrap v = 5
  · rw [if_pos c5, if_pos c5]
    exact ⟨_, congrArg some hx.2.2.1, congrArg some hm.2.2.1⟩
  rw [if_neg c5, if_neg c5]
  by_cases c6 : wrap v = 6
  · rw [if_pos c6, if_pos c6, St_usedWords_eq hx hW, countWords_eq hm hW, c6]
    exact ⟨_, rfl, rfl⟩
  rw [if_neg c6, if_neg c6]
  by_cases c7 : wrap v = 7
  · rw [if_pos c7, if_pos c7, St_usedUpWords_eq hx hW, countWords_eq hm hW, c7]
    exact ⟨_, rfl, rfl⟩
  rw [if_neg c7, if_neg c7]
  by_cases c8 : wrap v = 8
  · rw [if_pos c8, if_pos c8, St_wordsWithBeats_eq hx hW, countWords_eq hm hW, c8]
    exact ⟨_, rfl, rfl⟩
  rw [if_neg c8, if_neg c8]
  by_cases c9 : wrap v = 9
  · rw [if_pos c9, if_pos c9, St_poemLength_eq hx hW, countLines9 hm hW c9]
    exact ⟨_, rfl, rfl⟩
  rw [if_neg c9, if_neg c9]
  by_cases c10 : wrap v = 10
  · rw [if_pos c10, if_pos c10]
    exact ⟨_, congrArg some e10, congrArg some hM.2.2.2.1⟩
  rw [if_neg c10, if_neg c10]
  by_cases c11 : wrap v = 11
  · rw [if_pos c11, if_pos c11]
    exact ⟨_, congrArg some hX.2.1, congrArg some hM.2.1⟩
  rw [if_neg c11, if_neg c11]
  exact ⟨_, rfl, rfl⟩
end CT2

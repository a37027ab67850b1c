/-! each call of the law: class and reference answer alike, and what is held goes on -/
/-- both sides hold one state -/
def zIN (q : zM) : Prop := ∃ (A : zT9) (hs : List zT9) (sn : Nat → Option zT9) (tx : List Nat), zGX q A hs sn tx ∧ zGM q A hs sn tx ∧ zOK A hs sn tx
section CL
variable {q : zM}
/-- the class's answer first, then the reference's, of a state that the class has left -/
theorem cl_of {A B B' : zT9} {hs H H' : List zT9} {sn N N' : Nat → Option zT9} {tx T T' : List Nat} {q1 q2 : zM} (hM : zGM q A hs sn tx) (x1 : zGX q1 B H N T) (f1 : zFX q q1) (x2 : zGM q1 A hs sn tx → zGM q2 B H N T ∧ zFM q1 q2) (hk : zOK B H N T) : zIN q2 := by
  obtain ⟨m1, m2⟩ := x2 (zGM_fr f1 hM)
  exact ⟨B, H, N, T, zGX_fr m2 x1, m1, hk⟩
theorem cl_type (h : zIN q) (v : Int) : ∃ (r : Int) (q1 q2 : zM), Ev_type q (v % 65536) = some (r, q1) ∧ Mo_type q1 (v % 65536) = some (r, q2) ∧ zIN q2 := by
  obtain ⟨A, hs, sn, tx, hX, hM, hk⟩ := h
  obtain ⟨c, hc, c2⟩ : ∃ c : Nat, v % 65536 = (c : Int) ∧ c < 65536 := ⟨(v % 65536).toNat, by omega, by omega⟩
  rw [hc]
  clear hc
  obtain ⟨q1, a1, a2, a3⟩ := Ev_type_eq hX hk c2
  obtain ⟨q2, b1, b2, b3⟩ := Mo_type_eq (zGM_fr a3 hM) hk c2
  refine ⟨_, q1, q2, a1, b1, A, hs, sn, _, zGX_fr b3 a2, b2, ?_⟩
  obtain ⟨k1, k2, k3, k4, k5, k6⟩ := hk
  refine ⟨k1, k2, k3, k4, ?_, ?_⟩
  · by_cases c : tx.length < 40
    · rw [if_pos c, List.length_append, List.length_singleton]; omega
    · rw [if_neg c]; exact k5
  · intro x hx
    by_cases c : tx.length < 40
    · rw [if_pos c] at hx
      rcases List.mem_append.mp hx with g | g
      · exact k6 x g
      · rw [List.mem_singleton.mp g]; exact c2
    · rw [if_neg c] at hx
      exact k6 x hx
theorem cl_clearText (h : zIN q) : ∃ (r : Int) (q1 q2 : zM), Ev_clearText q = some (r, q1) ∧ Mo_clearText q1 = some (r, q2) ∧ zIN q2 := by
  obtain ⟨A, hs, sn, tx, hX, hM, hk⟩ := h
  obtain ⟨q1, a1, a2, a3⟩ := Ev_clearText_eq hX
  obtain ⟨q2, b1, b2, b3⟩ := Mo_clearText_eq (zGM_fr a3 hM)
  obtain ⟨k1, k2, k3, k4, k5, k6⟩ := hk
  exact ⟨_, q1, q2, a1, b1, A, hs, sn, [], zGX_fr b3 a2, b2, k1, k2, k3, k4, Nat.zero_le _, fun x hx => by cases hx⟩
theorem cl_addWord (h : zIN q) : ∃ (r : Int) (q1 q2 : zM), Ev_addWord q = some (r, q1) ∧ Mo_addWord q1 = some (r, q2) ∧ zIN q2 := by
  obtain ⟨A, hs, sn, tx, hX, hM, hk⟩ := h
  obtain ⟨q1, a1, a2, a3⟩ := Ev_addWord_eq hX hk
  obtain ⟨q2, b1, b2, b3⟩ := Mo_addWord_eq (zGM_fr a3 hM) hk
  exact ⟨_, q1, q2, a1, b1, _, _, sn, tx, zGX_fr b3 a2, b2, (awR_ok hk).1⟩
theorem cl_removeWord (h : zIN q) {v : Int} (hv : -2147483648 ≤ v ∧ v < 2147483648) : ∃ (r : Int) (q1 q2 : zM), Ev_removeWord q v = some (r, q1) ∧ Mo_removeWord q1 v = some (r, q2) ∧ zIN q2 := by
  obtain ⟨A, hs, sn, tx, hX, hM, hk⟩ := h
  by_cases c : 0 ≤ v ∧ v < aN A
  · obtain ⟨w, rfl⟩ : ∃ w : Nat, v = (w : Int) := ⟨v.toNat, by omega⟩
    have hw : w < aN A := by omega
    obtain ⟨q1, a1, a2, a3⟩ := Ev_removeWord_ok hX hk hw
    obtain ⟨q2, b1, b2, b3⟩ := Mo_removeWord_ok (zGM_fr a3 hM) hk hw
    exact ⟨_, q1, q2, a1, b1, _, _, sn, tx, zGX_fr b3 a2, b2, zOK_push hk (aRem_wf hk.1 hw)⟩
  · obtain ⟨a1, b1⟩ := removeWord_out hX.1 hM.1 hk.1 hv c
    exact ⟨_, q, q, a1, b1, A, hs, sn, tx, hX, hM, hk⟩
theorem cl_setLimit (h : zIN q) {v1 v2 : Int} (h1 : -2147483648 ≤ v1 ∧ v1 < 2147483648) (h2 : -2147483648 ≤ v2 ∧ v2 < 2147483648) : ∃ (r : Int) (q1 q2 : zM), Ev_setLimit q v1 v2 = some (r, q1) ∧ Mo_setLimit q1 v1 v2 = some (r, q2) ∧ zIN q2 := by
  obtain ⟨A, hs, sn, tx, hX, hM, hk⟩ := h
  by_cases c : 0 ≤ v1 ∧ v1 < aN A ∧ 1 ≤ v2 ∧ v2 ≤ 9 ∧ (aUB A (-1) v1.toNat : Int) ≤ v2 ∧ (aLi A v1.toNat : Int) ≠ v2
  · obtain ⟨w, rfl⟩ : ∃ w : Nat, v1 = (w : Int) := ⟨v1.toNat, by omega⟩
    obtain ⟨v, rfl⟩ : ∃ v : Nat, v2 = (v : Int) := ⟨v2.toNat, by omega⟩
    rw [Int.toNat_natCast] at c
    have hw : w < aN A := by omega
    have hv : 1 ≤ v ∧ v ≤ 9 := by omega
    have hu : aUB A (-1) w ≤ v := by omega
    have hn : aLi A w ≠ v := by omega
    obtain ⟨q1, a1, a2, a3⟩ := Ev_setLimit_ok hX hk hw hv hu hn
    obtain ⟨q2, b1, b2, b3⟩ := Mo_setLimit_ok (zGM_fr a3 hM) hk hw hv hu hn
    exact ⟨_, q1, q2, a1, b1, _, _, sn, tx, zGX_fr b3 a2, b2, zOK_push hk (aLim_wf hk.1 hv)⟩
  · obtain ⟨r, a1, b1⟩ := setLimit_bad hX.1 hM.1 hk.1 h1 h2 c
    exact ⟨r, q, q, a1, b1, A, hs, sn, tx, hX, hM, hk⟩
theorem cl_setMetre (h : zIN q) {v1 v2 : Int} (h1 : -2147483648 ≤ v1 ∧ v1 < 2147483648) (h2 : -2147483648 ≤ v2 ∧ v2 < 2147483648) : ∃ (r : Int) (q1 q2 : zM), Ev_setMetre q v1 v2 = some (r, q1) ∧ Mo_setMetre q1 v1 v2 = some (r, q2) ∧ zIN q2 := by
  obtain ⟨A, hs, sn, tx, hX, hM, hk⟩ := h
  by_cases c : 2 ≤ v1 ∧ v1 ≤ 12 ∧ 0 ≤ v2 ∧ v2 < 2 ^ v1.toNat
  · obtain ⟨b, rfl⟩ : ∃ w : Nat, v1 = (w : Int) := ⟨v1.toNat, by omega⟩
    obtain ⟨s, rfl⟩ : ∃ v : Nat, v2 = (v : Int) := ⟨v2.toNat, by omega⟩
    rw [Int.toNat_natCast] at c
    have e : ((2 ^ b : Nat) : Int) = (2 : Int) ^ b := by simp
    have hb : 2 ≤ b ∧ b ≤ 12 := by omega
    have hs2 : s < 2 ^ b := by omega
    obtain ⟨q1, a1, a2, a3⟩ := Ev_setMetre_ok hX hk hb hs2
    obtain ⟨q2, b1, b2, b3⟩ := Mo_setMetre_ok (zGM_fr a3 hM) hk hb hs2
    exact ⟨_, q1, q2, a1, b1, _, _, sn, tx, zGX_fr b3 a2, b2, zOK_push hk (aMet_wf hk.1 hb hs2)⟩
  · exact ⟨-2, q, q, Ev_setMetre_bad h1 h2 c, Mo_setMetre_bad h1 h2 c, A, hs, sn, tx, hX, hM, hk⟩
theorem cl_setEdges (h : zIN q) : ∃ (r : Int) (q1 q2 : zM), Ev_setEdges q = some (r, q1) ∧ Mo_setEdges q1 = some (r, q2) ∧ zIN q2 := by
  obtain ⟨A, hs, sn, tx, hX, hM, hk⟩ := h
  by_cases c : tEdge tx
  · obtain ⟨q1, a1, a2, a3⟩ := Ev_setEdges_ok hX hk c
    obtain ⟨q2, b1, b2, b3⟩ := Mo_setEdges_ok (zGM_fr a3 hM) hk c
    exact ⟨_, q1, q2, a1, b1, _, _, sn, tx, zGX_fr b3 a2, b2, zOK_push hk (aEdg_wf hk.1 c)⟩
  · exact ⟨-4, q, q, Ev_setEdges_bad hX hk c, Mo_setEdges_bad hM hk c, A, hs, sn, tx, hX, hM, hk⟩
theorem cl_makeLine (h : zIN q) {v : Int} (hv : -2147483648 ≤ v ∧ v < 2147483648) : ∃ (r : Int) (q1 q2 : zM), Ev_makeLine q v = some (r, q1) ∧ Mo_makeLine q1 v = some (r, q2) ∧ zIN q2 := by
  obtain ⟨A, hs, sn, tx, hX, hM, hk⟩ := h
  by_cases c : 0 ≤ v ∧ v < aL A
  · obtain ⟨l, rfl⟩ : ∃ w : Nat, v = (w : Int) := ⟨v.toNat, by omega⟩
    have hl : l < aL A := by omega
    obtain ⟨r, q1, B, H, a1, a2, a3, a4⟩ := Ev_makeLine_in hX hk hl
    obtain ⟨r', q2, B', H', b1, b2, b3, b4⟩ := Mo_makeLine_in (zGM_fr a3 hM) hk hl
    obtain ⟨e1, e2, e3⟩ := mlR_det hk.1 a4 b4
    subst e1
    subst e2
    subst e3
    exact ⟨r, q1, q2, a1, b1, B, H, sn, tx, zGX_fr b3 a2, b2, (mlR_ok hk hl a4).1⟩
  · obtain ⟨a1, b1⟩ := makeLine_out hX.1 hM.1 hk.1 hv c
    exact ⟨_, q, q, a1, b1, A, hs, sn, tx, hX, hM, hk⟩
theorem cl_make (h : zIN q) : ∃ (r : Int) (q1 q2 : zM), Ev_make q = some (r, q1) ∧ Mo_make q1 = some (r, q2) ∧ zIN q2 := by
  obtain ⟨A, hs, sn, tx, hX, hM, hk⟩ := h
  obtain ⟨r, q1, -, B, H, a1, a2, a3, -⟩ := make_both hX hM hk
  obtain ⟨r', q1', q2, B', H', b1, b2, b3, b4, b5, b6, b7⟩ := make_both hX (zGM_fr a3 hM) hk
  rw [a1] at b1
  obtain ⟨e1, e2⟩ := Prod.mk.inj (Option.some.inj b1)
  subst e1
  subst e2
  exact ⟨r, q1, q2, a1, b4, B', H', sn, tx, zGX_fr b6 b2, b5, b7⟩
theorem cl_clearLine (h : zIN q) {v : Int} (hv : -2147483648 ≤ v ∧ v < 2147483648) : ∃ (r : Int) (q1 q2 : zM), Ev_clearLine q v = some (r, q1) ∧ Mo_clearLine q1 v = some (r, q2) ∧ zIN q2 := by
  obtain ⟨A, hs, sn, tx, hX, hM, hk⟩ := h
  by_cases c : 0 ≤ v ∧ v < aL A
  · obtain ⟨l, rfl⟩ : ∃ w : Nat, v = (w : Int) := ⟨v.toNat, by omega⟩
    have hl : l < aL A := by omega
    by_cases c0 : aSz A l = 0
    · obtain ⟨a1, b1⟩ := clearLine_none hX.1 hM.1 hk.1 hl c0
      exact ⟨_, q, q, a1, b1, A, hs, sn, tx, hX, hM, hk⟩
    · obtain ⟨q1, a1, a2, a3⟩ := Ev_clearLine_ok hX hk hl c0
      obtain ⟨q2, b1, b2, b3⟩ := Mo_clearLine_ok (zGM_fr a3 hM) hk hl c0
      exact ⟨_, q1, q2, a1, b1, _, _, sn, tx, zGX_fr b3 a2, b2, zOK_push hk (aEmpL_wf hk.1 l)⟩
  · obtain ⟨a1, b1⟩ := clearLine_out hX.1 hM.1 hk.1 hv c
    exact ⟨_, q, q, a1, b1, A, hs, sn, tx, hX, hM, hk⟩
theorem cl_undo (h : zIN q) : ∃ (r : Int) (q1 q2 : zM), Ev_undo q = some (r, q1) ∧ Mo_undo q1 = some (r, q2) ∧ zIN q2 := by
  obtain ⟨A, hs, sn, tx, hX, hM, hk⟩ := h
  by_cases c : hs = []
  · exact ⟨-5, q, q, Ev_undo_none hX c, Mo_undo_none hM c, A, hs, sn, tx, hX, hM, hk⟩
  · obtain ⟨q1, a1, a2, a3⟩ := Ev_undo_some hX hk c
    obtain ⟨q2, b1, b2, b3⟩ := Mo_undo_some (zGM_fr a3 hM) hk c
    refine ⟨_, q1, q2, a1, b1, _, _, sn, tx, zGX_fr b3 a2, b2, ?_⟩
    obtain ⟨k1, k2, k3, k4, k5, k6⟩ := hk
    have hp : 0 < hs.length := List.length_pos_iff.mpr c
    exact ⟨k3 _ (getD_mem (by omega)), by rw [List.length_dropLast]; omega, fun A' hA => k3 A' ((List.dropLast_sublist hs).mem hA), k4, k5, k6⟩
theorem snUp_ok {A : zT9} {hs : List zT9} {sn : Nat → Option zT9} {tx : List Nat} (hk : zOK A hs sn tx) (s : Nat) : zOK A hs (snUp sn s A) tx := by
  obtain ⟨k1, k2, k3, k4, k5, k6⟩ := hk
  refine ⟨k1, k2, k3, fun i A' hA => ?_, k5, k6⟩
  unfold snUp at hA
  by_cases e : i = s
  · rw [if_pos e] at hA
    cases hA
    exact k1
  · rw [if_neg e] at hA
    exact k4 i A' hA
theorem cl_keep (h : zIN q) {v : Int} (hv : -2147483648 ≤ v ∧ v < 2147483648) : ∃ (r : Int) (q1 q2 : zM), Ev_keep q v = some (r, q1) ∧ Mo_keep q1 v = some (r, q2) ∧ zIN q2 := by
  obtain ⟨A, hs, sn, tx, hX, hM, hk⟩ := h
  by_cases c : 0 ≤ v ∧ v ≤ 1
  · obtain ⟨s, rfl⟩ : ∃ w : Nat, v = (w : Int) := ⟨v.toNat, by omega⟩
    have hs2 : s < 2 := by omega
    obtain ⟨q1, a1, a2, a3⟩ := Ev_keep_in hX hk hs2
    obtain ⟨q2, b1, b2, b3⟩ := Mo_keep_in (zGM_fr a3 hM) hk hs2
    exact ⟨_, q1, q2, a1, b1, _, _, _, tx, zGX_fr b3 a2, b2, snUp_ok hk s⟩
  · exact ⟨-1, q, q, Ev_keep_out hv c, Mo_keep_out hv c, A, hs, sn, tx, hX, hM, hk⟩
theorem cl_restore (h : zIN q) {v : Int} (hv : -2147483648 ≤ v ∧ v < 2147483648) : ∃ (r : Int) (q1 q2 : zM), Ev_restore q v = some (r, q1) ∧ Mo_restore q1 v = some (r, q2) ∧ zIN q2 := by
  obtain ⟨A, hs, sn, tx, hX, hM, hk⟩ := h
  by_cases c : 0 ≤ v ∧ v ≤ 1
  · obtain ⟨s, rfl⟩ : ∃ w : Nat, v = (w : Int) := ⟨v.toNat, by omega⟩
    have hs2 : s < 2 := by omega
    cases hn : sn s with
    | none => exact ⟨-5, q, q, Ev_restore_none hX hs2 hn, Mo_restore_none hM hs2 hn, A, hs, sn, tx, hX, hM, hk⟩
    | some B =>
      obtain ⟨q1, a1, a2, a3⟩ := Ev_restore_some hX hk hs2 hn
      obtain ⟨q2, b1, b2, b3⟩ := Mo_restore_some (zGM_fr a3 hM) hk hs2 hn
      exact ⟨_, q1, q2, a1, b1, B, _, sn, tx, zGX_fr b3 a2, b2, zOK_push hk (hk.2.2.2.1 s B hn)⟩
  · exact ⟨-1, q, q, Ev_restore_out hv c, Mo_restore_out hv c, A, hs, sn, tx, hX, hM, hk⟩
theorem cl_line (h : zIN q) {v1 v2 : Int} (h1 : -2147483648 ≤ v1 ∧ v1 < 2147483648) (h2 : -2147483648 ≤ v2 ∧ v2 < 2147483648) : ∃ (r : Int) (q1 q2 : zM), Ev_line q v1 v2 = some (r, q1) ∧ Mo_line q1 v1 v2 = some (r, q2) ∧ zIN q2 := by
  obtain ⟨A, hs, sn, tx, hX, hM, hk⟩ := h
  by_cases c : v2 = 5 ∧ 0 ≤ v1 ∧ v1 < aL A
  · obtain ⟨rfl, c1, c2⟩ := c
    obtain ⟨l, rfl⟩ : ∃ w : Nat, v1 = (w : Int) := ⟨v1.toNat, by omega⟩
    have hl : l < aL A := by omega
    obtain ⟨r, q1, -, a1, a2, a3, -⟩ := line5_both hX hM hk hl
    obtain ⟨r', q1', q2, b1, b2, b3, b4, b5, b6⟩ := line5_both hX (zGM_fr a3 hM) hk hl
    rw [a1] at b1
    obtain ⟨e1, e2⟩ := Prod.mk.inj (Option.some.inj b1)
    subst e1
    subst e2
    exact ⟨r, q1, q2, a1, b4, A, hs, sn, tx, zGX_fr b6 b2, b5, hk⟩
  · obtain ⟨r, a1, b1⟩ := line_same hX.1 hM.1 hk.1 h1 h2 c
    exact ⟨r, q, q, a1, b1, A, hs, sn, tx, hX, hM, hk⟩
theorem cl_nearMiss (h : zIN q) {v1 v2 : Int} (h1 : -2147483648 ≤ v1 ∧ v1 < 2147483648) (h2 : -2147483648 ≤ v2 ∧ v2 < 2147483648) : ∃ (r : Int) (q1 q2 : zM), Ev_nearMiss q v1 v2 = some (r, q1) ∧ Mo_nearMiss q1 v1 v2 = some (r, q2) ∧ zIN q2 := by
  obtain ⟨A, hs, sn, tx, hX, hM, hk⟩ := h
  by_cases c : 0 ≤ v1 ∧ v1 < aL A
  · obtain ⟨l, rfl⟩ : ∃ w : Nat, v1 = (w : Int) := ⟨v1.toNat, by omega⟩
    have hl : l < aL A := by omega
    by_cases c2 : v2 < 0
    · refine ⟨-2, q, q, ?_, ?_, A, hs, sn, tx, hX, hM, hk⟩
      · unfold Ev_nearMiss
        rw [Po_has_in hX.1 hk.1 hl, Option.bind_some, if_neg one_ne, wrap_eq h2, if_pos c2]
      · unfold Mo_nearMiss
        rw [Mo_noLine_eq hM.1 hk.1 h1, Option.bind_some, if_pos c, if_pos zero_eq, wrap_eq h2, if_pos c2]
    · obtain ⟨p, rfl⟩ : ∃ w : Nat, v2 = (w : Int) := ⟨v2.toNat, by omega⟩
      have hp : p < 2147483648 := by omega
      obtain ⟨r, q1, a1, a2, a3, a4⟩ := Ev_near hX hk hl hp
      obtain ⟨r', q2, b1, b2, b3, b4⟩ := Mo_near (zGM_fr a3 hM) hk hl hp
      have e := nrR_det hk.1 a4 b4
      subst e
      exact ⟨r, q1, q2, a1, b1, A, hs, sn, tx, zGX_fr b3 a2, b2, hk⟩
  · refine ⟨-1, q, q, ?_, ?_, A, hs, sn, tx, hX, hM, hk⟩
    · unfold Ev_nearMiss
      rw [Po_has_eq hX.1 hk.1 h1, Option.bind_some, if_neg c, if_pos zero_eq]
    · unfold Mo_nearMiss
      rw [Mo_noLine_eq hM.1 hk.1 h1, Option.bind_some, if_neg c, if_neg one_ne]
theorem cl_find (h : zIN q) : ∃ (r : Int) (q2 : zM), Ev_find q = some r ∧ Mo_find q = some (r, q2) ∧ zIN q2 := by
  obtain ⟨A, hs, sn, tx, hX, hM, hk⟩ := h
  obtain ⟨r, q2, a1, a2, a3, a4⟩ := find_same hX hM hk
  exact ⟨r, q2, a1, a2, A, hs, sn, tx, zGX_fr a4 hX, a3, hk⟩
theorem cl_word (h : zIN q) {v1 v2 : Int} (h1 : -2147483648 ≤ v1 ∧ v1 < 2147483648) (h2 : -2147483648 ≤ v2 ∧ v2 < 2147483648) : rSame (Ev_word q v1 v2) (Mo_word q v1 v2) := by
  obtain ⟨A, hs, sn, tx, hX, hM, hk⟩ := h
  exact word_same hX.1 hM.1 hk.1 h1 h2
theorem cl_letterAt (h : zIN q) {v1 v2 : Int} (h1 : -2147483648 ≤ v1 ∧ v1 < 2147483648) (h2 : -2147483648 ≤ v2 ∧ v2 < 2147483648) : rSame (Ev_letterAt q v1 v2) (Mo_letterAt q v1 v2) := by
  obtain ⟨A, hs, sn, tx, hX, hM, hk⟩ := h
  exact letterAt_same hX.1 hM.1 hk.1 h1 h2
theorem cl_wordAt (h : zIN q) {v1 v2 : Int} (h1 : -2147483648 ≤ v1 ∧ v1 < 2147483648) (h2 : -2147483648 ≤ v2 ∧ v2 < 2147483648) : rSame (Ev_wordAt q v1 v2) (Mo_wordAt q v1 v2) := by
  obtain ⟨A, hs, sn, tx, hX, hM, hk⟩ := h
  exact wordAt_same hX.1 hM.1 hk.1 h1 h2
theorem cl_poemAt (h : zIN q) {v : Int} (h1 : -2147483648 ≤ v ∧ v < 2147483648) : rSame (Ev_poemAt q v) (Mo_poemAt q v) := by
  obtain ⟨A, hs, sn, tx, hX, hM, hk⟩ := h
  exact poemAt_same hX.1 hM.1 hk.1 h1
theorem cl_count (h : zIN q) (v : Int) : rSame (Ev_count q v) (Mo_count q v) := by
  obtain ⟨A, hs, sn, tx, hX, hM, hk⟩ := h
  exact count_same hX hM hk v
end CL

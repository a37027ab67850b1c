/-! removeWord: the reference, the whole act -/
section RM5
variable {q : zM} {A : zT9} {hs : List zT9} {sn : Nat → Option zT9} {tx : List Nat}
theorem rem_L48Y {f : Nat → Int} {p i : Nat} (hi : i < 8) (v1 v2 : Int) (h0 : (qp q f p).1 127 (140 + 13 * i) = 0) (K : Int → zM → Option (Int × zM)) : Mo_removeWord_L48 v1 v2 (i : Int) K 5000 0 (qp q f p) = K 0 (qp q f p) := by
  rw [Mo_removeWord_L48, Mo_size_raw hi h0, Option.bind_some, if_neg (Int.lt_irrefl _)]
theorem rem_L18 (hW : zWF A) (hM : zRM (q.1 127) A) {w : Nat} (hw : w < 40) (K : Int → Int → zM → Option (Int × zM)) : Mo_removeWord_L18 (w : Int) K 5000 0 0 q = K (cntTo (fun l => aUs A l w) (aL A) : Int) (aL A : Int) (qp q (rv A w (q.1 127)) (13 * aL A)) := by
  have w1 := hW.2.2.2.2.2.1
  refine Eq.trans (by rw [qp_zero q (rv A w (q.1 127))]; rfl) (for_all (G := fun n i => Mo_removeWord_L18 (w : Int) K n (cntTo (fun l => aUs A l w) i : Int) (i : Int) (qp q (rv A w (q.1 127)) (13 * i))) (N := aL A) (by omega) (fun n i hi => ?_) (fun n => ?_))
  · show Mo_removeWord_L18 _ _ (n + 1) _ _ _ = Mo_removeWord_L18 _ _ n (cntTo _ (i + 1) : Int) ((i + 1 : Nat) : Int) _
    have e3 : (qp q (rv A w (q.1 127)) (13 * i)).1 127 3 = aL A := by rw [qp_at, if_neg (by omega)]; exact hM.2.2.2.1
    have e1 : (qp q (rv A w (q.1 127)) (13 * i)).1 127 (140 + 13 * i) = aSz A i := by rw [qp_at, if_neg (by omega)]; exact hM.2.2.2.2.2.2.1 i (by omega)
    have e2 : ∀ k, k < aSz A i → (qp q (rv A w (q.1 127)) (13 * i)).1 127 (141 + 13 * i + k) = aWd A i k := fun k hk => by rw [qp_at, if_neg (by clear e1 e3; omega)]; exact hM.2.2.2.2.2.2.2 i k hi hk
    have eu := Mo_uses_raw hW hi (w := w) (Nat.lt_trans hw (by decide)) e1 e2
    rw [Mo_removeWord_L18, e3]
    clear e3 e1 e2
    rw [wrap_n (n := i) (by omega), wrap_n (n := aL A) (by omega), if_pos (by omega), eu, Option.bind_some]
    cases hu : aUs A i w with
    | true =>
      have z13 : ∀ j, j < 13 → rv A w (q.1 127) (140 + 13 * i + j) = 0 := fun j hj => by rw [rv_at A w _ i j hj, if_pos hu]
      have hz := qp_z q (rv A w (q.1 127)) (13 * i) z13
      have z0 : (qp q (rv A w (q.1 127)) (13 * i + 13)).1 127 (140 + 13 * i) = 0 := by rw [qp_at, if_pos (by omega)]; exact z13 0 (by omega)
      rw [if_pos rfl, if_neg one_ne, Mo_empty_eq _ (by omega), Option.bind_some, hz, rem_L48Y (by omega) _ _ z0]
      simp only [cntTo, hu, if_true]
      rfl
    | false =>
      rw [if_neg (c := false = true) (by simp), if_pos zero_eq, rem_L48N hW hM hi hw hu]
      simp only [cntTo, hu]
      rfl
  · show Mo_removeWord_L18 _ _ (n + 1) _ _ _ = _
    have e3 : (qp q (rv A w (q.1 127)) (13 * aL A)).1 127 3 = aL A := by rw [qp_at, if_neg (by omega)]; exact hM.2.2.2.1
    rw [Mo_removeWord_L18, e3, if_neg (Int.lt_irrefl _)]
theorem Mo_removeWord_ok (h : zGM q A hs sn tx) (hk : zOK A hs sn tx) {w : Nat} (hw : w < aN A) : ∃ q', Mo_removeWord q (w : Int) = some ((cntTo (fun l => aUs A l w) (aL A) : Int), q') ∧ zGM q' (aRem A w) (pushH hs A) sn tx ∧ zFM q q' := by
  have hW := hk.1
  have hN := hW.1
  have wl := hW.2.2.2.2.2.1
  have hg := h.1
  have hcn := cntTo_le (fun l => aUs A l w) (aL A)
  unfold Mo_removeWord
  rw [Mo_noWord_eq hg hW (by omega), Option.bind_some, if_pos (c := (0 : Int) ≤ (w : Int) ∧ (w : Int) < (aN A : Int)) (by omega), if_pos zero_eq, Mo_begin_eq, Option.bind_some]
  have c1 : ∀ k, (qc q 127 0 128 0 244).1 127 k = q.1 127 k := fun k => by rw [qc_at, if_neg (by omega)]
  have hg1 : zRM ((qc q 127 0 128 0 244).1 127) A := zRM_congr hW (fun k _ => c1 k) hg
  rw [rem_L18 hW hg1 (by omega)]
  have e0 : (qp (qc q 127 0 128 0 244) (rv A w ((qc q 127 0 128 0 244).1 127)) (13 * aL A)).1 127 0 = aN A := by rw [qp_at, if_neg (by omega)]; exact hg1.1
  rw [e0, show ((aN A : Int) - 1) = ((aN A - 1 : Nat) : Int) by clear e0; omega]
  unfold Mo_removeWord_b117
  have e1 : (qs (qp (qc q 127 0 128 0 244) (rv A w ((qc q 127 0 128 0 244).1 127)) (13 * aL A)) 127 0 ((aN A - 1 : Nat) : Int)).1 127 0 = ((aN A - 1 : Nat) : Int) := by rw [qs_at, if_pos ⟨rfl, rfl⟩]
  rw [show ((20 : Int) + 3 * (w : Int)) = ((20 + 3 * w : Nat) : Int) by clear e0 e1; omega, rem_L124 (s := 20 + 3 * w) (m := aN A - 1) (by clear e0 e1; omega) (by clear e0 e1; omega) (by clear e0 e1; omega) e1]
  clear e0 e1
  generalize hr : (qc q 127 0 128 0 244).1 127 = r at hg1 c1
  have hat : ∀ a k, (qt (qs (qp (qc q 127 0 128 0 244) (rv A w r) (13 * aL A)) 127 0 ((aN A - 1 : Nat) : Int)) (20 + 3 * w) (20 + 3 * (aN A - 1) - (20 + 3 * w))).1 a k = if a = 127 ∧ 20 + 3 * w ≤ k ∧ k < 20 + 3 * w + (20 + 3 * (aN A - 1) - (20 + 3 * w)) then (qs (qp (qc q 127 0 128 0 244) (rv A w r) (13 * aL A)) 127 0 ((aN A - 1 : Nat) : Int)).1 127 (k + 3) else (qs (qp (qc q 127 0 128 0 244) (rv A w r) (13 * aL A)) 127 0 ((aN A - 1 : Nat) : Int)).1 a k := fun a k => rfl
  have hsc : ∀ a k, (qs (qp (qc q 127 0 128 0 244) (rv A w r) (13 * aL A)) 127 0 ((aN A - 1 : Nat) : Int)).1 a k = if a = 127 ∧ k = 0 then ((aN A - 1 : Nat) : Int) else if a = 127 ∧ 140 ≤ k ∧ k < 140 + 13 * aL A then rv A w r k else (qc q 127 0 128 0 244).1 a k := fun a k => rfl
  have hat2 : (qt (qs (qp (qc q 127 0 128 0 244) (rv A w r) (13 * aL A)) 127 0 ((aN A - 1 : Nat) : Int)) (20 + 3 * w) (20 + 3 * (aN A - 1) - (20 + 3 * w))).2 = q.2 := rfl
  generalize qt (qs (qp (qc q 127 0 128 0 244) (rv A w r) (13 * aL A)) 127 0 ((aN A - 1 : Nat) : Int)) (20 + 3 * w) (20 + 3 * (aN A - 1) - (20 + 3 * w)) = q3 at hat hat2
  generalize qs (qp (qc q 127 0 128 0 244) (rv A w r) (13 * aL A)) 127 0 ((aN A - 1 : Nat) : Int) = q2 at hat hsc
  have p1 : ∀ k, 1 ≤ k → k < 140 → q2.1 127 k = r k := fun k h1 h2 => by rw [hsc, if_neg (by omega), if_neg (by omega), hr]
  have low : ∀ k, 1 ≤ k → k < 20 → q3.1 127 k = r k := fun k h1 h2 => by rw [hat, if_neg (by omega), p1 k h1 (by omega)]
  have oth : ∀ a, a ≠ 127 → q3.1 a = (qc q 127 0 128 0 244).1 a := fun a ha => funext fun k => by rw [hat, if_neg (by omega), hsc, if_neg (by omega), if_neg (by omega)]
  have lin : ∀ k, 140 ≤ k → k < 140 + 13 * aL A → q3.1 127 k = rv A w r k := fun k h1 h2 => by rw [hat, if_neg (by omega), hsc, if_neg (by omega), if_pos (by omega)]
  have lin2 : ∀ k, 140 + 13 * aL A ≤ k → q3.1 127 k = r k := fun k h1 => by rw [hat, if_neg (by omega), hsc, if_neg (by omega), if_neg (by omega), hr]
  have wrd : ∀ i t, i < aN A - 1 → t < 3 → q3.1 127 (20 + t + 3 * i) = r (20 + t + 3 * sh1 w i) := fun i t hi ht => by
    rw [hat]
    unfold sh1
    by_cases c : i < w
    · rw [if_neg (by omega), if_pos c, p1 _ (by omega) (by omega)]
    · rw [if_pos (by omega), if_neg c, p1 _ (by omega) (by omega), show 20 + t + 3 * i + 3 = 20 + t + 3 * (i + 1) by omega]
  obtain ⟨m1, m2, m3, m4, m5, m6, m7, m8⟩ := hg1
  have hrow : zRM (q3.1 127) (aRem A w) := by
    refine ⟨?_, ?_, ?_, ?_, fun i hi => ?_, fun l hl => ⟨?_, ?_⟩, fun l hl => ?_, fun l k hl hkk => ?_⟩
    · show q3.1 127 0 = ((aN A - 1 : Nat) : Int)
      rw [hat, if_neg (by omega), hsc, if_pos ⟨rfl, rfl⟩]
    · exact (low 1 (by omega) (by omega)).trans m2
    · exact (low 2 (by omega) (by omega)).trans m3
    · exact (low 3 (by omega) (by omega)).trans m4
    · have hi : i < aN A - 1 := hi
      have hs : sh1 w i < aN A := by unfold sh1; split <;> omega
      obtain ⟨y1, y2, y3⟩ := m5 _ hs
      have hn8 := (hW.2.2.2.2.2.2.1 _ hs).2.1
      refine ⟨(wrd i 2 hi (by decide)).trans y1, ((wrd i 0 hi (by decide)).trans y2).trans ?_, ((wrd i 1 hi (by decide)).trans y3).trans ?_⟩
      · exact congrArg _ (pk4_cong (fun k hk => (aRem_lt A w i (by clear y1 y2 y3; omega)).symm))
      · refine congrArg _ (pk4_cong (fun k hk => (aRem_lt A w i ?_).symm))
        have hk : k < aNl A (sh1 w i) - 4 := hk
        clear y1 y2 y3
        omega
    · have hl : l < aL A := hl
      exact (low (4 + l) (by omega) (by omega)).trans (m6 l hl).1
    · have hl : l < aL A := hl
      exact (low (12 + l) (by omega) (by omega)).trans (m6 l hl).2
    · have e := m7 l hl
      rw [aRem_sz]
      by_cases c : l < aL A
      · have rr := rv_at A w r l 0 (by omega)
        rw [Nat.add_zero] at rr
        rw [lin _ (by clear e rr; omega) (by clear e rr; omega), rr, e]
        cases aUs A l w <;> simp
      · have z := hW.2.2.2.2.2.2.2.2.2 l (by clear e; omega)
        rw [lin2 _ (by clear e; omega), e, z]
        split <;> rfl
    · have hl : l < aL A := hl
      rw [aRem_sz] at hkk
      cases hu : aUs A l w with
      | true => rw [hu] at hkk; exact absurd hkk (by simp)
      | false =>
        rw [hu] at hkk
        have hkk : k < aSz A l := hkk
        have s1 := (hW.2.2.2.2.2.2.2.2.1 l).1
        rw [lin _ (by omega) (by omega), show 141 + 13 * l + k = 140 + 13 * l + (k + 1) by omega, rv_at A w r l (k + 1) (by omega), hu, if_neg (c := false = true) (by simp), if_neg (by omega), if_pos (by omega), Nat.add_sub_cancel, aRem_wd]
  obtain ⟨q', r1, r2, r3, r4⟩ := zGM_done h hk (q1 := q3) (aRem_wf hW hw) hrow (fun k hk => by rw [oth 128 (by omega), qc_at, if_pos (by omega), Nat.sub_zero, Nat.zero_add]) (by rw [oth 126 (by omega), qc_at, if_neg (by omega)]) (by rw [oth 126 (by omega), qc_at, if_neg (by omega)]) (fun a ha => funext fun k => by rw [oth a (by omega), qc_at, if_neg (by omega)]) (v := (cntTo (fun l => aUs A l w) (aL A) : Int)) (by omega)
  refine ⟨q', by rw [r1]; rfl, r2, fun a ha => ?_, r3.trans hat2⟩
  rw [r4 a ha, oth a (by omega)]
  funext k
  rw [qc_at, if_neg (by omega)]
end RM5

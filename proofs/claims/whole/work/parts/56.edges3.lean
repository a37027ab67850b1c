/-! setEdges, both sides -/
section ED3
variable {q : zM} {A : zT9} {hs : List zT9} {sn : Nat → Option zT9} {tx : List Nat}
theorem Ev_setEdges_bad (h : zGX q A hs sn tx) (hk : zOK A hs sn tx) (he : ¬ tEdge tx) : Ev_setEdges q = some (-4, q) := by
  unfold Ev_setEdges
  rw [edgeLength_no h.2.1 h.2.2.1 hk he, Option.bind_some, if_pos (by decide)]
theorem Ev_setEdges_ok (h : zGX q A hs sn tx) (hk : zOK A hs sn tx) (he : tEdge tx) : ∃ q', Ev_setEdges q = some (((tx.length / 2 : Nat) : Int), q') ∧ zGX q' (aEdg A (tx.length / 2) tx) (pushH hs A) sn tx ∧ zFX q q' := by
  have hl := hk.2.2.2.2.1
  unfold Ev_setEdges
  rw [edgeLength_yes h.2.1 h.2.2.1 hk he, Option.bind_some, wrap_n (by omega), if_neg (by omega)]
  obtain ⟨q1, r1, r2, r3⟩ := record_eq h hk
  rw [r1, Option.bind_some, Po_changeEdges_eq r2.2.1 r2.2.2.1 hl he, Option.bind_some]
  have e2 := he.2.1
  have e3 := he.2.2.1
  have hat : ∀ a k, (qz (qe (qs q1 13 0 ((tx.length / 2 : Nat) : Int)) (tx.length / 2) tx (tx.length / 2)) 16 0 (tx.length / 2)).1 a k = if a = 16 ∧ 0 ≤ k ∧ k < 0 + tx.length / 2 then 0 else if a = 14 ∧ k < tx.length / 2 then (tx.getD k 0 : Int) else if a = 15 ∧ k < tx.length / 2 then (tx.getD (tx.length / 2 + 1 + k) 0 : Int) else if a = 13 ∧ k = 0 then ((tx.length / 2 : Nat) : Int) else q1.1 a k := fun a k => rfl
  have hat2 : ∀ a k, (qz (qe (qs q1 13 0 ((tx.length / 2 : Nat) : Int)) (tx.length / 2) tx (tx.length / 2)) 16 0 (tx.length / 2)).2 a k = q1.2 a k := fun a k => rfl
  generalize hq2 : qz (qe (qs q1 13 0 ((tx.length / 2 : Nat) : Int)) (tx.length / 2) tx (tx.length / 2)) 16 0 (tx.length / 2) = q2 at hat hat2
  have far : ∀ a, (a < 13 ∨ 16 < a) → q2.1 a = q1.1 a := fun a ha => funext fun k => by rw [hat, if_neg (by omega), if_neg (by omega), if_neg (by omega), if_neg (by omega)]
  obtain ⟨x1, x2, x3, x4, x5, x6, x7⟩ := r2.1
  refine ⟨_, rfl, zGX_mut r2 (fun a ha _ => ⟨far a (by omega), funext fun k => hat2 a k⟩) ?_, fun a ha => by rw [← (r3 a (by omega)).1, far a (by omega)]⟩
  refine ⟨?_, ?_, ?_, ?_, fun w hw => ?_, fun i hi => ?_, fun i k hi hk => absurd hk (Nat.not_lt_zero _)⟩
  · rw [far _ (by omega)]; exact x1
  · rw [far _ (by omega)]; exact x2
  · rw [far _ (by omega)]; exact x3
  · show q2.1 13 0 = _
    rw [hat, if_neg (by omega), if_neg (by omega), if_neg (by omega), if_pos (by omega)]
    rfl
  · rw [far _ (by omega), far _ (by omega), far _ (by omega), far _ (by omega), hat2]
    exact x5 w hw
  · have hi : i < tx.length / 2 := hi
    refine ⟨?_, ?_, ?_⟩
    · show q2.1 14 i = _
      rw [hat, if_neg (by omega), if_pos (by omega)]
      rfl
    · show q2.1 15 i = _
      rw [hat, if_neg (by omega), if_neg (by omega), if_pos (by omega)]
      rfl
    · show q2.1 16 i = _
      rw [hat, if_pos (by omega)]
      rfl
theorem Mo_edges_L112 {n : Nat} (hn : n ≤ 8) (hl : 2 * n + 1 ≤ tx.length) (h40 : tx.length ≤ 40) (hc : ∀ i, i < tx.length → q.1 132 i = tx.getD i 0) (v2 : Int) (K : Int → zM → Option (Int × zM)) : Mo_setEdges_L112 (n : Int) v2 K 5000 0 q = K 8 (qm q n tx 8) := by
  refine Eq.trans (by rw [qm_zero q n tx]; rfl) (for_all (G := fun m i => Mo_setEdges_L112 (n : Int) v2 K m (i : Int) (qm q n tx i)) (N := 8) (by omega) (fun m i hi => ?_) (fun m => ?_))
  · show Mo_setEdges_L112 _ _ _ (m + 1) _ _ = Mo_setEdges_L112 _ _ _ m ((i + 1 : Nat) : Int) _
    have t : ∀ k, k < tx.length → (qm q n tx i).1 132 k = tx.getD k 0 := fun k hk => by rw [qm_at, if_neg (by omega), if_neg (by omega)]; exact hc k hk
    have t' : ∀ (x : Int) k, k < tx.length → (qs (qm q n tx i) 127 (4 + i) x).1 132 k = tx.getD k 0 := fun x k hk => by rw [qs_at, if_neg (by omega)]; exact t k hk
    rw [Mo_setEdges_L112, show ((4 : Int) + (i : Int)) = ((4 + i : Nat) : Int) by omega, show ((12 : Int) + (i : Int)) = ((12 + i : Nat) : Int) by omega, show ((n : Int) + 1 + (i : Int)) = ((n + 1 + i : Nat) : Int) by omega, wrap_n (n := i) (by omega), wrap_n (n := n) (by omega), wrap_n (n := 4 + i) (by omega), wrap_n (n := 12 + i) (by omega), wrap_n (n := n + 1 + i) (by omega), if_pos (c := (i : Int) < 8) (by omega), Int.toNat_natCast, Int.toNat_natCast, Int.toNat_natCast, Int.toNat_natCast]
    by_cases c : i < n
    · rw [if_pos (c := (i : Int) < (n : Int)) (by omega), if_pos (c := (i : Int) < (n : Int)) (by omega), ck_in (by omega), ck_in (by omega), ck_in (by omega), ck_in (by omega), t i (by omega), t' _ (n + 1 + i) (by omega), qm_step q n tx hi (by rw [if_pos c]) (by rw [if_pos c])]
      rfl
    · rw [if_neg (c := (i : Int) < (n : Int)) (by omega), if_neg (c := (i : Int) < (n : Int)) (by omega), ck_in (by omega), ck_in (by omega), qm_step q n tx hi (by rw [if_neg c]; rfl) (by rw [if_neg c]; rfl)]
      rfl
  · show Mo_setEdges_L112 _ _ _ (m + 1) _ _ = _
    rw [Mo_setEdges_L112, if_neg (by decide)]
    rfl
theorem Mo_setEdges_bad (h : zGM q A hs sn tx) (hk : zOK A hs sn tx) (he : ¬ tEdge tx) : Mo_setEdges q = some (-4, q) := by
  have hl := hk.2.2.2.2.1
  have ht := h.2.1
  obtain ⟨d1, d2⟩ := wdiv2 ⟨tx.length, by omega⟩
  dsimp only at d1 d2
  unfold Mo_setEdges
  rw [ht, d1, d2, wrap_n (n := tx.length % 2) (by omega)]
  by_cases c1 : tx.length % 2 = 1
  · rw [if_pos (by omega), Mo_in_eq (by omega) (by decide) (by decide), Option.bind_some]
    by_cases c2 : 1 ≤ tx.length / 2 ∧ tx.length / 2 ≤ 8
    · rw [if_pos (c := (1 : Int) ≤ ((tx.length / 2 : Nat) : Int) ∧ ((tx.length / 2 : Nat) : Int) ≤ 8) (by omega), if_neg one_ne, wrap_n (n := tx.length / 2) (by omega), ck_in (by omega), Int.toNat_natCast, h.2.2.1 _ (by omega), wrap_n (by have := tx_rng hk (tx.length / 2); omega)]
      by_cases c3 : tx.getD (tx.length / 2) 0 = 47
      · rw [if_pos (by omega), edges_L46 h hk (by omega) _ (fun _ _ _ => rfl), if_neg (fun g => he ⟨c1, c2.1, c2.2, c3, g⟩), if_pos zero_eq]
      · rw [if_neg (by omega), edges_L46_0 h hk _ _ (fun _ _ _ => rfl), if_pos zero_eq]
    · rw [if_neg (c := (1 : Int) ≤ ((tx.length / 2 : Nat) : Int) ∧ ((tx.length / 2 : Nat) : Int) ≤ 8) (by omega), if_pos zero_eq, edges_L46_0 h hk _ _ (fun _ _ _ => rfl), if_pos zero_eq]
  · rw [if_neg (by omega), edges_L46_0 h hk _ _ (fun _ _ _ => rfl), if_pos zero_eq]
theorem Mo_setEdges_ok (h : zGM q A hs sn tx) (hk : zOK A hs sn tx) (he : tEdge tx) : ∃ q', Mo_setEdges q = some (((tx.length / 2 : Nat) : Int), q') ∧ zGM q' (aEdg A (tx.length / 2) tx) (pushH hs A) sn tx ∧ zFM q q' := by
  have hW := hk.1
  have hN := hW.1
  have hl := hk.2.2.2.2.1
  have ht := h.2.1
  obtain ⟨e1, e2, e3, e4, e5⟩ := id he
  obtain ⟨d1, d2⟩ := wdiv2 ⟨tx.length, by omega⟩
  dsimp only at d1 d2
  unfold Mo_setEdges
  rw [ht, d1, d2, wrap_n (n := tx.length % 2) (by omega), if_pos (by omega), Mo_in_eq (by omega) (by decide) (by decide), Option.bind_some, if_pos (c := (1 : Int) ≤ ((tx.length / 2 : Nat) : Int) ∧ ((tx.length / 2 : Nat) : Int) ≤ 8) (by omega), if_neg one_ne, wrap_n (n := tx.length / 2) (by omega), ck_in (by omega), Int.toNat_natCast, h.2.2.1 _ (by omega), e4, if_pos (by decide), edges_L46 h hk (by omega) _ (fun _ _ _ => rfl), if_pos e5, if_neg one_ne, Mo_begin_eq, Option.bind_some]
  have hg := h.1
  rw [Mo_emptyAll_eq (f := aSz A) (fun l hl => by rw [qc_at, if_neg (by omega)]; exact hg.2.2.2.2.2.2.1 l hl) (fun l => (hW.2.2.2.2.2.2.2.2.1 l).1), Option.bind_some]
  unfold Mo_setEdges_b110
  rw [Mo_edges_L112 (q := qs (qz (qc q 127 0 128 0 244) 127 140 104) 127 3 ((tx.length / 2 : Nat) : Int)) (n := tx.length / 2) (tx := tx) e3 (by omega) hl (fun i hi => by rw [qs_at, if_neg (by omega), qz_at, if_neg (by omega), qc_at, if_neg (by omega)]; exact h.2.2.1 i hi)]
  have hat : ∀ a k, (qm (qs (qz (qc q 127 0 128 0 244) 127 140 104) 127 3 ((tx.length / 2 : Nat) : Int)) (tx.length / 2) tx 8).1 a k = if a = 127 ∧ 4 ≤ k ∧ k < 4 + 8 then ((if k - 4 < tx.length / 2 then tx.getD (k - 4) 0 else 0 : Nat) : Int) else if a = 127 ∧ 12 ≤ k ∧ k < 12 + 8 then ((if k - 12 < tx.length / 2 then tx.getD (tx.length / 2 + 1 + (k - 12)) 0 else 0 : Nat) : Int) else if a = 127 ∧ k = 3 then ((tx.length / 2 : Nat) : Int) else if a = 127 ∧ 140 ≤ k ∧ k < 140 + 104 then 0 else if a = 128 ∧ 0 ≤ k ∧ k < 0 + 244 then q.1 127 (0 + (k - 0)) else q.1 a k := fun a k => rfl
  have hat2 : (qm (qs (qz (qc q 127 0 128 0 244) 127 140 104) 127 3 ((tx.length / 2 : Nat) : Int)) (tx.length / 2) tx 8).2 = q.2 := rfl
  generalize qm (qs (qz (qc q 127 0 128 0 244) 127 140 104) 127 3 ((tx.length / 2 : Nat) : Int)) (tx.length / 2) tx 8 = q1 at hat hat2
  obtain ⟨m1, m2, m3, m4, m5, m6, m7, m8⟩ := hg
  have far : ∀ k, k < 3 ∨ 20 ≤ k → k < 140 → q1.1 127 k = q.1 127 k := fun k hk hk2 => by rw [hat, if_neg (by omega), if_neg (by omega), if_neg (by omega), if_neg (by omega), if_neg (by omega)]
  have oth : ∀ a, a ≠ 127 → a ≠ 128 → q1.1 a = q.1 a := fun a h1 h2 => funext fun k => by rw [hat, if_neg (by omega), if_neg (by omega), if_neg (by omega), if_neg (by omega), if_neg (by omega)]
  have hrow : zRM (q1.1 127) (aEdg A (tx.length / 2) tx) := by
    refine ⟨?_, ?_, ?_, ?_, fun w hw => ?_, fun i hi => ⟨?_, ?_⟩, fun i hi => ?_, fun i k hi hk => absurd hk (Nat.not_lt_zero _)⟩
    · rw [far _ (by omega) (by omega)]; exact m1
    · rw [far _ (by omega) (by omega)]; exact m2
    · rw [far _ (by omega) (by omega)]; exact m3
    · rw [hat, if_neg (by omega), if_neg (by omega), if_pos (by omega)]; rfl
    · have hw : w < aN A := hw
      rw [far _ (by omega) (by omega), far _ (by omega) (by omega), far _ (by omega) (by omega)]
      exact m5 w hw
    · have hi : i < tx.length / 2 := hi
      rw [hat, if_pos (by omega), show 4 + i - 4 = i by omega, if_pos hi]
      rfl
    · have hi : i < tx.length / 2 := hi
      rw [hat, if_neg (by omega), if_pos (by omega), show 12 + i - 12 = i by omega, if_pos hi]
      rfl
    · rw [hat, if_neg (by omega), if_neg (by omega), if_neg (by omega), if_pos (by omega)]; rfl
  obtain ⟨q', r1, r2, r3, r4⟩ := zGM_done h hk (q1 := q1) (aEdg_wf hW he) hrow (fun k hk => by rw [hat, if_neg (by omega), if_neg (by omega), if_neg (by omega), if_neg (by omega), if_pos (by omega), Nat.sub_zero, Nat.zero_add]) (by rw [oth 126 (by omega) (by omega)]) (by rw [oth 126 (by omega) (by omega)]) (fun a ha => oth a (by omega) (by omega)) (v := ((tx.length / 2 : Nat) : Int)) (by omega)
  refine ⟨q', by rw [r1]; rfl, r2, fun a ha => ?_, r3.trans hat2⟩
  rw [r4 a ha, oth a (by omega) (by omega)]
end ED3

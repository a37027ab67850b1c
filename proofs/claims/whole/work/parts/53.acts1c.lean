/-! clearLine, setLimit -/
section A3
variable {q : zM} {A : zT9} {hs : List zT9} {sn : Nat → Option zT9} {tx : List Nat}
theorem aEmpL_sz (A : zT9) (l i : Nat) : aSz (aEmpL A l) i = if i = l then 0 else aSz A i := by
  unfold aSz aEmpL
  by_cases h : i = l <;> simp [h]
theorem clearLine_out (hX : zRX q 5 A) (hM : zRM (q.1 127) A) (hW : zWF A) {v : Int} (hv : -2147483648 ≤ v ∧ v < 2147483648) (ho : ¬ (0 ≤ v ∧ v < aL A)) : Ev_clearLine q v = some (-1, q) ∧ Mo_clearLine q v = some (-1, q) := by
  constructor
  · unfold Ev_clearLine
    rw [Po_has_eq hX hW hv, Option.bind_some, if_neg ho, if_pos zero_eq]
  · unfold Mo_clearLine
    rw [Mo_noLine_eq hM hW hv, Option.bind_some, if_neg ho, if_neg one_ne]
theorem clearLine_none (hX : zRX q 5 A) (hM : zRM (q.1 127) A) (hW : zWF A) {l : Nat} (hl : l < aL A) (h0 : aSz A l = 0) : Ev_clearLine q (l : Int) = some (-5, q) ∧ Mo_clearLine q (l : Int) = some (-5, q) := by
  have w1 := hW.2.2.2.2.2.1
  constructor
  · unfold Ev_clearLine
    rw [Po_has_in hX hW hl, Option.bind_some, if_neg one_ne, Po_wordsIn_eq hX hW hl, Option.bind_some, h0, if_pos (by decide)]
  · unfold Mo_clearLine
    rw [Mo_noLine_eq hM hW (by omega), Option.bind_some, if_pos (c := (0 : Int) ≤ (l : Int) ∧ (l : Int) < (aL A : Int)) (by omega), if_pos zero_eq, Mo_size_eq hM (by omega), Option.bind_some, h0, if_pos (by decide)]
theorem Ev_clearLine_ok (h : zGX q A hs sn tx) (hk : zOK A hs sn tx) {l : Nat} (hl : l < aL A) (h0 : aSz A l ≠ 0) : ∃ q', Ev_clearLine q (l : Int) = some ((aSz A l : Int), q') ∧ zGX q' (aEmpL A l) (pushH hs A) sn tx ∧ zFX q q' := by
  have hW := hk.1
  have w1 := hW.2.2.2.2.2.1
  have w2 := (hW.2.2.2.2.2.2.2.2.1 l).1
  unfold Ev_clearLine
  rw [Po_has_in h.1 hW hl, Option.bind_some, if_neg one_ne, Po_wordsIn_eq h.1 hW hl, Option.bind_some, wrap_n (by omega), if_neg (by omega)]
  obtain ⟨q1, r1, r2, r3⟩ := record_eq h hk
  obtain ⟨x1, x2, x3, x4, x5, x6, x7⟩ := r2.1
  rw [r1, Option.bind_some, Po_emptyLine_raw x4 w1 hl, Option.bind_some]
  refine ⟨_, rfl, zGX_mut r2 (fun a ha _ => ⟨funext fun k => by rw [qs_at, if_neg (by omega)], rfl⟩) ?_, fun a ha => by rw [← (r3 a (by omega)).1]; funext k; rw [qs_at, if_neg (by omega)]⟩
  refine ⟨?_, ?_, ?_, ?_, fun w hw => ?_, fun i hi => ?_, fun i k hi hk => ?_⟩
  · rw [qs_at, if_neg (by omega)]; exact x1
  · rw [qs_at, if_neg (by omega)]; exact x2
  · rw [qs_at, if_neg (by omega)]; exact x3
  · rw [qs_at, if_neg (by omega)]; exact x4
  · rw [qs_at, if_neg (by omega), qs_at, if_neg (by omega), qs_at, if_neg (by omega), qs_at, if_neg (by omega)]
    exact x5 w hw
  · have hi : i < aL A := hi
    obtain ⟨y1, y2, y3⟩ := x6 i hi
    refine ⟨by rw [qs_at, if_neg (by omega)]; exact y1, by rw [qs_at, if_neg (by omega)]; exact y2, ?_⟩
    rw [qs_at, aEmpL_sz]
    by_cases e : i = l
    · rw [if_pos (by omega), if_pos e]; rfl
    · rw [if_neg (by omega), if_neg e]; exact y3
  · have hi : i < aL A := hi
    rw [aEmpL_sz] at hk
    by_cases e : i = l
    · rw [if_pos e] at hk; exact absurd hk (Nat.not_lt_zero _)
    · rw [if_neg e] at hk
      rw [qs_at, if_neg (by omega)]
      exact x7 i k hi hk
theorem Mo_clearLine_ok (h : zGM q A hs sn tx) (hk : zOK A hs sn tx) {l : Nat} (hl : l < aL A) (h0 : aSz A l ≠ 0) : ∃ q', Mo_clearLine q (l : Int) = some ((aSz A l : Int), q') ∧ zGM q' (aEmpL A l) (pushH hs A) sn tx ∧ zFM q q' := by
  have hW := hk.1
  have w1 := hW.2.2.2.2.2.1
  have hN := hW.1
  have w2 := (hW.2.2.2.2.2.2.2.2.1 l).1
  have hg := h.1
  unfold Mo_clearLine
  rw [Mo_noLine_eq hg hW (by omega), Option.bind_some, if_pos (c := (0 : Int) ≤ (l : Int) ∧ (l : Int) < (aL A : Int)) (by omega), if_pos zero_eq, Mo_size_eq hg (by omega), Option.bind_some, wrap_n (by omega), if_neg (by omega), Mo_begin_eq, Option.bind_some, Mo_empty_eq _ (by omega), Option.bind_some]
  have hat : ∀ a k, (qz (qc q 127 0 128 0 244) 127 (140 + 13 * l) 13).1 a k = if a = 127 ∧ 140 + 13 * l ≤ k ∧ k < 140 + 13 * l + 13 then 0 else if a = 128 ∧ 0 ≤ k ∧ k < 0 + 244 then q.1 127 (0 + (k - 0)) else q.1 a k := fun a k => rfl
  obtain ⟨m1, m2, m3, m4, m5, m6, m7, m8⟩ := hg
  have hrow : zRM ((qz (qc q 127 0 128 0 244) 127 (140 + 13 * l) 13).1 127) (aEmpL A l) := by
    refine ⟨?_, ?_, ?_, ?_, fun w hw => ?_, fun i hi => ?_, fun i hi => ?_, fun i k hi hk => ?_⟩
    · rw [hat, if_neg (by omega), if_neg (by omega)]; exact m1
    · rw [hat, if_neg (by omega), if_neg (by omega)]; exact m2
    · rw [hat, if_neg (by omega), if_neg (by omega)]; exact m3
    · rw [hat, if_neg (by omega), if_neg (by omega)]; exact m4
    · have hw : w < aN A := hw
      rw [hat, if_neg (by omega), if_neg (by omega), hat, if_neg (by omega), if_neg (by omega), hat, if_neg (by omega), if_neg (by omega)]
      exact m5 w hw
    · have hi : i < aL A := hi
      rw [hat, if_neg (by omega), if_neg (by omega), hat, if_neg (by omega), if_neg (by omega)]
      exact m6 i hi
    · rw [hat, aEmpL_sz]
      by_cases e : i = l
      · rw [if_pos (by omega), if_pos e]; rfl
      · rw [if_neg (by omega), if_neg (by omega), if_neg e]; exact m7 i hi
    · have hi : i < aL A := hi
      rw [aEmpL_sz] at hk
      by_cases e : i = l
      · rw [if_pos e] at hk; exact absurd hk (Nat.not_lt_zero _)
      · rw [if_neg e] at hk
        have w3 := (hW.2.2.2.2.2.2.2.2.1 i).1
        rw [hat, if_neg (by omega), if_neg (by omega)]
        exact m8 i k hi hk
  obtain ⟨q', r1, r2, r3, r4⟩ := zGM_done h hk (q1 := qz (qc q 127 0 128 0 244) 127 (140 + 13 * l) 13) (aEmpL_wf hW l) hrow (fun k hk => by rw [hat, if_neg (by omega), if_pos (by omega), Nat.sub_zero, Nat.zero_add]) (by rw [hat, if_neg (by omega), if_neg (by omega)]) (by rw [hat, if_neg (by omega), if_neg (by omega)]) (fun a ha => funext fun k => by rw [hat, if_neg (by omega), if_neg (by omega)]) (v := (aSz A l : Int)) (by omega)
  refine ⟨q', by rw [r1]; rfl, r2, fun a ha => ?_, r3⟩
  rw [r4 a ha]
  funext k
  rw [hat, if_neg (by omega), if_neg (by omega)]
/-- setLimit's refusals: both answer alike -/
theorem setLimit_bad (hX : zRX q 5 A) (hM : zRM (q.1 127) A) (hW : zWF A) {v1 v2 : Int} (h1 : -2147483648 ≤ v1 ∧ v1 < 2147483648) (h2 : -2147483648 ≤ v2 ∧ v2 < 2147483648) (hb : ¬ (0 ≤ v1 ∧ v1 < aN A ∧ 1 ≤ v2 ∧ v2 ≤ 9 ∧ (aUB A (-1) v1.toNat : Int) ≤ v2 ∧ (aLi A v1.toNat : Int) ≠ v2)) : ∃ r : Int, Ev_setLimit q v1 v2 = some (r, q) ∧ Mo_setLimit q v1 v2 = some (r, q) := by
  have w1 := hW.1
  unfold Ev_setLimit Mo_setLimit
  rw [Ws_has_eq hX hW h1, Mo_noWord_eq hM hW h1, Option.bind_some, Option.bind_some]
  by_cases hin : 0 ≤ v1 ∧ v1 < aN A
  · rw [if_pos hin, if_pos hin, if_neg one_ne, if_pos zero_eq, wrap_eq h2, Mo_in_eq h2 (by decide) (by decide), Option.bind_some]
    obtain ⟨w, rfl⟩ : ∃ w : Nat, v1 = (w : Int) := ⟨v1.toNat, by omega⟩
    have hw : w < aN A := by omega
    rw [Int.toNat_natCast] at hb
    by_cases c1 : v2 < 1
    · rw [if_pos c1, if_neg (c := 1 ≤ v2 ∧ v2 ≤ 9) (by omega), if_pos zero_eq]; exact ⟨_, rfl, rfl⟩
    · rw [if_neg c1]
      by_cases c2 : 9 < v2
      · rw [if_pos c2, if_neg (c := 1 ≤ v2 ∧ v2 ≤ 9) (by omega), if_pos zero_eq]; exact ⟨_, rfl, rfl⟩
      · have hu := aUB_le hW (-1) w
        have hli := (hW.2.2.2.2.2.2.1 w hw).2.2.2.2.2.2.1
        rw [if_neg c2, if_pos (c := 1 ≤ v2 ∧ v2 ≤ 9) (by omega), if_neg one_ne, Po_linesUsing_eq hX hW (by omega), Mo_usedBut_eq hM hW (by decide) (by omega), aUB_neg A (a := -5) (b := -1) (by decide) (by decide), Option.bind_some, Option.bind_some, wrap_n (n := aUB A (-1) w) (by omega)]
        by_cases c3 : v2 < (aUB A (-1) w : Int)
        · rw [if_pos c3, if_pos c3]; exact ⟨_, rfl, rfl⟩
        · rw [if_neg c3, if_neg c3, Ws_limitOf_eq hX hW hw, Mo_limit_eq hM hW hw, Option.bind_some, Option.bind_some, wrap_n (n := aLi A w) (by omega), if_pos (by omega), if_pos (by omega)]
          exact ⟨_, rfl, rfl⟩
  · rw [if_neg hin, if_neg hin, if_pos zero_eq, if_neg one_ne]
    exact ⟨_, rfl, rfl⟩
theorem Ev_setLimit_ok (h : zGX q A hs sn tx) (hk : zOK A hs sn tx) {w v : Nat} (hw : w < aN A) (hv : 1 ≤ v ∧ v ≤ 9) (hu : aUB A (-1) w ≤ v) (hn : aLi A w ≠ v) : ∃ q', Ev_setLimit q (w : Int) (v : Int) = some ((aLi A w : Int), q') ∧ zGX q' (aLim A w v) (pushH hs A) sn tx ∧ zFX q q' := by
  have hW := hk.1
  have w1 := hW.1
  have hli := (hW.2.2.2.2.2.2.1 w hw).2.2.2.2.2.2.1
  unfold Ev_setLimit
  rw [Ws_has_in h.1 hW hw, Option.bind_some, if_neg one_ne, wrap_n (n := v) (by omega), if_neg (by omega), if_neg (by omega), Po_linesUsing_eq h.1 hW (by omega), Option.bind_some, wrap_n (n := aUB A (-1) w) (by omega), if_neg (by omega), Ws_limitOf_eq h.1 hW hw, Option.bind_some, wrap_n (n := aLi A w) (by omega), if_neg (by omega)]
  obtain ⟨q1, r1, r2, r3⟩ := record_eq h hk
  rw [r1, Option.bind_some]
  unfold Ws_changeLimit
  rw [Ws_has_in r2.1 hW hw, Option.bind_some, if_neg one_ne, wrap_n (n := w) (by omega), ck_in (by omega), Int.toNat_natCast, Option.bind_some]
  obtain ⟨x1, x2, x3, x4, x5, x6, x7⟩ := r2.1
  refine ⟨_, rfl, zGX_mut r2 (fun a ha _ => ⟨funext fun k => by rw [qs_at, if_neg (by omega)], rfl⟩) ?_, fun a ha => by rw [← (r3 a (by omega)).1]; funext k; rw [qs_at, if_neg (by omega)]⟩
  refine ⟨?_, ?_, ?_, ?_, fun i hi => ?_, fun i hi => ?_, fun i k hi hk => ?_⟩
  · rw [qs_at, if_neg (by omega)]; exact x1
  · rw [qs_at, if_neg (by omega)]; exact x2
  · rw [qs_at, if_neg (by omega)]; exact x3
  · rw [qs_at, if_neg (by omega)]; exact x4
  · obtain ⟨y1, y2, y3, y4, y5⟩ := x5 i hi
    refine ⟨by rw [qs_at, if_neg (by omega)]; exact y1, by rw [qs_at, if_neg (by omega)]; exact y2, by rw [qs_at, if_neg (by omega)]; exact y3, ?_, y5⟩
    rw [qs_at]
    unfold aLi aLim
    by_cases e : i = w
    · rw [if_pos (by omega), if_pos (by omega)]
    · rw [if_neg (by omega), if_neg (by omega)]; exact y4
  · rw [qs_at, if_neg (by omega), qs_at, if_neg (by omega), qs_at, if_neg (by omega)]
    exact x6 i hi
  · rw [qs_at, if_neg (by omega)]
    exact x7 i k hi hk
theorem zRM_lim {r r' : Nat → Int} {A : zT9} {w v : Nat} (hr : zRM r A) (hW : zWF A) (hw : w < aN A) (h : ∀ k, k ≠ 22 + 3 * w → r' k = r k) (hv : r' (22 + 3 * w) = (aNl A w : Int) + 16 * (aSy A w : Int) + 256 * (aSt A w : Int) + 4096 * (v : Int)) : zRM r' (aLim A w v) := by
  have hN := hW.1
  have hL := hW.2.2.2.2.2.1
  obtain ⟨m1, m2, m3, m4, m5, m6, m7, m8⟩ := hr
  have e0 : aLim A w v 0 = A 0 := aLim_k A w v (by omega)
  have e1 : aLim A w v 1 = A 1 := aLim_k A w v (by omega)
  have e2 : aLim A w v 2 = A 2 := aLim_k A w v (by omega)
  have e3 : aLim A w v 3 = A 3 := aLim_k A w v (by omega)
  have e5 : aLim A w v 5 = A 5 := aLim_k A w v (by omega)
  have e6 : aLim A w v 6 = A 6 := aLim_k A w v (by omega)
  have e7 : aLim A w v 7 = A 7 := aLim_k A w v (by omega)
  have e8 : aLim A w v 8 = A 8 := aLim_k A w v (by omega)
  have e9 : aLim A w v 9 = A 9 := aLim_k A w v (by omega)
  have e4 : ∀ i, aLim A w v 4 i = if i = w then v else A 4 i := fun i => by
    unfold aLim
    by_cases e : i = w <;> simp [e]
  have hs : ∀ l, aSz A l ≤ 12 := fun l => (hW.2.2.2.2.2.2.2.2.1 l).1
  unfold zRM aN aB aS aL aNl aSy aSt aLi aFe aLe aSz aWd at *
  have e9f : ∀ i, aLt (aLim A w v) i = aLt A i := fun i => by
    funext k
    unfold aLt
    rw [e9]
  rw [e0, e1, e2, e3, e5, e6, e7, e8]
  refine ⟨by rw [h _ (by omega)]; exact m1, by rw [h _ (by omega)]; exact m2, by rw [h _ (by omega)]; exact m3, by rw [h _ (by omega)]; exact m4, fun i hi => ?_, fun i hi => ?_, fun i hi => ?_, fun i k hi hk => ?_⟩
  · obtain ⟨y1, y2, y3⟩ := m5 i hi
    rw [e4, e9f]
    refine ⟨?_, by rw [h _ (by omega)]; exact y2, by rw [h _ (by omega)]; exact y3⟩
    by_cases e : i = w
    · subst e
      rw [if_pos rfl]; exact hv
    · rw [if_neg e, h _ (by omega)]; exact y1
  · rw [h _ (by omega), h _ (by omega)]
    exact m6 i hi
  · rw [h _ (by omega)]; exact m7 i hi
  · have := hs i
    rw [h _ (by omega)]; exact m8 i k hi hk
theorem Mo_setLimit_ok (h : zGM q A hs sn tx) (hk : zOK A hs sn tx) {w v : Nat} (hw : w < aN A) (hv : 1 ≤ v ∧ v ≤ 9) (hu : aUB A (-1) w ≤ v) (hn : aLi A w ≠ v) : ∃ q', Mo_setLimit q (w : Int) (v : Int) = some ((aLi A w : Int), q') ∧ zGM q' (aLim A w v) (pushH hs A) sn tx ∧ zFM q q' := by
  have hW := hk.1
  have w1 := hW.1
  have hg := h.1
  have hli := (hW.2.2.2.2.2.2.1 w hw).2.2.2.2.2.2.1
  obtain ⟨p1, p2, p3, p4, p5, p6⟩ := Mo_props hg hW hw
  unfold Mo_setLimit
  rw [Mo_noWord_eq hg hW (by omega), Option.bind_some, if_pos (c := (0 : Int) ≤ (w : Int) ∧ (w : Int) < (aN A : Int)) (by omega), if_pos zero_eq, Mo_in_eq (by omega) (by decide) (by decide), Option.bind_some, if_pos (c := (1 : Int) ≤ (v : Int) ∧ (v : Int) ≤ 9) (by omega), if_neg one_ne, Mo_usedBut_eq hg hW (by decide) (by omega), aUB_neg A (a := -5) (b := -1) (by decide) (by decide), Option.bind_some, wrap_n (n := v) (by omega), wrap_n (n := aUB A (-1) w) (by omega), if_neg (by omega), Mo_limit_eq hg hW hw, Option.bind_some, wrap_n (n := aLi A w) (by omega), if_neg (by omega), Mo_begin_eq, Option.bind_some]
  unfold Mo_putLimit
  have e1 : (qc q 127 0 128 0 244).1 127 (22 + 3 * w) = ((aNl A w + 16 * aSy A w + 256 * aSt A w + 4096 * aLi A w : Nat) : Int) := by rw [qc_at, if_neg (by omega)]; exact p2
  have hor : (aNl A w + 16 * aSy A w + 256 * aSt A w + 4096 * aLi A w) % 4096 ||| v * 2 ^ 12 = aNl A w + 16 * aSy A w + 256 * aSt A w + 4096 * v := by
    rw [show (aNl A w + 16 * aSy A w + 256 * aSt A w + 4096 * aLi A w) % 4096 = aNl A w + 16 * aSy A w + 256 * aSt A w by omega, Nat.or_comm, Nat.mul_comm v, ← Nat.two_pow_add_eq_or_of_lt (by omega)]
    omega
  rw [p1, ck_in (by omega), ck_in (by omega), Int.toNat_natCast, e1, wand4095 _ (by omega), show (12 : Int) = ((12 : Nat) : Int) from rfl, wshl_n v 12 (by omega) (by omega), wor_n _ _ (by rw [hor]; omega), hor, Option.bind_some]
  have hat : ∀ a k, (qs (qc q 127 0 128 0 244) 127 (22 + 3 * w) ((aNl A w + 16 * aSy A w + 256 * aSt A w + 4096 * v : Nat) : Int)).1 a k = if a = 127 ∧ k = 22 + 3 * w then ((aNl A w + 16 * aSy A w + 256 * aSt A w + 4096 * v : Nat) : Int) else if a = 128 ∧ 0 ≤ k ∧ k < 0 + 244 then q.1 127 (0 + (k - 0)) else q.1 a k := fun a k => rfl
  have hrow : zRM ((qs (qc q 127 0 128 0 244) 127 (22 + 3 * w) ((aNl A w + 16 * aSy A w + 256 * aSt A w + 4096 * v : Nat) : Int)).1 127) (aLim A w v) := by
    refine zRM_lim hg hW hw (fun k hk => ?_) ?_
    · rw [hat, if_neg (by omega), if_neg (by omega)]
    · rw [hat, if_pos ⟨rfl, rfl⟩]
      omega
  obtain ⟨q', r1, r2, r3, r4⟩ := zGM_done h hk (q1 := qs (qc q 127 0 128 0 244) 127 (22 + 3 * w) ((aNl A w + 16 * aSy A w + 256 * aSt A w + 4096 * v : Nat) : Int)) (aLim_wf hW hv) hrow (fun k hk => by rw [hat, if_neg (by omega), if_pos (by omega), Nat.sub_zero, Nat.zero_add]) (by rw [hat, if_neg (by omega), if_neg (by omega)]) (by rw [hat, if_neg (by omega), if_neg (by omega)]) (fun a ha => funext fun k => by rw [hat, if_neg (by omega), if_neg (by omega)]) (v := (aLi A w : Int)) (by omega)
  refine ⟨q', by rw [r1]; rfl, r2, fun a ha => ?_, r3⟩
  rw [r4 a ha]
  funext k
  rw [hat, if_neg (by omega), if_neg (by omega)]
end A3

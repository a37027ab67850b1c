/-! clearLine, setLimit -/
section A3
variable {q : zM} {A : zT9} {hs : List zT9} {sn : Nat → Option zT9} {tx : List Nat}
theorem aEmpL_sz (A : zT9) (l i : Nat) : aSz (aEmpL A l) i = if i = l then 0 else aSz A i := by
  unfold aSz aEmpL
  by_cases h : i = l <;> simp [h]
theorem Ev_clearLine_ok (h : zGX q A hs sn tx) (hk : zOK A hs sn tx) {l : Nat} (hl : l < aL A) (h0 : aSz A l ≠ 0) : ∃ q', Ev_clearLine q (l : Int) = some ((aSz A l : Int), q') ∧ zGX q' (aEmpL A l) (pushH hs A) sn tx ∧ zFX q q' := by
  have hW := hk.1
  have w1 := hW.2.2.2.2.2.1
  have w2 := (hW.2.2.2.2.2.2.2.2.1 l).1
  unfold Ev_clearLine
  rw [Po_has_in h.1 hW hl, Option.bind_some, if_neg one_ne, Po_wordsIn_eq h.1 hW hl, Option.bind_some, wrap_n (by omega), if_neg (by omega)]
  obtain ⟨q1, r1, r2, r3⟩ := record_eq h hk
  obtain ⟨x1, x2, x3, x4, x5, x6, x7⟩ := r2.1
  rw [r1, Option.bind_some, Po_emptyLine_raw x4 w1 hl, Option.bind_some]
  refine ⟨_, rfl, zGX_mut r2 (fun a ha _ => ⟨funext fun k => by rw [qs_at, if_neg (by omega)], rfl⟩) ?_, fun a ha => by rw [← (r3 a (by omega)).1]; funext k; rw [qs_at, if_neg (by omega)]⟩
  refine ⟨?_, ?_, ?_, ?_, fun w hw => ?_, fun i hi => ?_, fun i k hi hk => ?_⟩
  · rw [qs_at, if_neg (by omega)]; exact x1
  · rw [qs_at, if_neg (by omega)]; exact x2
  · rw [qs_at, if_neg (by omega)]; exact x3
  · rw [qs_at, if_neg (by omega)]; exact x4
  · rw [qs_at, if_neg (by omega), qs_at, if_neg (by omega), qs_at, if_neg (by omega), qs_at, if_neg (by omega)]
    exact x5 w hw
  · have hi : i < aL A := hi
    obtain ⟨y1, y2, y3⟩ := x6 i hi
    refine ⟨by rw [qs_at, if_neg (by omega)]; exact y1, by rw [qs_at, if_neg (by omega)]; exact y2, ?_⟩
    rw [qs_at, aEmpL_sz]
    by_cases e : i = l
    · rw [if_pos (by omega), if_pos e]; rfl
    · rw [if_neg (by omega), if_neg e]; exact y3
  · have hi : i < aL A := hi
    rw [aEmpL_sz] at hk
    by_cases e : i = l
    · rw [if_pos e] at hk; exact absurd hk (Nat.not_lt_zero _)
    · rw [if_neg e] at hk
      rw [qs_at, if_neg (by omega)]
      exact x7 i k hi hk
theorem Ev_setLimit_ok (h : zGX q A hs sn tx) (hk : zOK A hs sn tx) {w v : Nat} (hw : w < aN A) (hv : 1 ≤ v ∧ v ≤ 9) (hu : aUB A (-1) w ≤ v) (hn : aLi A w ≠ v) : ∃ q', Ev_setLimit q (w : Int) (v : Int) = some ((aLi A w : Int), q') ∧ zGX q' (aLim A w v) (pushH hs A) sn tx ∧ zFX q q' := by
  have hW := hk.1
  have w1 := hW.1
  have hli := (hW.2.2.2.2.2.2.1 w hw).2.2.2.2.2.2.1
  unfold Ev_setLimit
  rw [Ws_has_in h.1 hW hw, Option.bind_some, if_neg one_ne, wrap_n (n := v) (by omega), if_neg (by omega), if_neg (by omega), Po_linesUsing_eq h.1 hW (by omega), Option.bind_some, wrap_n (n := aUB A (-1) w) (by omega), if_neg (by omega), Ws_limitOf_eq h.1 hW hw, Option.bind_some, wrap_n (n := aLi A w) (by omega), if_neg (by omega)]
  obtain ⟨q1, r1, r2, r3⟩ := record_eq h hk
  rw [r1, Option.bind_some]
  unfold Ws_changeLimit
  rw [Ws_has_in r2.1 hW hw, Option.bind_some, if_neg one_ne, wrap_n (n := w) (by omega), ck_in (by omega), Int.toNat_natCast, Option.bind_some]
  obtain ⟨x1, x2, x3, x4, x5, x6, x7⟩ := r2.1
  refine ⟨_, rfl, zGX_mut r2 (fun a ha _ => ⟨funext fun k => by rw [qs_at, if_neg (by omega)], rfl⟩) ?_, fun a ha => by rw [← (r3 a (by omega)).1]; funext k; rw [qs_at, if_neg (by omega)]⟩
  refine ⟨?_, ?_, ?_, ?_, fun i hi => ?_, fun i hi => ?_, fun i k hi hk => ?_⟩
  · rw [qs_at, if_neg (by omega)]; exact x1
  · rw [qs_at, if_neg (by omega)]; exact x2
  · rw [qs_at, if_neg (by omega)]; exact x3
  · rw [qs_at, if_neg (by omega)]; exact x4
  · obtain ⟨y1, y2, y3, y4, y5⟩ := x5 i hi
    refine ⟨by rw [qs_at, if_neg (by omega)]; exact y1, by rw [qs_at, if_neg (by omega)]; exact y2, by rw [qs_at, if_neg (by omega)]; exact y3, ?_, y5⟩
    rw [qs_at]
    unfold aLi aLim
    by_cases e : i = w
    · rw [if_pos (by omega), if_pos (by omega)]
    · rw [if_neg (by omega), if_neg (by omega)]; exact y4
  · rw [qs_at, if_neg (by omega), qs_at, if_neg (by omega), qs_at, if_neg (by omega)]
    exact x6 i hi
  · rw [qs_at, if_neg (by omega)]
    exact x7 i k hi hk
end A3

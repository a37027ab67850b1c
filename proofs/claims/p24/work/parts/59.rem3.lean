/-! removeWord: the class's lines, and the whole act -/
theorem pkL_cong {f g : Nat → Nat} : ∀ {n : Nat}, (∀ k, k < n → f k = g k) → pkL f n = pkL g n := by
  intro n
  induction n with
  | zero => intro _; rfl
  | succ n ih =>
    intro h
    unfold pkL
    rw [ih (fun k hk => h k (Nat.lt_succ_of_lt hk)), h n (Nat.lt_succ_self n)]
section RM3
variable {q : zM} {A : zT9} {hs : List zT9} {sn : Nat → Option zT9} {tx : List Nat}
theorem forget_L37 (q : zM) {w : Nat} (hw : w < 40) (v2 : Int) (K : Int → zM → Option (Int × zM)) : Po_forgetWord_L37 (w : Int) v2 K 5000 0 q = K 96 (qn q w 96) := by
  refine Eq.trans (by rw [qn_zero q w]; rfl) (for_all (G := fun n i => Po_forgetWord_L37 (w : Int) v2 K n (i : Int) (qn q w i)) (N := 96) (by omega) (fun n i hi => ?_) (fun n => ?_))
  · show Po_forgetWord_L37 _ _ _ (n + 1) _ _ = Po_forgetWord_L37 _ _ _ n ((i + 1 : Nat) : Int) _
    have r : (qn q w i).1 17 i = q.1 17 i := by rw [qn_at, if_neg (fun g => Nat.lt_irrefl _ g.2)]
    rw [Po_forgetWord_L37, wrap_n (n := i) (by omega), if_pos (by omega), ck_in (by omega), Int.toNat_natCast, r, wrap_n (n := w) (by omega), ck_in (by omega), ck_in (by omega)]
    by_cases c : (w : Int) < wrap (q.1 17 i)
    · rw [if_pos c, qn_stepY q w i c]; rfl
    · rw [if_neg c, qn_stepN q w i c]; rfl
  · show Po_forgetWord_L37 _ _ _ (n + 1) _ _ = _
    rw [Po_forgetWord_L37, if_neg (by decide)]
    rfl
theorem forget_L4 (hW : zWF A) (h13 : q.1 13 0 = aL A) (h16 : ∀ l, l < aL A → q.1 16 l = aSz A l) (h17 : ∀ l k, l < aL A → k < aSz A l → q.1 17 (12 * l + k) = aWd A l k) {w : Nat} (hw : w < 40) (K : Int → Int → zM → Option (Int × zM)) : Po_forgetWord_L4 (w : Int) K 5000 0 0 q = K (cntTo (fun l => aUs A l w) (aL A) : Int) (aL A : Int) (qf q A w (aL A)) := by
  have w1 := hW.2.2.2.2.2.1
  refine Eq.trans (by rw [qf_zero q A w]; rfl) (for_all (G := fun n i => Po_forgetWord_L4 (w : Int) K n (cntTo (fun l => aUs A l w) i : Int) (i : Int) (qf q A w i)) (N := aL A) (by omega) (fun n i hi => ?_) (fun n => ?_))
  · show Po_forgetWord_L4 _ _ (n + 1) _ _ _ = Po_forgetWord_L4 _ _ n (cntTo _ (i + 1) : Int) ((i + 1 : Nat) : Int) _
    have e13 : (qf q A w i).1 13 0 = aL A := h13
    have e16 : (qf q A w i).1 16 i = aSz A i := by rw [qf_at, if_neg (fun g => Nat.lt_irrefl _ g.2.1)]; exact h16 i hi
    have e17 : ∀ k, k < aSz A i → (qf q A w i).1 17 (12 * i + k) = aWd A i k := fun k hk => h17 i k hi hk
    have eu := Po_uses_raw hW e13 hi (w := w) (Nat.lt_trans hw (by decide)) e16 e17
    have ey := Po_emptyLine_raw e13 w1 hi
    rw [Po_forgetWord_L4, e13]
    clear h13 h16 h17 e13 e16 e17
    rw [wrap_n (n := i) (by omega), wrap_n (n := aL A) (by omega), if_pos (by omega), eu, Option.bind_some]
    cases hu : aUs A i w with
    | true =>
      rw [if_pos rfl, if_neg one_ne, ey, Option.bind_some, qf_stepY q A w i hu]
      simp [cntTo, hu]
    | false =>
      rw [if_neg (c := false = true) (by simp), if_pos zero_eq, qf_stepN q A w i hu]
      simp [cntTo, hu]
  · show Po_forgetWord_L4 _ _ (n + 1) _ _ _ = _
    have e13 : (qf q A w (aL A)).1 13 0 = aL A := h13
    rw [Po_forgetWord_L4, e13, if_neg (Int.lt_irrefl _)]
theorem Ev_removeWord_ok (h : zGX q A hs sn tx) (hk : zOK A hs sn tx) {w : Nat} (hw : w < aN A) : ∃ q', Ev_removeWord q (w : Int) = some ((cntTo (fun l => aUs A l w) (aL A) : Int), q') ∧ zGX q' (aRem A w) (pushH hs A) sn tx ∧ zFX q q' := by
  have hW := hk.1
  have w1 := hW.1
  have wl := hW.2.2.2.2.2.1
  unfold Ev_removeWord
  rw [Ws_has_in h.1 hW hw, Option.bind_some, if_neg one_ne]
  obtain ⟨q1, r1, r2, r3⟩ := record_eq h hk
  rw [r1, Option.bind_some, Ws_drop_eq r2.1 hW hw, Option.bind_some]
  obtain ⟨x1, x2, x3, x4, x5, x6, x7⟩ := r2.1
  have d1 : ∀ a k, (qd (qs q1 6 0 ((aN A - 1 : Nat) : Int)) w (aN A - 1 - w)).1 a k = if 8 ≤ a ∧ a ≤ 11 ∧ w ≤ k ∧ k < w + (aN A - 1 - w) then (qs q1 6 0 ((aN A - 1 : Nat) : Int)).1 a (k + 1) else (qs q1 6 0 ((aN A - 1 : Nat) : Int)).1 a k := fun a k => rfl
  have d2 : ∀ a k, (qd (qs q1 6 0 ((aN A - 1 : Nat) : Int)) w (aN A - 1 - w)).2 a k = if a = 7 ∧ w ≤ k ∧ k < w + (aN A - 1 - w) then q1.2 7 (k + 1) else q1.2 a k := fun a k => rfl
  generalize qd (qs q1 6 0 ((aN A - 1 : Nat) : Int)) w (aN A - 1 - w) = q2 at d1 d2
  have far : ∀ a, a < 6 ∨ 11 < a → ∀ k, q2.1 a k = q1.1 a k := fun a ha k => by rw [d1, if_neg (by omega), qs_at, if_neg (by omega)]
  unfold Po_forgetWord
  rw [forget_L4 (q := q2) hW (by rw [far 13 (by omega)]; exact x4) (fun l hl => by rw [far 16 (by omega)]; exact (x6 l hl).2.2) (fun l k hl hk => by rw [far 17 (by omega)]; exact x7 l k hl hk) (by omega), forget_L37 _ (by omega)]
  have hat : ∀ a k, (qn (qf q2 A w (aL A)) w 96).1 a k = if a = 17 ∧ k < 96 then (if (w : Int) < wrap (q2.1 17 k) then q2.1 17 k - 1 else q2.1 17 k) else if a = 16 ∧ k < aL A ∧ aUs A k w = true then 0 else q2.1 a k := fun a k => rfl
  have hat2 : (qn (qf q2 A w (aL A)) w 96).2 = q2.2 := rfl
  generalize qn (qf q2 A w (aL A)) w 96 = q3 at hat hat2
  have far3 : ∀ a, a < 6 ∨ 17 < a → q3.1 a = q1.1 a := fun a ha => funext fun k => by rw [hat, if_neg (by omega), if_neg (by omega), far a (by omega)]
  have far4 : ∀ a, 12 ≤ a → a < 16 → ∀ k, q3.1 a k = q1.1 a k := fun a ha hb k => by rw [hat, if_neg (by omega), if_neg (by omega), far a (by omega)]
  refine ⟨q3, rfl, zGX_mut r2 (fun a ha _ => ⟨far3 a (by omega), funext fun k => by rw [hat2, d2, if_neg (by omega)]⟩) ?_, fun a ha => by rw [← (r3 a (by omega)).1, far3 a (by omega)]⟩
  refine ⟨?_, ?_, ?_, ?_, fun i hi => ?_, fun l hl => ⟨?_, ?_, ?_⟩, fun l k hl hk => ?_⟩
  · show q3.1 6 0 = ((aN A - 1 : Nat) : Int)
    rw [hat, if_neg (by omega), if_neg (by omega), d1, if_neg (by omega), qs_at, if_pos ⟨rfl, rfl⟩]
  · exact (far4 12 (by omega) (by omega) 0).trans x2
  · exact (far4 12 (by omega) (by omega) 1).trans x3
  · exact (far4 13 (by omega) (by omega) 0).trans x4
  · have hi : i < aN A - 1 := hi
    have hs : sh1 w i < aN A := by unfold sh1; split <;> omega
    have rd : ∀ a, 8 ≤ a → a ≤ 11 → q3.1 a i = q1.1 a (sh1 w i) := by
      intro a ha hb
      rw [hat, if_neg (by omega), if_neg (by omega), d1]
      unfold sh1
      by_cases c : i < w
      · rw [if_neg (by omega), if_pos c, qs_at, if_neg (by omega)]
      · rw [if_pos (by omega), if_neg c, qs_at, if_neg (by omega)]
    have rd2 : q3.2 7 i = q1.2 7 (sh1 w i) := by
      rw [hat2, d2]
      unfold sh1
      by_cases c : i < w
      · rw [if_neg (by omega), if_pos c]
      · rw [if_pos (by omega), if_neg c]
    obtain ⟨y1, y2, y3, y4, y5⟩ := x5 _ hs
    have hn8 := (hW.2.2.2.2.2.2.1 _ hs).2.1
    refine ⟨(rd 8 (by omega) (by omega)).trans y1, (rd 9 (by omega) (by omega)).trans y2, (rd 10 (by omega) (by omega)).trans y3, (rd 11 (by omega) (by omega)).trans y4, (rd2.trans y5).trans ?_⟩
    show pkL (aLt A (sh1 w i)) (aNl A (sh1 w i)) = pkL (aLt (aRem A w) i) (aNl A (sh1 w i))
    refine pkL_cong (fun k hk => (aRem_lt A w i ?_).symm)
    exact Nat.lt_of_lt_of_le hk hn8
  · exact (far4 14 (by omega) (by omega) l).trans (x6 l hl).1
  · exact (far4 15 (by omega) (by omega) l).trans (x6 l hl).2.1
  · show q3.1 16 l = _
    have hl : l < aL A := hl
    rw [hat, if_neg (by omega), aRem_sz]
    cases hu : aUs A l w with
    | true => rw [if_pos ⟨rfl, hl, rfl⟩]; rfl
    | false => rw [if_neg (by simp), far 16 (by omega)]; exact (x6 l hl).2.2
  · show q3.1 17 (12 * l + k) = _
    have hl : l < aL A := hl
    rw [aRem_sz] at hk
    have hk : k < aSz A l := by
      cases hu : aUs A l w with
      | true => rw [hu] at hk; exact absurd hk (by simp)
      | false => rw [hu] at hk; exact hk
    obtain ⟨s1, s2⟩ := hW.2.2.2.2.2.2.2.2.1 l
    have s3 := (s2 k hk).1
    have e := x7 l k hl hk
    have e' : q1.1 17 (12 * l + k) = aWd A l k := e
    clear e
    rw [hat, if_pos ⟨rfl, by clear e'; omega⟩, far 17 (by clear e'; omega), e', aRem_wd]
    clear e'
    rw [wrap_n (by omega)]
    unfold dn1
    by_cases c : w < aWd A l k
    · rw [if_pos (by omega), if_pos c]; omega
    · rw [if_neg (by omega), if_neg c]
end RM3

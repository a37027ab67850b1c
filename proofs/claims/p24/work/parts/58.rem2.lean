/-! removeWord: the class -/
def qd (q : zM) (w i : Nat) : zM := (fun a k => if 8 ≤ a ∧ a ≤ 11 ∧ w ≤ k ∧ k < w + i then q.1 a (k + 1) else q.1 a k, fun a k => if a = 7 ∧ w ≤ k ∧ k < w + i then q.2 7 (k + 1) else q.2 a k)
theorem qd_at (q : zM) (w i a k : Nat) : (qd q w i).1 a k = if 8 ≤ a ∧ a ≤ 11 ∧ w ≤ k ∧ k < w + i then q.1 a (k + 1) else q.1 a k := rfl
theorem qd_at2 (q : zM) (w i a k : Nat) : (qd q w i).2 a k = if a = 7 ∧ w ≤ k ∧ k < w + i then q.2 7 (k + 1) else q.2 a k := rfl
theorem qd_zero (q : zM) (w : Nat) : qd q w 0 = q := by
  refine zM_ext (fun a k => ?_) (fun a k => ?_)
  · rw [qd_at, if_neg (by omega)]
  · rw [qd_at2, if_neg (by omega)]
theorem ql_at1 (q : zM) (o k : Nat) (v : Int64) (a j : Nat) : (ql q o k v).1 a j = q.1 a j := rfl
theorem ql_at2 (q : zM) (o k : Nat) (v : Int64) (a j : Nat) : (ql q o k v).2 a j = if a = o ∧ j = k then v else q.2 a j := rfl
theorem qd_step (q : zM) (w i : Nat) : qs (qs (qs (qs (ql (qd q w i) 7 (w + i) ((qd q w i).2 7 (w + i + 1))) 8 (w + i) ((qd q w i).1 8 (w + i + 1))) 9 (w + i) ((qd q w i).1 9 (w + i + 1))) 10 (w + i) ((qd q w i).1 10 (w + i + 1))) 11 (w + i) ((qd q w i).1 11 (w + i + 1)) = qd q w (i + 1) := by
  have r : ∀ a, (qd q w i).1 a (w + i + 1) = q.1 a (w + i + 1) := fun a => by rw [qd_at, if_neg (by omega)]
  have r2 : (qd q w i).2 7 (w + i + 1) = q.2 7 (w + i + 1) := by rw [qd_at2, if_neg (by omega)]
  rw [r, r, r, r, r2]
  refine zM_ext (fun a k => ?_) (fun a k => ?_)
  · rw [qs_at, qs_at, qs_at, qs_at, ql_at1, qd_at, qd_at]
    by_cases h11 : a = 11 ∧ k = w + i
    · rw [if_pos h11, if_pos (by omega), h11.1, h11.2]
    · rw [if_neg h11]
      by_cases h10 : a = 10 ∧ k = w + i
      · rw [if_pos h10, if_pos (by omega), h10.1, h10.2]
      · rw [if_neg h10]
        by_cases h9 : a = 9 ∧ k = w + i
        · rw [if_pos h9, if_pos (by omega), h9.1, h9.2]
        · rw [if_neg h9]
          by_cases h8 : a = 8 ∧ k = w + i
          · rw [if_pos h8, if_pos (by omega), h8.1, h8.2]
          · rw [if_neg h8]
            by_cases h : 8 ≤ a ∧ a ≤ 11 ∧ w ≤ k ∧ k < w + i
            · rw [if_pos h, if_pos (by omega)]
            · rw [if_neg h, if_neg (by omega)]
  · rw [qs_at2, qs_at2, qs_at2, qs_at2, ql_at2, qd_at2, qd_at2]
    by_cases h7 : a = 7 ∧ k = w + i
    · rw [if_pos h7, if_pos (by omega), h7.2]
    · rw [if_neg h7]
      by_cases h : a = 7 ∧ w ≤ k ∧ k < w + i
      · rw [if_pos h, if_pos (by omega)]
      · rw [if_neg h, if_neg (by omega)]
theorem Ws_drop_eq {q : zM} {A : zT9} (h : zRX q 5 A) (hW : zWF A) {w : Nat} (hw : w < aN A) : Ws_drop q (w : Int) = some (qd (qs q 6 0 ((aN A - 1 : Nat) : Int)) w (aN A - 1 - w)) := by
  have w1 := hW.1
  unfold Ws_drop
  have h6 : q.1 6 0 = aN A := h.1
  rw [Ws_has_in h hW hw, Option.bind_some, if_neg one_ne, h6, show ((aN A : Int) - 1) = ((aN A - 1 : Nat) : Int) by omega]
  clear h6 h
  unfold Ws_drop_b19
  generalize hm : aN A - 1 = m
  have hwm : w ≤ m := by omega
  have hm40 : m < 40 := by omega
  clear hm hw w1 hW
  have hz := qd_zero (qs q 6 0 (m : Int)) w
  refine Eq.trans (by rw [hz]; rfl) (for_all (G := fun n i => Ws_drop_L21 (w : Int) (fun _ q_15 => some q_15) n ((w + i : Nat) : Int) (qd (qs q 6 0 (m : Int)) w i)) (N := m - w) (by omega) (fun n i hi => ?_) (fun n => ?_))
  · have e6 : (qd (qs q 6 0 (m : Int)) w i).1 6 0 = m := rfl
    have e := qd_step (qs q 6 0 (m : Int)) w i
    generalize qd (qs q 6 0 (m : Int)) w i = Q at e6 e
    generalize qd (qs q 6 0 (m : Int)) w (i + 1) = Q' at e
    show Ws_drop_L21 _ _ (n + 1) _ _ = Ws_drop_L21 _ _ n ((w + (i + 1) : Nat) : Int) _
    rw [← e, Ws_drop_L21, e6]
    clear e6 e
    rw [show (((w + i : Nat) : Int) + 1) = ((w + i + 1 : Nat) : Int) by omega, wrap_n (n := w + i) (by omega), wrap_n (n := m) (by omega), wrap_n (n := w + i + 1) (by omega), if_pos (by omega), ck_in (by omega), ck_in (by omega), ck_in (by omega), ck_in (by omega), ck_in (by omega), ck_in (by omega), ck_in (by omega), ck_in (by omega), ck_in (by omega), ck_in (by omega), Int.toNat_natCast, Int.toNat_natCast]
    rfl
  · have e6 : (qd (qs q 6 0 (m : Int)) w (m - w)).1 6 0 = m := rfl
    show Ws_drop_L21 _ _ (n + 1) ((w + (m - w) : Nat) : Int) _ = _
    rw [Ws_drop_L21, e6, show w + (m - w) = m by omega, if_neg (by omega)]
/-- the lines that use the word emptied, so many of them -/
def qf (q : zM) (A : zT9) (w i : Nat) : zM := (fun a k => if a = 16 ∧ k < i ∧ aUs A k w = true then 0 else q.1 a k, q.2)
theorem qf_at (q : zM) (A : zT9) (w i a k : Nat) : (qf q A w i).1 a k = if a = 16 ∧ k < i ∧ aUs A k w = true then 0 else q.1 a k := rfl
theorem qf_zero (q : zM) (A : zT9) (w : Nat) : qf q A w 0 = q := by
  refine zM_ext (fun a k => ?_) (fun a k => rfl)
  rw [qf_at, if_neg (by omega)]
theorem qf_stepY (q : zM) (A : zT9) (w i : Nat) (h : aUs A i w = true) : qs (qf q A w i) 16 i 0 = qf q A w (i + 1) := by
  refine zM_ext (fun a k => ?_) (fun a k => rfl)
  rw [qs_at, qf_at, qf_at]
  by_cases h1 : a = 16 ∧ k = i
  · rw [if_pos h1, if_pos ⟨h1.1, by omega, by rw [h1.2]; exact h⟩]
  · rw [if_neg h1]
    by_cases h2 : a = 16 ∧ k < i ∧ aUs A k w = true
    · rw [if_pos h2, if_pos ⟨h2.1, by omega, h2.2.2⟩]
    · rw [if_neg h2, if_neg (fun g => h2 ⟨g.1, by omega, g.2.2⟩)]
theorem qf_stepN (q : zM) (A : zT9) (w i : Nat) (h : aUs A i w = false) : qf q A w i = qf q A w (i + 1) := by
  refine zM_ext (fun a k => ?_) (fun a k => rfl)
  rw [qf_at, qf_at]
  by_cases h2 : a = 16 ∧ k < i ∧ aUs A k w = true
  · rw [if_pos h2, if_pos ⟨h2.1, by omega, h2.2.2⟩]
  · rw [if_neg h2, if_neg (fun g => by
      have : k ≠ i := fun e => by rw [e, h] at g; exact absurd g.2.2 (by simp)
      exact h2 ⟨g.1, by omega, g.2.2⟩)]
/-- the words' numbers behind the removed one, one less, so many of them -/
def qn (q : zM) (w i : Nat) : zM := (fun a k => if a = 17 ∧ k < i then (if (w : Int) < wrap (q.1 17 k) then q.1 17 k - 1 else q.1 17 k) else q.1 a k, q.2)
theorem qn_at (q : zM) (w i a k : Nat) : (qn q w i).1 a k = if a = 17 ∧ k < i then (if (w : Int) < wrap (q.1 17 k) then q.1 17 k - 1 else q.1 17 k) else q.1 a k := rfl
theorem qn_zero (q : zM) (w : Nat) : qn q w 0 = q := by
  refine zM_ext (fun a k => ?_) (fun a k => rfl)
  rw [qn_at, if_neg (by omega)]
theorem qn_stepY (q : zM) (w i : Nat) (h : (w : Int) < wrap (q.1 17 i)) : qs (qn q w i) 17 i (q.1 17 i - 1) = qn q w (i + 1) := by
  refine zM_ext (fun a k => ?_) (fun a k => rfl)
  rw [qs_at, qn_at, qn_at]
  by_cases h1 : a = 17 ∧ k = i
  · obtain ⟨rfl, rfl⟩ := h1
    rw [if_pos ⟨rfl, rfl⟩, if_pos ⟨rfl, Nat.lt_succ_self _⟩, if_pos h]
  · rw [if_neg h1]
    by_cases h2 : a = 17 ∧ k < i
    · rw [if_pos h2, if_pos (c := a = 17 ∧ k < i + 1) ⟨h2.1, Nat.lt_succ_of_lt h2.2⟩]
    · rw [if_neg h2, if_neg (c := a = 17 ∧ k < i + 1) (fun g => by clear h; omega)]
theorem qn_stepN (q : zM) (w i : Nat) (h : ¬ (w : Int) < wrap (q.1 17 i)) : qn q w i = qn q w (i + 1) := by
  refine zM_ext (fun a k => ?_) (fun a k => rfl)
  rw [qn_at, qn_at]
  by_cases h1 : a = 17 ∧ k = i
  · obtain ⟨rfl, rfl⟩ := h1
    rw [if_neg (c := 17 = 17 ∧ k < k) (fun g => Nat.lt_irrefl _ g.2), if_pos ⟨rfl, Nat.lt_succ_self _⟩, if_neg h]
  · by_cases h2 : a = 17 ∧ k < i
    · rw [if_pos h2, if_pos (c := a = 17 ∧ k < i + 1) ⟨h2.1, Nat.lt_succ_of_lt h2.2⟩]
    · rw [if_neg h2, if_neg (c := a = 17 ∧ k < i + 1) (fun g => by clear h; omega)]

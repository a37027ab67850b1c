/-! setEdges: the new state -/
def aEdg (A : zT9) (n : Nat) (tx : List Nat) : zT9 := fun k i => if k = 7 then 0 else if k = 0 ∧ i = 3 then n else if k = 5 then tx.getD i 0 else if k = 6 then tx.getD (n + 1 + i) 0 else A k i
theorem aEdg_wf {A : zT9} (hA : zWF A) {tx : List Nat} (he : tEdge tx) : zWF (aEdg A (tx.length / 2) tx) := by
  obtain ⟨a1, a2, a3, a4, a5, a6, a7, a8, -, -⟩ := hA
  obtain ⟨e1, e2, e3, e4, e5⟩ := he
  have e00 : aEdg A (tx.length / 2) tx 0 0 = A 0 0 := rfl
  have e01 : aEdg A (tx.length / 2) tx 0 1 = A 0 1 := rfl
  have e02 : aEdg A (tx.length / 2) tx 0 2 = A 0 2 := rfl
  have e03 : aEdg A (tx.length / 2) tx 0 3 = tx.length / 2 := rfl
  have k1 : aEdg A (tx.length / 2) tx 1 = A 1 := rfl
  have k2 : aEdg A (tx.length / 2) tx 2 = A 2 := rfl
  have k3 : aEdg A (tx.length / 2) tx 3 = A 3 := rfl
  have k4 : aEdg A (tx.length / 2) tx 4 = A 4 := rfl
  have k5 : ∀ l, aEdg A (tx.length / 2) tx 5 l = tx.getD l 0 := fun _ => rfl
  have k6 : ∀ l, aEdg A (tx.length / 2) tx 6 l = tx.getD (tx.length / 2 + 1 + l) 0 := fun _ => rfl
  have k7 : ∀ l, aEdg A (tx.length / 2) tx 7 l = 0 := fun _ => rfl
  have k9 : aEdg A (tx.length / 2) tx 9 = A 9 := rfl
  unfold zWF aN aB aS aL aNl aSy aSt aLi aFe aLe aLt aSz at *
  rw [e00, e01, e02, e03, k1, k2, k3, k4, k9]
  refine ⟨a1, a2, a3, a4, e2, e3, a7, fun l hl => ?_, fun l => ⟨by rw [k7]; omega, fun k hk => absurd hk (by rw [k7]; omega)⟩, fun l _ => k7 l⟩
  have x1 := e5 l (by omega) (by omega)
  have x2 := e5 (tx.length / 2 + 1 + l) (by omega) (by omega)
  unfold isLt at x1 x2
  simp only [decide_eq_true_eq] at x1 x2
  rw [k5, k6]
  exact ⟨x1.1, x1.2, x2.1, x2.2⟩
/-- the class's edges, so many letters of them written -/
def qe (q : zM) (n : Nat) (tx : List Nat) (i : Nat) : zM := (fun a k => if a = 14 ∧ k < i then (tx.getD k 0 : Int) else if a = 15 ∧ k < i then (tx.getD (n + 1 + k) 0 : Int) else q.1 a k, q.2)
theorem qe_at (q : zM) (n : Nat) (tx : List Nat) (i a k : Nat) : (qe q n tx i).1 a k = if a = 14 ∧ k < i then (tx.getD k 0 : Int) else if a = 15 ∧ k < i then (tx.getD (n + 1 + k) 0 : Int) else q.1 a k := rfl
theorem qe_zero (q : zM) (n : Nat) (tx : List Nat) : qe q n tx 0 = q := by
  refine zM_ext (fun a k => ?_) (fun a k => rfl)
  rw [qe_at, if_neg (by omega), if_neg (by omega)]
theorem qe_step (q : zM) (n : Nat) (tx : List Nat) (i : Nat) : qs (qs (qe q n tx i) 14 i (tx.getD i 0 : Int)) 15 i (tx.getD (n + 1 + i) 0 : Int) = qe q n tx (i + 1) := by
  refine zM_ext (fun a k => ?_) (fun a k => rfl)
  rw [qs_at, qs_at, qe_at, qe_at]
  by_cases h1 : a = 15 ∧ k = i
  · rw [if_pos h1, if_neg (by omega), if_pos (by omega), h1.2]
  · rw [if_neg h1]
    by_cases h2 : a = 14 ∧ k = i
    · rw [if_pos h2, if_pos (by omega), h2.2]
    · rw [if_neg h2]
      by_cases h3 : a = 14 ∧ k < i
      · rw [if_pos h3, if_pos (by omega)]
      · rw [if_neg h3, if_neg (c := a = 14 ∧ k < i + 1) (by omega)]
        by_cases h4 : a = 15 ∧ k < i
        · rw [if_pos h4, if_pos (by omega)]
        · rw [if_neg h4, if_neg (by omega)]
/-- the reference's edges, so many letters of them written -/
def qm (q : zM) (n : Nat) (tx : List Nat) (i : Nat) : zM := (fun a k => if a = 127 ∧ 4 ≤ k ∧ k < 4 + i then ((if k - 4 < n then tx.getD (k - 4) 0 else 0 : Nat) : Int) else if a = 127 ∧ 12 ≤ k ∧ k < 12 + i then ((if k - 12 < n then tx.getD (n + 1 + (k - 12)) 0 else 0 : Nat) : Int) else q.1 a k, q.2)
theorem qm_at (q : zM) (n : Nat) (tx : List Nat) (i a k : Nat) : (qm q n tx i).1 a k = if a = 127 ∧ 4 ≤ k ∧ k < 4 + i then ((if k - 4 < n then tx.getD (k - 4) 0 else 0 : Nat) : Int) else if a = 127 ∧ 12 ≤ k ∧ k < 12 + i then ((if k - 12 < n then tx.getD (n + 1 + (k - 12)) 0 else 0 : Nat) : Int) else q.1 a k := rfl
theorem qm_zero (q : zM) (n : Nat) (tx : List Nat) : qm q n tx 0 = q := by
  refine zM_ext (fun a k => ?_) (fun a k => rfl)
  rw [qm_at, if_neg (by omega), if_neg (by omega)]
theorem qm_step (q : zM) (n : Nat) (tx : List Nat) {i : Nat} (hi : i < 8) {x y : Int} (hx : x = ((if i < n then tx.getD i 0 else 0 : Nat) : Int)) (hy : y = ((if i < n then tx.getD (n + 1 + i) 0 else 0 : Nat) : Int)) : qs (qs (qm q n tx i) 127 (4 + i) x) 127 (12 + i) y = qm q n tx (i + 1) := by
  refine zM_ext (fun a k => ?_) (fun a k => rfl)
  rw [qs_at, qs_at, qm_at, qm_at]
  by_cases h1 : a = 127 ∧ k = 12 + i
  · rw [if_pos h1, if_neg (by omega), if_pos (by omega), hy, h1.2, show 12 + i - 12 = i by omega]
  · rw [if_neg h1]
    by_cases h2 : a = 127 ∧ k = 4 + i
    · rw [if_pos h2, if_pos (by omega), hx, h2.2, show 4 + i - 4 = i by omega]
    · rw [if_neg h2]
      by_cases h3 : a = 127 ∧ 4 ≤ k ∧ k < 4 + i
      · rw [if_pos h3, if_pos (c := a = 127 ∧ 4 ≤ k ∧ k < 4 + (i + 1)) (by omega)]
      · rw [if_neg h3, if_neg (c := a = 127 ∧ 4 ≤ k ∧ k < 4 + (i + 1)) (by omega)]
        by_cases h4 : a = 127 ∧ 12 ≤ k ∧ k < 12 + i
        · rw [if_pos h4, if_pos (c := a = 127 ∧ 12 ≤ k ∧ k < 12 + (i + 1)) (by omega)]
        · rw [if_neg h4, if_neg (by omega)]
section ED2
variable {q : zM} {A : zT9} {hs : List zT9} {sn : Nat → Option zT9} {tx : List Nat}
theorem Po_madeLines_any {N : Nat} (hN : q.1 13 0 = N) (h8 : N ≤ 8) : Po_madeLines q = some (cntTo (fun l => decide (0 < wrap (q.1 16 l))) N : Int) := by
  unfold Po_madeLines
  refine for_all (G := fun n i => Po_madeLines_L4 q (fun v _ => some v) n (cntTo (fun l => decide (0 < wrap (q.1 16 l))) i : Int) (i : Int)) (N := N) (by omega) (fun n i hi => ?_) (fun n => ?_)
  · show Po_madeLines_L4 _ _ (n + 1) _ _ = Po_madeLines_L4 _ _ n (cntTo _ (i + 1) : Int) ((i + 1 : Nat) : Int)
    rw [Po_madeLines_L4, hN, wrap_n (n := i) (by omega), wrap_n (n := N) (by omega), if_pos (by omega), Po_wordsIn_raw hN h8 hi rfl, Option.bind_some]
    by_cases h1 : 0 < wrap (q.1 16 i)
    · rw [if_pos h1]
      simp [cntTo, h1]
    · rw [if_neg h1]
      simp [cntTo, h1]
  · show Po_madeLines_L4 _ _ (n + 1) _ _ = _
    rw [Po_madeLines_L4, hN, if_neg (by omega)]
theorem Po_emptyAllLines_any {N : Nat} (hN : q.1 13 0 = N) (h8 : N ≤ 8) : ∃ c, Po_emptyAllLines q = some (c, qz q 16 0 N) := by
  unfold Po_emptyAllLines
  rw [Po_madeLines_any hN h8, Option.bind_some]
  generalize (cntTo (fun l => decide (0 < wrap (q.1 16 l))) N : Int) = c
  refine ⟨c, Eq.trans (by rw [qz_zero q 16 0]; rfl) (for_all (G := fun n i => Po_emptyAllLines_L7 c (fun _ q_5 => some (c, q_5)) n (i : Int) (qz q 16 0 i)) (N := N) (by omega) (fun n i hi => ?_) (fun n => ?_))⟩
  · show Po_emptyAllLines_L7 _ _ (n + 1) _ _ = Po_emptyAllLines_L7 _ _ n ((i + 1 : Nat) : Int) _
    have e3 : (qz q 16 0 i).1 13 0 = N := by rw [qz_at, if_neg (by omega)]; exact hN
    have e := qz_step q 16 0 i
    rw [Nat.zero_add] at e
    rw [Po_emptyAllLines_L7, e3, wrap_n (n := i) (by omega), wrap_n (n := N) (by omega), if_pos (by omega), Po_emptyLine_raw e3 h8 hi, Option.bind_some, e]
    rfl
  · show Po_emptyAllLines_L7 _ _ (n + 1) _ _ = _
    have e3 : (qz q 16 0 N).1 13 0 = N := by rw [qz_at, if_neg (by omega)]; exact hN
    rw [Po_emptyAllLines_L7, e3, if_neg (by omega)]
theorem Po_changeEdges_eq (ht : q.1 2 1 = tx.length) (hc : ∀ i, i < tx.length → q.1 3 i = tx.getD i 0) (hl : tx.length ≤ 40) (he : tEdge tx) : Po_changeEdges q ((tx.length / 2 : Nat) : Int) = some (qz (qe (qs q 13 0 ((tx.length / 2 : Nat) : Int)) (tx.length / 2) tx (tx.length / 2)) 16 0 (tx.length / 2)) := by
  obtain ⟨e1, e2, e3, -, -⟩ := he
  have en : tx.length = 2 * (tx.length / 2) + 1 := by omega
  generalize tx.length / 2 = n at *
  unfold Po_changeEdges
  rw [wrap_n (n := n) (by omega), if_neg (by omega), if_neg (by omega)]
  unfold Po_changeEdges_b17
  have hz := qe_zero (qs q 13 0 (n : Int)) n tx
  refine Eq.trans (by rw [hz]; rfl) (for_all (G := fun m i => Po_changeEdges_L19 (n : Int) (fun _ q_9 => (Po_emptyAllLines q_9).bind fun r => some r.2) m (i : Int) (qe (qs q 13 0 (n : Int)) n tx i)) (N := n) (by omega) (fun m i hi => ?_) (fun m => ?_))
  · show Po_changeEdges_L19 _ _ (m + 1) _ _ = Po_changeEdges_L19 _ _ m ((i + 1 : Nat) : Int) _
    have t1 : (qe (qs q 13 0 (n : Int)) n tx i).1 2 1 = tx.length := by rw [qe_at, if_neg (by omega), if_neg (by omega), qs_at, if_neg (by omega)]; exact ht
    have t2 : ∀ k, k < tx.length → (qe (qs q 13 0 (n : Int)) n tx i).1 3 k = tx.getD k 0 := fun k hk => by rw [qe_at, if_neg (by omega), if_neg (by omega), qs_at, if_neg (by omega)]; exact hc k hk
    have t3 : (qs (qe (qs q 13 0 (n : Int)) n tx i) 14 i (tx.getD i 0 : Int)).1 2 1 = tx.length := by rw [qs_at, if_neg (by omega)]; exact t1
    have t4 : ∀ k, k < tx.length → (qs (qe (qs q 13 0 (n : Int)) n tx i) 14 i (tx.getD i 0 : Int)).1 3 k = tx.getD k 0 := fun k hk => by rw [qs_at, if_neg (by omega)]; exact t2 k hk
    have e := qe_step (qs q 13 0 (n : Int)) n tx i
    rw [Po_changeEdges_L19, wrap_n (n := i) (by omega), wrap_n (n := n) (by omega), if_pos (by omega), Te_codeAt_eq t1 t2 hl (by omega), Option.bind_some, ck_in (by omega), Int.toNat_natCast, show ((n : Int) + 1 + (i : Int)) = ((n + 1 + i : Nat) : Int) by omega, Te_codeAt_eq t3 t4 hl (by omega), Option.bind_some, ck_in (by omega), e]
    rfl
  · show Po_changeEdges_L19 _ _ (m + 1) _ _ = _
    have e3' : (qe (qs q 13 0 (n : Int)) n tx n).1 13 0 = n := by rw [qe_at, if_neg (by omega), if_neg (by omega), qs_at, if_pos ⟨rfl, rfl⟩]
    obtain ⟨c, hcc⟩ := Po_emptyAllLines_any e3' e3
    rw [Po_changeEdges_L19, if_neg (by omega), hcc, Option.bind_some]
end ED2

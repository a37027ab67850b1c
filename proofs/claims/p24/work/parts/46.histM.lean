/-! copies of cells; the reference's history and snapshots -/
theorem zM_ext {q q' : zM} (h1 : ∀ a k, q.1 a k = q'.1 a k) (h2 : ∀ a k, q.2 a k = q'.2 a k) : q = q' := Prod.ext (funext fun a => funext fun k => h1 a k) (funext fun a => funext fun k => h2 a k)
theorem qc_zero (q : zM) (o sp d dp : Nat) : qc q o sp d dp 0 = q := by
  refine zM_ext (fun a k => ?_) (fun a k => rfl)
  show cp2 q.1 o sp d dp 0 a k = _
  unfold cp2
  rw [if_neg (by omega)]
theorem qc_at (q : zM) (o sp d dp n a k : Nat) : (qc q o sp d dp n).1 a k = if a = d ∧ dp ≤ k ∧ k < dp + n then q.1 o (sp + (k - dp)) else q.1 a k := rfl
theorem qs_at (q : zM) (o k : Nat) (v : Int) (a j : Nat) : (qs q o k v).1 a j = if a = o ∧ j = k then v else q.1 a j := rfl
theorem qc_step (q : zM) {o sp d dp i : Nat} (h : o ≠ d ∨ dp ≤ sp) : qs (qc q o sp d dp i) d (dp + i) ((qc q o sp d dp i).1 o (sp + i)) = qc q o sp d dp (i + 1) := by
  refine zM_ext (fun a k => ?_) (fun a k => rfl)
  rw [qs_at, qc_at, qc_at, qc_at, if_neg (c := o = d ∧ dp ≤ sp + i ∧ sp + i < dp + i) (by omega)]
  by_cases h1 : a = d ∧ k = dp + i
  · rw [if_pos h1, if_pos (by omega), h1.2, show dp + i - dp = i by omega]
  · rw [if_neg h1]
    by_cases h2 : a = d ∧ dp ≤ k ∧ k < dp + i
    · rw [if_pos h2, if_pos (by omega)]
    · rw [if_neg h2, if_neg (by omega)]
def zA0 : zT9 := fun _ _ => 0
/-- the history with one more state -/
def pushH (h : List zT9) (A : zT9) : List zT9 := (if h.length = 5 then h.tail else h) ++ [A]
theorem pushH_len {h : List zT9} (A : zT9) (hl : h.length ≤ 5) : (pushH h A).length ≤ 5 ∧ (pushH h A).length = (if h.length = 5 then 5 else h.length + 1) := by
  unfold pushH
  split <;> simp <;> omega
section HM
variable {q : zM} {A : zT9} {hs : List zT9} {sn : Nat → Option zT9} {tx : List Nat}
end HM

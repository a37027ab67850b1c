/-- what a loop that ors a test over all places has found -/
def anyTo (p : Nat → Bool) : Nat → Bool
  | 0 => false
  | n + 1 => anyTo p n || p n
theorem anyTo_fst (p : Nat → Bool) (n : Nat) : anyTo p n = decide (fstTo p n < n) := by
  induction n with
  | zero => rfl
  | succ n ih =>
    have hle := fstTo_le p n
    unfold anyTo fstTo
    rw [ih]
    by_cases h : fstTo p n < n
    · rw [if_pos h]
      simp [h]
      omega
    · rw [if_neg h]
      cases hp : p n <;> simp [h]
def zb (b : Bool) : Int := if b = true then 1 else 0
theorem wrap_zb (b : Bool) : wrap (zb b) = zb b := by cases b <;> rfl

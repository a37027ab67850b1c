/-! line(.., 5): the reference; both together -/
section RM
variable {q : zM} {A : zT9} {hs : List zT9} {sn : Nat → Option zT9} {tx : List Nat} {l : Nat}
theorem ar_mr {i n b s B : Nat} (h1 : i < n) (h2 : n ≤ 40) (h3 : b < B) (h4 : B ≤ 12) (h5 : b + s ≤ B) : wrap (i : Int) = i ∧ wrap (n : Int) = n ∧ (i : Int) < (n : Int) ∧ ((0 : Int) ≤ (i : Int) ∧ (i : Int) < 40) ∧ wrap ((b : Int) + (s : Int)) = ((b + s : Nat) : Int) ∧ ((0 : Int) ≤ ((b + s : Nat) : Int) ∧ ((b + s : Nat) : Int) < 13) ∧ wrap (B : Int) = B ∧ wrap (b : Int) = b ∧ ((0 : Int) ≤ (b : Int) ∧ (b : Int) < 13) ∧ (0 < (b : Int) ↔ b ≠ 0) := ⟨wrap_n (by omega), wrap_n (by omega), by omega, by omega, wrap_n (n := b + s) (by omega), by omega, wrap_n (by omega), wrap_n (by omega), by omega, by omega⟩
theorem qs_qs (q : zM) (o k : Nat) (x y : Int) : qs (qs q o k x) o k y = qs q o k y := by
  refine zM_ext (fun a j => ?_) (fun a j => rfl)
  rw [qs_at, qs_at, qs_at]
  by_cases c : a = o ∧ j = k
  · rw [if_pos c, if_pos c]
  · rw [if_neg c, if_neg c, if_neg c]
theorem min_min {a b : Nat} : min 1000 (min 1000 a + b) = min 1000 (a + b) := by omega
end RM

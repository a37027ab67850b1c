/-! the two constructors, run by the kernel; the claim as a pure statement over cells -/
def zE0 : zE := (0, fun _ => 0)
theorem lstep_E {E E' : zE} {m : Nat} (h : m < 124) (f : zF) : lstep E m f = lstep E' m f := by
  have hb : Nat.ble 124 m = false := by
    cases hb : Nat.ble 124 m with
    | true => exact absurd (Nat.ble_eq.mp hb) (by omega)
    | false => rfl
  unfold lstep
  rw [hb]
  rfl
theorem axn_E {E E' : zE} (hM : ∀ m, m < 126 → okM m = true) (hCW : ∀ m, m < 125 → okCb m = true ∧ okW m = true) : ∀ (n m : Nat) (f : zF), m < 124 → axn E n m f = axn E' n m f := by
  intro n
  induction n with
  | zero => intro m f _; rfl
  | succ n ih =>
    intro m f hm
    rw [axn, axn, lstep_E (E := E) (E' := E') (by omega) f]
    cases hs : lstep E' m f with
    | none => rfl
    | some q =>
      match q, hs with
      | .inl f', _ => exact ih m f' hm
      | .inr (.inr r), _ => rfl
      | .inr (.inl c), hs =>
        dsimp only
        rw [ih c.1 _ ((zcall (hM m (by omega)) hCW hs).2.1 (by omega))]
        cases axn E' n c.1 (entF c.2.1 c.2.2.1) with
        | none => rfl
        | some r => exact ih m _ hm
/-- the class's constructor -/
def zA : Option zR := axn zE0 4000 89 (entF [vR (some 1)] (nuH zh0 (.inl 9)))
def zHA : zH := (zA.getD (none, zh0)).2
theorem zA_ok : zA.map (fun r => r.1) = some none := by decide +kernel
theorem zHA_ok : zHA.1 = SH0 ∧ zHA.2.2.2 = MR0 := by decide +kernel

/-! setMetre, clearLine, setLimit: both sides -/
section A2
variable {q : zM} {A : zT9} {hs : List zT9} {sn : Nat → Option zT9} {tx : List Nat}
theorem pow_cap {b : Nat} (hb : b ≤ 12) : (2 : Nat) ^ b ≤ 4096 := by
  have : (2 : Nat) ^ b ≤ 2 ^ 12 := Nat.pow_le_pow_right (by decide) hb
  omega
theorem Ev_setMetre_bad {v1 v2 : Int} (h1 : -2147483648 ≤ v1 ∧ v1 < 2147483648) (h2 : -2147483648 ≤ v2 ∧ v2 < 2147483648) (hb : ¬ (2 ≤ v1 ∧ v1 ≤ 12 ∧ 0 ≤ v2 ∧ v2 < 2 ^ v1.toNat)) : Ev_setMetre q v1 v2 = some (-2, q) := by
  unfold Ev_setMetre
  rw [wrap_eq h1, wrap_eq h2]
  by_cases c1 : v1 < 2
  · rw [if_pos c1]
  · rw [if_neg c1]
    by_cases c2 : 12 < v1
    · rw [if_pos c2]
    · rw [if_neg c2]
      by_cases c3 : v2 < 0
      · rw [if_pos c3]
      · obtain ⟨b, rfl⟩ : ∃ b : Nat, v1 = (b : Int) := ⟨v1.toNat, by omega⟩
        have hp := pow_cap (b := b) (by omega)
        rw [if_neg c3, show (1 : Int) = ((1 : Nat) : Int) from rfl, wshl_n 1 b (by omega) (by omega), wrap_n (by omega), if_neg]
        rw [Int.toNat_natCast] at hb
        have e : ((2 ^ b : Nat) : Int) = (2 : Int) ^ b := by simp
        omega
theorem Ev_setMetre_ok (h : zGX q A hs sn tx) (hk : zOK A hs sn tx) {b s : Nat} (hb : 2 ≤ b ∧ b ≤ 12) (hs2 : s < 2 ^ b) : ∃ q', Ev_setMetre q (b : Int) (s : Int) = some ((cntTo (fun l => decide (0 < aSz A l)) (aL A) : Int), q') ∧ zGX q' (aMet A b s) (pushH hs A) sn tx ∧ zFX q q' := by
  have hW := hk.1
  have hp := pow_cap hb.2
  unfold Ev_setMetre
  rw [wrap_n (n := b) (by omega), wrap_n (n := s) (by omega), if_neg (by omega), if_neg (by omega), if_neg (by omega), show wshl (1 : Int) (b : Int) = ((1 * 2 ^ b : Nat) : Int) from wshl_n 1 b (by omega) (by omega), wrap_n (by omega), if_pos (by omega)]
  obtain ⟨q1, r1, r2, r3⟩ := record_eq h hk
  rw [r1, Option.bind_some]
  unfold Me_change_12 Me_change_12_b5
  rw [Option.bind_some]
  have hX1 := r2.1
  have w1 := hW.2.2.2.2.2.1
  have e13 : (qs (qs q1 12 0 (b : Int)) 12 1 (s : Int)).1 13 0 = aL A := by rw [qs_at, if_neg (by omega), qs_at, if_neg (by omega)]; exact hX1.2.2.2.1
  rw [Po_emptyAllLines_eq e13 w1 (f := aSz A) (fun l hl => by rw [qs_at, if_neg (by omega), qs_at, if_neg (by omega)]; exact (hX1.2.2.2.2.2.1 l hl).2.2) (fun l => (hW.2.2.2.2.2.2.2.2.1 l).1), Option.bind_some]
  have hat : ∀ a k, (qz (qs (qs q1 12 0 (b : Int)) 12 1 (s : Int)) 16 0 (aL A)).1 a k = if a = 16 ∧ 0 ≤ k ∧ k < 0 + aL A then 0 else if a = 12 ∧ k = 1 then (s : Int) else if a = 12 ∧ k = 0 then (b : Int) else q1.1 a k := fun a k => rfl
  refine ⟨_, rfl, zGX_mut r2 (fun a ha _ => ⟨funext fun k => by rw [hat, if_neg (by omega), if_neg (by omega), if_neg (by omega)], rfl⟩) ?_, fun a ha => by rw [← (r3 a (by omega)).1]; funext k; rw [hat, if_neg (by omega), if_neg (by omega), if_neg (by omega)]⟩
  obtain ⟨x1, x2, x3, x4, x5, x6, x7⟩ := hX1
  refine ⟨?_, ?_, ?_, ?_, fun w hw => ?_, fun l hl => ?_, fun l k hl hk => absurd hk (Nat.not_lt_zero _)⟩
  · rw [hat, if_neg (by omega), if_neg (by omega), if_neg (by omega)]; exact x1
  · rw [hat, if_neg (by omega), if_neg (by omega), if_pos (by omega)]; rfl
  · rw [hat, if_neg (by omega), if_pos (by omega)]; rfl
  · rw [hat, if_neg (by omega), if_neg (by omega), if_neg (by omega)]; exact x4
  · rw [hat, if_neg (by omega), if_neg (by omega), if_neg (by omega), hat, if_neg (by omega), if_neg (by omega), if_neg (by omega), hat, if_neg (by omega), if_neg (by omega), if_neg (by omega), hat, if_neg (by omega), if_neg (by omega), if_neg (by omega)]
    exact x5 w hw
  · have hl : l < aL A := hl
    obtain ⟨y1, y2, y3⟩ := x6 l hl
    refine ⟨?_, ?_, ?_⟩
    · rw [hat, if_neg (by omega), if_neg (by omega), if_neg (by omega)]; exact y1
    · rw [hat, if_neg (by omega), if_neg (by omega), if_neg (by omega)]; exact y2
    · rw [hat, if_pos (by omega)]; rfl
end A2

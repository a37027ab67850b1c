/-! bits: the machine's operations over small whole numbers -/
theorem bv_n (a : Nat) : (Int32.ofInt (a : Int)).toBitVec = BitVec.ofNat 32 a := by
  rw [Int32.toBitVec_ofInt]
  apply BitVec.eq_of_toNat_eq
  rw [BitVec.toNat_ofInt, BitVec.toNat_ofNat]
  omega
theorem toInt_bv {x : Int32} {n : Nat} (h : x.toBitVec = BitVec.ofNat 32 n) (hn : n < 2147483648) : x.toInt = n := by
  rw [← Int32.toInt_toBitVec, h, BitVec.toInt_eq_toNat_of_lt]
  · rw [BitVec.toNat_ofNat]
    omega
  · rw [BitVec.toNat_ofNat]
    omega
theorem wand_n (a b : Nat) (ha : a < 2147483648) : wand (a : Int) (b : Int) = ((a &&& b : Nat) : Int) := by
  unfold wand
  refine toInt_bv ?_ (Nat.lt_of_le_of_lt Nat.and_le_left ha)
  rw [Int32.toBitVec_and, bv_n, bv_n, BitVec.ofNat_and]
theorem wor_n (a b : Nat) (h : a ||| b < 2147483648) : wor (a : Int) (b : Int) = ((a ||| b : Nat) : Int) := by
  unfold wor
  refine toInt_bv ?_ h
  rw [Int32.toBitVec_or, bv_n, bv_n, BitVec.ofNat_or]
theorem amt32 : ∀ k : Fin 32, ((Int32.ofInt (k.val : Int) &&& 31).toBitVec.smod 32) = BitVec.ofNat 32 k.val := by decide
theorem wshr_n (a k : Nat) (ha : a < 2147483648) (hk : k < 32) : wshr (a : Int) (k : Int) = ((a / 2 ^ k : Nat) : Int) := by
  unfold wshr
  show (Int32.shiftRight _ _).toInt = _
  unfold Int32.shiftRight
  rw [← Int32.toInt_toBitVec]
  show (BitVec.sshiftRight' _ _).toInt = _
  rw [amt32 ⟨k, hk⟩]
  unfold BitVec.sshiftRight'
  rw [BitVec.toInt_sshiftRight, bv_n, BitVec.toNat_ofNat, Nat.mod_eq_of_lt (by omega), BitVec.toInt_eq_toNat_of_lt (by rw [BitVec.toNat_ofNat]; omega), BitVec.toNat_ofNat, Nat.mod_eq_of_lt (by omega)]
  show ((a >>> k : Nat) : Int) = _
  rw [Nat.shiftRight_eq_div_pow]
theorem wshl_n (a k : Nat) (h : a * 2 ^ k < 2147483648) (hk : k < 32) : wshl (a : Int) (k : Int) = ((a * 2 ^ k : Nat) : Int) := by
  unfold wshl
  refine toInt_bv ?_ h
  show (Int32.shiftLeft _ _).toBitVec = _
  unfold Int32.shiftLeft
  show _ <<< _ = _
  rw [amt32 ⟨k, hk⟩, bv_n]
  apply BitVec.eq_of_toNat_eq
  rw [BitVec.shiftLeft_eq', BitVec.toNat_shiftLeft, BitVec.toNat_ofNat, BitVec.toNat_ofNat, BitVec.toNat_ofNat, Nat.mod_eq_of_lt (a := k) (by omega), Nat.shiftLeft_eq]
  rw [Nat.mod_mul_mod]
theorem amtU : ∀ k : Fin 32, (((Int32.ofInt (k.val : Int)).toUInt32 &&& Int32.toUInt32 31).toBitVec % 32) = BitVec.ofNat 32 k.val := by decide
theorem wushr_n (a k : Nat) (ha : a < 2147483648) (hk : k < 32) : wushr (a : Int) (k : Int) = ((a / 2 ^ k : Nat) : Int) := by
  unfold wushr
  have hle : a / 2 ^ k ≤ a := Nat.div_le_self _ _
  refine toInt_bv ?_ (Nat.lt_of_le_of_lt hle ha)
  show (Int32.ofInt (a : Int)).toBitVec >>> (((Int32.ofInt (k : Int)).toUInt32 &&& Int32.toUInt32 31).toBitVec % 32) = _
  rw [amtU ⟨k, hk⟩, bv_n]
  apply BitVec.eq_of_toNat_eq
  rw [BitVec.ushiftRight_eq', BitVec.toNat_ushiftRight, BitVec.toNat_ofNat, BitVec.toNat_ofNat, BitVec.toNat_ofNat, Nat.mod_eq_of_lt (a := k) (by omega), Nat.mod_eq_of_lt (a := a) (by omega), Nat.shiftRight_eq_div_pow, Nat.mod_eq_of_lt (by omega)]
theorem wand_mask (a k : Nat) (ha : a < 2147483648) : wand (a : Int) ((2 ^ k - 1 : Nat) : Int) = ((a % 2 ^ k : Nat) : Int) := by
  rw [wand_n a _ ha, Nat.and_two_pow_sub_one_eq_mod]
theorem wand15 (a : Nat) (ha : a < 2147483648) : wand (a : Int) (15 : Int) = ((a % 16 : Nat) : Int) := wand_mask a 4 ha
theorem wand255 (a : Nat) (ha : a < 2147483648) : wand (a : Int) (255 : Int) = ((a % 256 : Nat) : Int) := wand_mask a 8 ha
theorem wand31 (a : Nat) (ha : a < 2147483648) : wand (a : Int) (31 : Int) = ((a % 32 : Nat) : Int) := wand_mask a 5 ha
theorem wand4095 (a : Nat) (ha : a < 2147483648) : wand (a : Int) (4095 : Int) = ((a % 4096 : Nat) : Int) := wand_mask a 12 ha
/-! loops that count up -/
theorem for_to {α : Type} {G : Nat → Nat → Option α} {k : Nat} (hs : ∀ n i, i < k → G (n + 1) i = G n (i + 1)) : ∀ (j m : Nat), j ≤ k → G (m + j) (k - j) = G m k := by
  intro j
  induction j with
  | zero => intro m _; rfl
  | succ j ih =>
    intro m hj
    have h := hs (m + j) (k - (j + 1)) (by omega)
    rw [show m + (j + 1) = m + j + 1 by omega, h, show k - (j + 1) + 1 = k - j by omega]
    exact ih m (by omega)
theorem for_all {α : Type} {G : Nat → Nat → Option α} {N : Nat} {R : Option α} (hN : N < 5000) (hs : ∀ n i, i < N → G (n + 1) i = G n (i + 1)) (he : ∀ n, G (n + 1) N = R) : G 5000 0 = R := by
  have h := for_to hs N (4999 - N + 1) (Nat.le_refl _)
  rw [Nat.sub_self, show 4999 - N + 1 + N = 5000 by omega] at h
  rw [h]
  exact he _
theorem for_hit {α : Type} {G : Nat → Nat → Option α} {k : Nat} {R : Option α} (hk : k < 5000) (hs : ∀ n i, i < k → G (n + 1) i = G n (i + 1)) (he : ∀ n, G (n + 1) k = R) : G 5000 0 = R := for_all hk hs he
def cntTo (p : Nat → Bool) : Nat → Nat
  | 0 => 0
  | n + 1 => cntTo p n + (if p n then 1 else 0)
theorem cntTo_le (p : Nat → Bool) (n : Nat) : cntTo p n ≤ n := by
  induction n with
  | zero => exact Nat.le_refl _
  | succ n ih =>
    unfold cntTo
    split <;> omega
theorem cntTo_congr {p p' : Nat → Bool} {n : Nat} (h : ∀ i, i < n → p i = p' i) : cntTo p n = cntTo p' n := by
  induction n with
  | zero => rfl
  | succ n ih =>
    unfold cntTo
    rw [ih (fun i hi => h i (by omega)), h n (by omega)]
/-- the first place below n where p holds, or n -/
def fstTo (p : Nat → Bool) : Nat → Nat
  | 0 => 0
  | n + 1 => if fstTo p n < n then fstTo p n else if p n then n else n + 1
theorem fstTo_le (p : Nat → Bool) (n : Nat) : fstTo p n ≤ n := by
  induction n with
  | zero => exact Nat.le_refl _
  | succ n ih =>
    unfold fstTo
    split
    · omega
    · split <;> omega
theorem fstTo_spec (p : Nat → Bool) (n : Nat) : (∀ i, i < fstTo p n → p i = false) ∧ (fstTo p n < n → p (fstTo p n) = true) := by
  induction n with
  | zero => exact ⟨fun i h => absurd h (Nat.not_lt_zero _), fun h => absurd h (Nat.lt_irrefl _)⟩
  | succ n ih =>
    have hle := fstTo_le p n
    unfold fstTo
    split
    · next h => exact ⟨ih.1, fun _ => ih.2 h⟩
    · next h =>
      have e : fstTo p n = n := by omega
      rw [e] at ih
      split
      · next hp => exact ⟨ih.1, fun _ => hp⟩
      · next hp =>
        refine ⟨fun i hi => ?_, fun h => absurd h (Nat.lt_irrefl _)⟩
        rcases Nat.lt_or_ge i n with q | q
        · exact ih.1 i q
        · have : i = n := by omega
          subst this
          simpa using hp

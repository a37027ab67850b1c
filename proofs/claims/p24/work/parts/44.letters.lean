/-! letters: packed in a long (the class), in two ints (the reference) -/
theorem pk4_lt {f : Nat → Nat} {n : Nat} (h : ∀ i, i < n → f i < 256) : pk4 f n < 2 ^ (8 * n) := by
  induction n with
  | zero => simp [pk4]
  | succ n ih =>
    have h1 := ih (fun i hi => h i (by omega))
    have h2 := h n (by omega)
    unfold pk4
    have e : 2 ^ (8 * (n + 1)) = 256 * 2 ^ (8 * n) := by rw [show 8 * (n + 1) = 8 + 8 * n by omega, Nat.pow_add]
    rw [e]
    have h3 : f n * 2 ^ (8 * n) ≤ 255 * 2 ^ (8 * n) := Nat.mul_le_mul_right _ (by omega)
    omega
theorem pk4_byte {f : Nat → Nat} {n k : Nat} (h : ∀ i, i < n → f i < 256) (hk : k < n) : pk4 f n / 2 ^ (8 * k) % 256 = f k := by
  induction n with
  | zero => exact absurd hk (Nat.not_lt_zero _)
  | succ n ih =>
    unfold pk4
    have h2 := h n (by omega)
    rcases Nat.lt_or_ge k n with q | q
    · have e : 2 ^ (8 * n) = 2 ^ (8 * k) * (256 * 2 ^ (8 * (n - k - 1))) := by
        rw [show 8 * n = 8 * k + (8 + 8 * (n - k - 1)) by omega, Nat.pow_add, Nat.pow_add]
      rw [e, show f n * (2 ^ (8 * k) * (256 * 2 ^ (8 * (n - k - 1)))) = 2 ^ (8 * k) * (256 * (f n * 2 ^ (8 * (n - k - 1)))) by
        rw [Nat.mul_left_comm, Nat.mul_left_comm (f n) 256], Nat.add_mul_div_left _ _ (Nat.two_pow_pos _), Nat.add_mul_mod_self_left]
      exact ih (fun i hi => h i (by omega)) q
    · have e : k = n := by omega
      subst e
      have h1 := pk4_lt (f := f) (n := k) (fun i hi => h i (by omega))
      rw [Nat.mul_comm (f k), Nat.add_mul_div_left _ _ (Nat.two_pow_pos _), Nat.div_eq_of_lt h1, Nat.zero_add, Nat.mod_eq_of_lt h2]
theorem bv64_n (a : Nat) : (Int64.ofInt (a : Int)).toBitVec = BitVec.ofNat 64 a := by
  rw [Int64.toBitVec_ofInt]
  apply BitVec.eq_of_toNat_eq
  rw [BitVec.toNat_ofInt, BitVec.toNat_ofNat]
  omega
theorem wi2l_n (a : Nat) (ha : a < 2147483648) : (wi2l (a : Int)).toBitVec = BitVec.ofNat 64 a := by
  unfold wi2l
  have e : (Int32.ofInt (a : Int)).toInt64 = Int64.ofInt (a : Int) := by
    apply Int64.toInt_inj.mp
    rw [Int32.toInt_toInt64, toInt_wrap, wrap_n ha, ← Int64.toInt_toBitVec, bv64_n, BitVec.toInt_eq_toNat_of_lt]
    · rw [BitVec.toNat_ofNat]
      omega
    · rw [BitVec.toNat_ofNat]
      omega
  rw [e, bv64_n]
theorem amt64 : ∀ k : Fin 64, (((Int32.ofInt (k.val : Int)).toInt64 &&& 63).toBitVec.smod 64) = BitVec.ofNat 64 k.val := by decide
theorem amtU64 : ∀ k : Fin 64, (((Int32.ofInt (k.val : Int)).toInt64.toUInt64 &&& Int64.toUInt64 63).toBitVec % 64) = BitVec.ofNat 64 k.val := by decide
theorem wlshl_n {x : Int64} {a k : Nat} (hx : x.toBitVec = BitVec.ofNat 64 a) (hk : k < 64) : (wlshl x (k : Int)).toBitVec = BitVec.ofNat 64 (a * 2 ^ k) := by
  unfold wlshl
  show (Int64.shiftLeft _ _).toBitVec = _
  unfold Int64.shiftLeft
  show _ <<< _ = _
  rw [amt64 ⟨k, hk⟩, hx]
  apply BitVec.eq_of_toNat_eq
  rw [BitVec.shiftLeft_eq', BitVec.toNat_shiftLeft, BitVec.toNat_ofNat, BitVec.toNat_ofNat, BitVec.toNat_ofNat, Nat.mod_eq_of_lt (a := k) (by omega), Nat.shiftLeft_eq, Nat.mod_mul_mod]
theorem wlushr_n {x : Int64} {a k : Nat} (hx : x.toBitVec = BitVec.ofNat 64 a) (ha : a < 2 ^ 64) (hk : k < 64) : (wlushr x (k : Int)).toBitVec = BitVec.ofNat 64 (a / 2 ^ k) := by
  unfold wlushr
  show x.toBitVec >>> (((Int32.ofInt (k : Int)).toInt64.toUInt64 &&& Int64.toUInt64 63).toBitVec % 64) = _
  rw [amtU64 ⟨k, hk⟩, hx]
  have hle : a / 2 ^ k ≤ a := Nat.div_le_self _ _
  apply BitVec.eq_of_toNat_eq
  rw [BitVec.ushiftRight_eq', BitVec.toNat_ushiftRight, BitVec.toNat_ofNat, BitVec.toNat_ofNat, BitVec.toNat_ofNat, Nat.mod_eq_of_lt (a := k) (by omega), Nat.mod_eq_of_lt (a := a) (by omega), Nat.shiftRight_eq_div_pow, Nat.mod_eq_of_lt (by omega)]
theorem pkL_bv {f : Nat → Nat} {n : Nat} (hn : n ≤ 8) (h : ∀ i, i < n → f i < 256) : (pkL f n).toBitVec = BitVec.ofNat 64 (pk4 f n) := by
  induction n with
  | zero => rfl
  | succ n ih =>
    have h1 := pk4_lt (f := f) (n := n) (fun i hi => h i (by omega))
    have h2 := h n (by omega)
    unfold pkL pk4
    have e : ((8 : Int) * (n : Int)) = ((8 * n : Nat) : Int) := by omega
    rw [Int64.toBitVec_or, ih (by omega) (fun i hi => h i (by omega)), e, wlshl_n (wi2l_n (f n) (by omega)) (by omega), ← BitVec.ofNat_or]
    congr 1
    rw [Nat.or_comm, Nat.mul_comm (f n), ← Nat.two_pow_add_eq_or_of_lt h1, Nat.add_comm]
theorem pkL_byte {f : Nat → Nat} {n k : Nat} (hn : n ≤ 8) (h : ∀ i, i < n → f i < 256) (hk : k < n) : wand (wl2i (wlushr (pkL f n) ((8 : Int) * (k : Int)))) (255 : Int) = (f k : Int) := by
  have h1 := pk4_lt (f := f) (n := n) h
  have h64 : (2 : Nat) ^ (8 * n) ≤ 2 ^ 64 := Nat.pow_le_pow_right (by decide) (by omega)
  have e : ((8 : Int) * (k : Int)) = ((8 * k : Nat) : Int) := by omega
  have hb := wlushr_n (k := 8 * k) (pkL_bv hn h) (by omega) (by omega)
  have h2 := h k hk
  unfold wand wl2i
  rw [e, ofI_wrap]
  refine toInt_bv ?_ (by omega)
  rw [Int32.toBitVec_and]
  have ht : (wlushr (pkL f n) ((8 * k : Nat) : Int)).toInt32.toBitVec = BitVec.ofNat 32 (pk4 f n / 2 ^ (8 * k)) := by
    show BitVec.signExtend 32 _ = _
    rw [hb]
    apply BitVec.eq_of_toNat_eq
    rw [BitVec.signExtend_eq_setWidth_of_le _ (by decide), BitVec.toNat_setWidth, BitVec.toNat_ofNat, BitVec.toNat_ofNat]
    omega
  rw [ht, show (Int32.ofInt 255).toBitVec = BitVec.ofNat 32 255 from rfl, ← BitVec.ofNat_and]
  congr 1
  rw [show 255 = 2 ^ 8 - 1 from rfl, Nat.and_two_pow_sub_one_eq_mod]
  exact pk4_byte h hk
theorem pkL_inj {f g : Nat → Nat} {n m : Nat} (hn : n ≤ 8) (hm : m ≤ 8) (hf : ∀ i, i < n → 1 ≤ f i ∧ f i < 256) (hg : ∀ i, i < m → 1 ≤ g i ∧ g i < 256) : pkL f n = pkL g m ↔ n = m ∧ ∀ i, i < n → f i = g i := by
  have b1 := pkL_bv hn (fun i hi => (hf i hi).2)
  have b2 := pkL_bv hm (fun i hi => (hg i hi).2)
  have l1 := pk4_lt (fun i hi => (hf i hi).2)
  have l2 := pk4_lt (fun i hi => (hg i hi).2)
  have p1 : (2 : Nat) ^ (8 * n) ≤ 2 ^ 64 := Nat.pow_le_pow_right (by decide) (by omega)
  have p2 : (2 : Nat) ^ (8 * m) ≤ 2 ^ 64 := Nat.pow_le_pow_right (by decide) (by omega)
  constructor
  · intro h
    have he : pk4 f n = pk4 g m := by
      have h1 : (pkL f n).toBitVec.toNat = (pkL g m).toBitVec.toNat := by rw [h]
      rw [b1, b2, BitVec.toNat_ofNat, BitVec.toNat_ofNat] at h1
      omega
    have lt_of : ∀ {f g : Nat → Nat} {n m : Nat}, (∀ i, i < n → 1 ≤ f i ∧ f i < 256) → (∀ i, i < m → 1 ≤ g i ∧ g i < 256) → pk4 f n = pk4 g m → n ≤ m := by
      intro f g n m hf hg he
      rcases Nat.lt_or_ge m n with q | q
      · exfalso
        have hb := pk4_byte (f := f) (k := m) (fun i hi => (hf i hi).2) q
        rw [he, Nat.div_eq_of_lt (pk4_lt (fun i hi => (hg i hi).2))] at hb
        have := (hf m q).1
        simp at hb
        omega
      · exact q
    have hnm : n = m := Nat.le_antisymm (lt_of hf hg he) (lt_of hg hf he.symm)
    subst hnm
    refine ⟨rfl, fun i hi => ?_⟩
    rw [← pk4_byte (fun i hi => (hf i hi).2) hi, he, pk4_byte (fun i hi => (hg i hi).2) hi]
  · rintro ⟨rfl, h⟩
    clear b1 b2 l1 l2 p1 p2 hn hm hf hg
    induction n with
    | zero => rfl
    | succ n ih =>
      unfold pkL
      rw [ih (fun i hi => h i (by omega)), h n (by omega)]
theorem wdiv4 : ∀ k : Fin 8, wdiv (k.val : Int) (4 : Int) = ((k.val / 4 : Nat) : Int) ∧ wrem (k.val : Int) (4 : Int) = ((k.val % 4 : Nat) : Int) := by decide
section LT
variable {q : zM} {A : zT9}
theorem lt_rng (hW : zWF A) {w k : Nat} (hw : w < aN A) (hk : k < aNl A w) : 97 ≤ aLt A w k ∧ aLt A w k ≤ 122 := (hW.2.2.2.2.2.2.1 w hw).2.2.2.2.2.2.2 k hk
theorem Ws_letterOf_eq (h : zRX q 5 A) (hW : zWF A) {w : Nat} (hw : w < aN A) {v : Int} (hv : -2147483648 ≤ v ∧ v < 2147483648) : Ws_letterOf q (w : Int) v = some (if 0 ≤ v ∧ v < aNl A w then (aLt A w v.toNat : Int) else -1) := by
  have w1 := hW.1
  have h8 := (hW.2.2.2.2.2.2.1 w hw).2.1
  obtain ⟨x1, x2, x3, x4, x5⟩ := h.2.2.2.2.1 w hw
  unfold Ws_letterOf
  rw [Ws_has_in h hW hw, Option.bind_some, if_neg one_ne, wrap_eq hv]
  by_cases h1 : v < 0
  · rw [if_pos h1, if_neg (by omega)]
  · rw [if_neg h1, wrap_n (by omega), ck_in (by omega), Int.toNat_natCast, show q.1 8 w = aNl A w from x1, wrap_n (by omega)]
    by_cases h2 : v < (aNl A w : Int)
    · have e : v = ((v.toNat : Nat) : Int) := by omega
      rw [if_pos h2, if_pos ⟨by omega, h2⟩, ck_in (by omega), show q.2 7 w = pkL (aLt A w) (aNl A w) from x5, e, pkL_byte h8 (fun i hi => by have := lt_rng hW hw hi; omega) (by omega), Int.toNat_natCast]
    · rw [if_neg h2, if_neg (by omega)]
theorem Ws_firstLetterOf_eq (h : zRX q 5 A) (hW : zWF A) {w : Nat} (hw : w < aN A) : Ws_firstLetterOf q (w : Int) = some (aLt A w 0 : Int) := by
  have h1 := (hW.2.2.2.2.2.2.1 w hw).1
  unfold Ws_firstLetterOf
  rw [Ws_letterOf_eq h hW hw (by decide), if_pos (by omega)]
  rfl
theorem Ws_lastLetterOf_eq (h : zRX q 5 A) (hW : zWF A) {w : Nat} (hw : w < aN A) : Ws_lastLetterOf q (w : Int) = some (aLt A w (aNl A w - 1) : Int) := by
  have h1 := (hW.2.2.2.2.2.2.1 w hw).1
  have h8 := (hW.2.2.2.2.2.2.1 w hw).2.1
  unfold Ws_lastLetterOf
  rw [Ws_letterCountOf_eq h hW hw, Option.bind_some, Ws_letterOf_eq h hW hw (by omega), if_pos (by omega), show ((aNl A w : Int) - 1).toNat = aNl A w - 1 by omega]
  rfl
theorem pk4_lt31 {f : Nat → Nat} {n : Nat} (hn : n ≤ 4) (h : ∀ i, i < n → f i ≤ 127) : pk4 f n < 2147483648 := by
  match n, hn with
  | 0, _ => simp [pk4]
  | 1, _ => have := h 0 (by omega); simp [pk4]; omega
  | 2, _ => have := h 0 (by omega); have := h 1 (by omega); simp [pk4]; omega
  | 3, _ => have := h 0 (by omega); have := h 1 (by omega); have := h 2 (by omega); simp [pk4]; omega
  | 4, _ => have := h 0 (by omega); have := h 1 (by omega); have := h 2 (by omega); have := h 3 (by omega); simp [pk4]; omega
end LT

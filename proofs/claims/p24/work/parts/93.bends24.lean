/-! p24: the law's small helpers: low, beat, bends -/
theorem bm_id {x : Int} (h0 : 0 ≤ x) (h1 : x < 2147483648) : Int.bmod x (2 ^ 32) = x := Int.bmod_eq_of_le (by omega) (by omega)
theorem wrem_n {a b : Nat} (ha : a < 2147483648) (hb : b < 2147483648) (hb0 : 0 < b) : wrem (a : Int) (b : Int) = ((a % b : Nat) : Int) := by
  have ea : (Int32.ofInt (a : Int)).toInt = (a : Int) := by rw [toInt_wrap, wrap_n ha]
  have eb : (Int32.ofInt (b : Int)).toInt = (b : Int) := by rw [toInt_wrap, wrap_n hb]
  have hdm := Nat.div_add_mod a b
  have hle : a / b ≤ a := Nat.div_le_self _ _
  have hml : b * (a / b) ≤ a := Nat.mul_div_le a b
  unfold wrem
  rw [Int32.toInt_sub, Int32.toInt_mul, Int32.toInt_div, ea, eb, show Int.tdiv (a : Int) (b : Int) = ((a / b : Nat) : Int) from rfl]
  clear ea eb
  generalize a / b = d at *
  generalize a % b = r at *
  have e1 : (d : Int) * (b : Int) = ((b * d : Nat) : Int) := by rw [Nat.mul_comm, Int.natCast_mul]
  have e2 : (a : Int) - ((b * d : Nat) : Int) = (r : Int) := by omega
  rw [bm_id (x := (d : Int)) (by omega) (by omega), e1]
  generalize b * d = m at *
  rw [bm_id (x := (m : Int)) (by omega) (by omega), e2, bm_id (by omega) (by omega)]
theorem wand_pos (v : Int) : 0 ≤ wand v 2147483647 ∧ wand v 2147483647 < 2147483648 := by
  unfold wand
  have e : ((Int32.ofInt v &&& Int32.ofInt 2147483647).toBitVec).toNat ≤ 2147483647 := by
    rw [Int32.toBitVec_and, BitVec.toNat_and]
    exact Nat.le_trans Nat.and_le_right (by decide)
  rw [← Int32.toInt_toBitVec, BitVec.toInt_eq_toNat_of_lt (by omega)]
  omega
/-- the law's low(v, n) -/
def lo (v : Int) (n : Nat) : Nat := (wand v 2147483647).toNat % n
theorem lo_lt (v : Int) {n : Nat} (h : 0 < n) : lo v n < n := Nat.mod_lt _ h
theorem Lw_low_eq (q : zM) (v : Int) {n : Nat} (h0 : 0 < n) (h1 : n < 2147483648) : Lw_low q v (n : Int) = some (lo v n : Int) := by
  obtain ⟨p1, p2⟩ := wand_pos v
  unfold Lw_low lo
  rw [wrap_n h1, if_neg (by omega)]
  obtain ⟨k, hk⟩ : ∃ k : Nat, wand v 2147483647 = (k : Int) := ⟨(wand v 2147483647).toNat, by omega⟩
  rw [hk] at p2 ⊢
  rw [wrem_n (by omega) h1 h0, Int.toNat_natCast]
theorem bit_n {a k : Nat} (ha : a < 2147483648) (hk : k < 32) : wand (wshr (a : Int) (k : Int)) 1 = ((a / 2 ^ k % 2 : Nat) : Int) := by
  have hle : a / 2 ^ k ≤ a := Nat.div_le_self _ _
  rw [wshr_n a k ha hk, show (1 : Int) = ((1 : Nat) : Int) from rfl, wand_n _ 1 (by omega), Nat.and_one_is_mod]
theorem bits_eq : ∀ {n x y : Nat}, x < 2 ^ n → y < 2 ^ n → (∀ k, k < n → x / 2 ^ k % 2 = y / 2 ^ k % 2) → x = y := by
  intro n
  induction n with
  | zero => intro x y hx hy _; rw [Nat.pow_zero] at hx hy; omega
  | succ n ih =>
    intro x y hx hy h
    rw [Nat.pow_succ] at hx hy
    have h0 := h 0 (by omega)
    rw [Nat.pow_zero, Nat.div_one, Nat.div_one] at h0
    have h1 := ih (x := x / 2) (y := y / 2) (by omega) (by omega) (fun k hk => by
      have := h (k + 1) (by omega)
      rw [Nat.pow_succ, Nat.mul_comm, ← Nat.div_div_eq_div_mul, ← Nat.div_div_eq_div_mul] at this
      exact this)
    omega
/-- the k-th stress of a word and the metre's beat there differ -/
def unl (A : zT9) (w b k : Nat) : Bool := decide (aSt A w / 2 ^ k % 2 ≠ aS A / 2 ^ (b + k) % 2)
theorem aFr_bit (A : zT9) {b n k : Nat} (hk : k < n) : aFr A b n / 2 ^ k % 2 = aS A / 2 ^ (b + k) % 2 := by
  unfold aFr
  have e : 2 ^ n = 2 ^ k * (2 * 2 ^ (n - k - 1)) := by
    rw [← Nat.mul_assoc, ← Nat.pow_succ, ← Nat.pow_add]
    congr 1
    omega
  rw [e, Nat.mod_mul_right_div_self, Nat.mod_mul_right_mod, Nat.div_div_eq_div_mul, ← Nat.pow_add]
theorem cntTo_zero {p : Nat → Bool} {n : Nat} : cntTo p n = 0 ↔ ∀ i, i < n → p i = false := by
  induction n with
  | zero => exact ⟨fun _ i h => absurd h (Nat.not_lt_zero _), fun _ => rfl⟩
  | succ n ih =>
    show cntTo p n + (if p n = true then 1 else 0) = 0 ↔ _
    constructor
    · intro h i hi
      by_cases e : i = n
      · subst e
        cases hp : p i with
        | false => rfl
        | true => rw [hp, if_pos rfl] at h; omega
      · exact ih.mp (by omega) i (by omega)
    · intro h
      rw [ih.mpr (fun i hi => h i (by omega)), h n (by omega)]
      rfl
theorem unl_zero {A : zT9} (hW : zWF A) {w b : Nat} (hw : w < aN A) : cntTo (unl A w b) (aSy A w) = 0 ↔ aBd A w b = 0 := by
  have hs := (hW.2.2.2.2.2.2.1 w hw).2.2.2.2.1
  have hb : aBd A w b = 0 ↔ aFr A b (aSy A w) = aSt A w := by
    unfold aBd
    by_cases c : aFr A b (aSy A w) = aSt A w
    · rw [if_pos c]; exact ⟨fun _ => c, fun _ => rfl⟩
    · rw [if_neg c]; exact ⟨fun h => absurd h (by decide), fun h => absurd h c⟩
  rw [hb, cntTo_zero]
  constructor
  · intro h
    refine bits_eq (n := aSy A w) (Nat.mod_lt _ (Nat.two_pow_pos _)) hs (fun k hk => ?_)
    rw [aFr_bit A hk]
    have := of_decide_eq_false (h k hk)
    omega
  · intro h k hk
    refine decide_eq_false (fun g => g ?_)
    rw [← aFr_bit A hk, h]
section BE
variable {q : zM} {A : zT9}
theorem Lw_beat_eq (h : zRX q 5 A) (hW : zWF A) {k : Nat} (hk : k < 32) : Lw_beat q (k : Int) = some ((aS A / 2 ^ k % 2 : Nat) : Int) := by
  have := aS_lt hW
  unfold Lw_beat
  rw [x_count5 h hW, Option.bind_some, bit_n (by omega) hk]
theorem Lw_stress_eq (h : zRX q 5 A) (hW : zWF A) {w k : Nat} (hw : w < aN A) (hk : k < 32) : Lw_stress q (w : Int) (k : Int) = some ((aSt A w / 2 ^ k % 2 : Nat) : Int) := by
  have := aSt_lt hW hw
  unfold Lw_stress
  rw [x_word2 h hW hw, Option.bind_some, bit_n (by omega) hk]
theorem ar_be {i n b : Nat} (hi : i < n) (hn : n ≤ 4) (hb : b ≤ 12) : wrap (i : Int) = i ∧ wrap (n : Int) = n ∧ (i : Int) < (n : Int) ∧ (b : Int) + (i : Int) = ((b + i : Nat) : Int) ∧ b + i < 32 ∧ i < 32 := ⟨wrap_n (by omega), wrap_n (by omega), by omega, by omega, by omega, by omega⟩
theorem Lw_bends_eq (h : zRX q 5 A) (hW : zWF A) {w b : Nat} (hw : w < aN A) (hb : b ≤ 12) : Lw_bends q (w : Int) (b : Int) = some (if aFitB A w b = true then (aBd A w b : Int) else -1) := by
  obtain ⟨hst, hs4, hs1⟩ := aSt_lt hW hw
  have hB := hW.2.2.1
  have hz := unl_zero hW hw (b := b)
  have hc := cntTo_le (unl A w b) (aSy A w)
  unfold Lw_bends
  rw [x_word1 h hW hw, Option.bind_some, x_count4 h hW, Option.bind_some, show (b : Int) + (aSy A w : Int) = ((b + aSy A w : Nat) : Int) by omega, wrap_n (n := aB A) (by omega), wrap_n (n := b + aSy A w) (by omega)]
  by_cases c : b + aSy A w ≤ aB A
  · rw [if_neg (by omega)]
    have hl : ∀ (K : Int → Int → Option Int), Lw_bends_L26 q (w : Int) (b : Int) (aSy A w : Int) K 5000 0 0 = K (cntTo (unl A w b) (aSy A w) : Int) (aSy A w : Int) := by
      intro K
      refine for_all (G := fun n i => Lw_bends_L26 q (w : Int) (b : Int) (aSy A w : Int) K n (cntTo (unl A w b) i : Int) (i : Int)) (N := aSy A w) (by omega) (fun n i hi => ?_) (fun n => ?_)
      · obtain ⟨a1, a2, a3, a4, a5, a6⟩ := ar_be hi hs4 hb
        show Lw_bends_L26 _ _ _ _ _ (n + 1) _ _ = Lw_bends_L26 _ _ _ _ _ n ((cntTo (unl A w b) i + (if unl A w b i = true then 1 else 0) : Nat) : Int) ((i + 1 : Nat) : Int)
        rw [Lw_bends_L26, a1, a2, if_pos a3, Lw_stress_eq h hW hw a6, Option.bind_some, a4, Lw_beat_eq h hW a5, Option.bind_some, wrap_n (n := aSt A w / 2 ^ i % 2) (by clear a1 a2; omega), wrap_n (n := aS A / 2 ^ (b + i) % 2) (by clear a1 a2; omega)]
        by_cases e : aSt A w / 2 ^ i % 2 = aS A / 2 ^ (b + i) % 2
        · rw [if_pos (by clear a1 a2; omega), show unl A w b i = false from decide_eq_false (fun g => g e)]
          rfl
        · rw [if_neg (by clear a1 a2; omega), show unl A w b i = true from decide_eq_true e]
          rfl
      · show Lw_bends_L26 _ _ _ _ _ (n + 1) _ _ = _
        rw [Lw_bends_L26, if_neg (Int.lt_irrefl _)]
    rw [hl, wrap_n (n := aSy A w) (by omega), wrap_n (n := cntTo (unl A w b) (aSy A w)) (by omega)]
    have hf : aFitB A w b = (decide (aSy A w = 1) || decide (aBd A w b = 0)) := by
      unfold aFitB
      rw [decide_eq_true c]
      rfl
    have hd := aBd_le A w b
    by_cases c1 : aSy A w = 1
    · rw [if_pos (by omega), hf, decide_eq_true c1, Bool.true_or, if_pos rfl]
      rw [c1] at hz hc ⊢
      exact congrArg (fun z : Nat => some (z : Int)) (by omega)
    · rw [if_neg (c := (aSy A w : Int) = 1) (by omega), hf, decide_eq_false c1, Bool.false_or]
      by_cases c2 : aBd A w b = 0
      · rw [if_pos (by have := hz.mpr c2; omega), decide_eq_true c2, if_pos rfl, hz.mpr c2, c2]
      · rw [if_neg (fun g => c2 (hz.mp (by omega))), decide_eq_false c2, if_neg (by decide)]
  · rw [if_pos (by omega)]
    have hf : aFitB A w b = false := by
      unfold aFitB
      rw [decide_eq_false c]
      rfl
    rw [hf, if_neg (by decide)]
end BE

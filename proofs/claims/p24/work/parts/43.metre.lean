/-! the metre, bends and lengths: class and reference -/
def sumTo (f : Nat → Nat) : Nat → Nat
  | 0 => 0
  | n + 1 => sumTo f n + f n
theorem sumTo_le {f : Nat → Nat} {n m : Nat} (h : ∀ i, i < n → f i ≤ m) : sumTo f n ≤ n * m := by
  induction n with
  | zero => simp [sumTo]
  | succ n ih =>
    have h1 := ih (fun i hi => h i (by omega))
    have h2 := h n (by omega)
    unfold sumTo
    rw [Nat.succ_mul]
    omega
def aBd (A : zT9) (w b : Nat) : Nat := if aFr A b (aSy A w) = aSt A w then 0 else 1
theorem aBd_le (A : zT9) (w b : Nat) : aBd A w b ≤ 1 := by unfold aBd; split <;> omega
def aBI (A : zT9) (l : Nat) : Nat := sumTo (fun k => aBd A (aWd A l k) (aBt A l k)) (aSz A l)
def aLI (A : zT9) (l : Nat) : Nat := sumTo (fun k => aNl A (aWd A l k)) (aSz A l)
def aLg (A : zT9) (l : Nat) : Nat := aLI A l + (if 0 < aSz A l then aSz A l else 1)
theorem aFit_dec (A : zT9) (w b : Nat) : aFit A w b ↔ b + aSy A w ≤ aB A ∧ (aSy A w = 1 ∨ aBd A w b = 0) := by
  unfold aFit aBd
  by_cases h : aFr A b (aSy A w) = aSt A w
  · simp [h]
  · simp [h]
def aFitB (A : zT9) (w b : Nat) : Bool := decide (b + aSy A w ≤ aB A) && (decide (aSy A w = 1) || decide (aBd A w b = 0))
theorem aFitB_iff (A : zT9) (w b : Nat) : aFitB A w b = true ↔ aFit A w b := by
  rw [aFit_dec]
  unfold aFitB
  simp
theorem aFr_lt (A : zT9) (b : Nat) {n : Nat} (hn : n ≤ 4) : aFr A b n < 16 := by
  unfold aFr
  have h1 : aS A / 2 ^ b % 2 ^ n < 2 ^ n := Nat.mod_lt _ (Nat.two_pow_pos n)
  have h2 : (2 : Nat) ^ n ≤ 2 ^ 4 := Nat.pow_le_pow_right (by decide) hn
  omega
theorem aS_lt {A : zT9} (hW : zWF A) : aS A < 4096 := by
  have h2 : (2 : Nat) ^ aB A ≤ 2 ^ 12 := Nat.pow_le_pow_right (by decide) hW.2.2.1
  have := hW.2.2.2.1
  omega
theorem mask_eq {n : Nat} (hn : n ≤ 4) : wshl (1 : Int) (n : Int) - 1 = ((2 ^ n - 1 : Nat) : Int) := by
  have h2 : (2 : Nat) ^ n ≤ 2 ^ 4 := Nat.pow_le_pow_right (by decide) hn
  have h1 : 0 < (2 : Nat) ^ n := Nat.two_pow_pos n
  rw [show (1 : Int) = ((1 : Nat) : Int) from rfl, wshl_n 1 n (by omega) (by omega)]
  omega
section MM
variable {q : zM} {A : zT9}
theorem aSt_lt (hW : zWF A) {w : Nat} (hw : w < aN A) : aSt A w < 16 ∧ aSy A w ≤ 4 ∧ 1 ≤ aSy A w := by
  obtain ⟨a1, a2, a3, a4, a5, -⟩ := hW.2.2.2.2.2.2.1 w hw
  have h2 : (2 : Nat) ^ aSy A w ≤ 2 ^ 4 := Nat.pow_le_pow_right (by decide) a4
  exact ⟨by omega, a4, a3⟩
theorem Me_strongFrom_eq (h : zRX q 5 A) (hW : zWF A) {b n : Nat} (hb : b < 32) (hn : n ≤ 4) : Me_strongFrom q (b : Int) (n : Int) = some (aFr A b n : Int) := by
  have hs := aS_lt hW
  have hd : aS A / 2 ^ b ≤ aS A := Nat.div_le_self _ _
  unfold Me_strongFrom
  rw [show q.1 12 1 = aS A from h.2.2.1, wushr_n _ _ (by omega) hb, mask_eq hn, wand_mask _ _ (by omega)]
  rfl
theorem Me_fits_eq (h : zRX q 5 A) (hW : zWF A) {w b : Nat} (hw : w < aN A) (hb : b < 32) : Me_fits q (w : Int) (b : Int) = some (if aFitB A w b = true then 1 else 0) := by
  obtain ⟨s1, s2, s3⟩ := aSt_lt hW hw
  have hB := hW.2.2.1
  unfold Me_fits
  rw [Ws_syllablesOf_eq h hW hw, Option.bind_some, show q.1 12 0 = aB A from h.2.1, wrap_n (by omega), show ((b : Int) + (aSy A w : Int)) = ((b + aSy A w : Nat) : Int) by omega, wrap_n (n := b + aSy A w) (by omega), wrap_n (n := aSy A w) (by omega)]
  by_cases h1 : aB A < b + aSy A w
  · rw [if_pos (by omega), if_neg]
    unfold aFitB
    simp
    omega
  · rw [if_neg (by omega)]
    by_cases h2 : aSy A w = 1
    · rw [if_pos (by omega), if_pos]
      unfold aFitB
      simp [h2]
      omega
    · have hf := aFr_lt A b s2
      rw [if_neg (by omega), Me_strongFrom_eq h hW hb s2, Option.bind_some, Ws_strongOf_eq h hW hw, Option.bind_some, wrap_n (by omega), wrap_n (by omega)]
      by_cases h3 : aFr A b (aSy A w) = aSt A w
      · rw [if_pos (by omega), if_pos]
        unfold aFitB aBd
        simp [h3]
        omega
      · rw [if_neg (by omega), if_neg]
        unfold aFitB aBd
        simp [h3, h2]
theorem Me_bends_eq (h : zRX q 5 A) (hW : zWF A) {w b : Nat} (hw : w < aN A) (hb : b < 32) : Me_bends q (w : Int) (b : Int) = some (aBd A w b : Int) := by
  obtain ⟨s1, s2, s3⟩ := aSt_lt hW hw
  have hf := aFr_lt A b s2
  unfold Me_bends
  rw [Ws_syllablesOf_eq h hW hw, Option.bind_some, Me_strongFrom_eq h hW hb s2, Option.bind_some, Ws_strongOf_eq h hW hw, Option.bind_some, wrap_n (by omega), wrap_n (by omega)]
  unfold aBd
  by_cases h3 : aFr A b (aSy A w) = aSt A w
  · rw [if_pos (by omega), if_pos h3]
    rfl
  · rw [if_neg (by omega), if_neg h3]
    rfl
theorem St_beatsFor_eq (h : zRX q 5 A) (hW : zWF A) {w : Nat} (hw : w < aN A) : St_beatsFor q (w : Int) = some (cntTo (aFitB A w) (aB A) : Int) := by
  have hB := hW.2.2.1
  unfold St_beatsFor
  refine for_all (G := fun n i => St_beatsFor_L4 q (w : Int) (fun v _ => some v) n (cntTo (aFitB A w) i : Int) (i : Int)) (N := aB A) (by omega) (fun n i hi => ?_) (fun n => ?_)
  · show St_beatsFor_L4 _ _ _ (n + 1) _ _ = St_beatsFor_L4 _ _ _ n (cntTo _ (i + 1) : Int) ((i + 1 : Nat) : Int)
    rw [St_beatsFor_L4, show q.1 12 0 = aB A from h.2.1, wrap_n (n := i) (by omega), wrap_n (n := aB A) (by omega), if_pos (by omega), Me_fits_eq h hW hw (by omega), Option.bind_some]
    cases hf : aFitB A w i with
    | true =>
      rw [if_pos rfl, if_neg one_ne]
      simp [cntTo, hf]
    | false =>
      rw [if_neg (c := false = true) (by simp), if_pos zero_eq]
      simp [cntTo, hf]
  · show St_beatsFor_L4 _ _ _ (n + 1) _ _ = _
    rw [St_beatsFor_L4, show q.1 12 0 = aB A from h.2.1, if_neg (by omega)]
theorem line_at (hW : zWF A) {l k : Nat} (hk : k < aSz A l) : aWd A l k < aN A ∧ aWd A l k < 40 ∧ aBt A l k < 12 ∧ aFitB A (aWd A l k) (aBt A l k) = true := by
  obtain ⟨h1, h2⟩ := (hW.2.2.2.2.2.2.2.2.1 l).2 k hk
  have hB := hW.2.2.1
  have hN := hW.1
  have h3 := (aSt_lt hW h1).2.2
  have h4 := h2.1
  exact ⟨h1, by omega, by omega, (aFitB_iff _ _ _).mpr h2⟩
theorem St_bendsIn_eq (h : zRX q 5 A) (hW : zWF A) {l : Nat} (hl : l < aL A) : St_bendsIn q (l : Int) = some (aBI A l : Int) := by
  have w2 := (hW.2.2.2.2.2.2.2.2.1 l).1
  unfold St_bendsIn
  refine for_all (G := fun n i => St_bendsIn_L7 q (l : Int) (fun v _ _ => some v) n (sumTo (fun k => aBd A (aWd A l k) (aBt A l k)) i : Int) (aBt A l i : Int) (i : Int)) (N := aSz A l) (by omega) (fun n i hi => ?_) (fun n => ?_)
  · show St_bendsIn_L7 _ _ _ (n + 1) _ _ _ = St_bendsIn_L7 _ _ _ n (sumTo _ (i + 1) : Int) (aBt A l (i + 1) : Int) ((i + 1 : Nat) : Int)
    obtain ⟨l1, l2, l3, l4⟩ := line_at hW hi
    rw [St_bendsIn_L7, Po_wordsIn_eq h hW hl, Option.bind_some, wrap_n (n := i) (by omega), wrap_n (n := aSz A l) (by omega), if_pos (by omega), Po_wordIn_eq h hW hl hi, Option.bind_some, Me_bends_eq h hW l1 (by omega), Option.bind_some, Ws_syllablesOf_eq h hW l1, Option.bind_some]
    rfl
  · show St_bendsIn_L7 _ _ _ (n + 1) _ _ _ = _
    rw [St_bendsIn_L7, Po_wordsIn_eq h hW hl, Option.bind_some, if_neg (by omega)]
    rfl
theorem St_lettersIn_eq (h : zRX q 5 A) (hW : zWF A) {l : Nat} (hl : l < aL A) : St_lettersIn q (l : Int) = some (aLI A l : Int) := by
  have w2 := (hW.2.2.2.2.2.2.2.2.1 l).1
  unfold St_lettersIn
  refine for_all (G := fun n i => St_lettersIn_L4 q (l : Int) (fun v _ => some v) n (sumTo (fun k => aNl A (aWd A l k)) i : Int) (i : Int)) (N := aSz A l) (by omega) (fun n i hi => ?_) (fun n => ?_)
  · show St_lettersIn_L4 _ _ _ (n + 1) _ _ = St_lettersIn_L4 _ _ _ n (sumTo _ (i + 1) : Int) ((i + 1 : Nat) : Int)
    obtain ⟨l1, l2, l3, l4⟩ := line_at hW hi
    rw [St_lettersIn_L4, Po_wordsIn_eq h hW hl, Option.bind_some, wrap_n (n := i) (by omega), wrap_n (n := aSz A l) (by omega), if_pos (by omega), Po_wordIn_eq h hW hl hi, Option.bind_some, Ws_letterCountOf_eq h hW l1, Option.bind_some]
    rfl
  · show St_lettersIn_L4 _ _ _ (n + 1) _ _ = _
    rw [St_lettersIn_L4, Po_wordsIn_eq h hW hl, Option.bind_some, if_neg (by omega)]
    rfl
theorem aLI_le (hW : zWF A) (l : Nat) : aLI A l ≤ 96 := by
  have w2 := (hW.2.2.2.2.2.2.2.2.1 l).1
  have h := sumTo_le (f := fun k => aNl A (aWd A l k)) (n := aSz A l) (m := 8) (fun i hi => (hW.2.2.2.2.2.2.1 _ (line_at hW hi).1).2.1)
  unfold aLI
  omega
theorem aBI_le (hW : zWF A) (l : Nat) : aBI A l ≤ 12 := by
  have w2 := (hW.2.2.2.2.2.2.2.2.1 l).1
  have h := sumTo_le (f := fun k => aBd A (aWd A l k) (aBt A l k)) (n := aSz A l) (m := 1) (fun i hi => aBd_le _ _ _)
  unfold aBI
  omega
theorem aLg_le (hW : zWF A) (l : Nat) : aLg A l ≤ 108 := by
  have w2 := (hW.2.2.2.2.2.2.2.2.1 l).1
  have h := aLI_le hW l
  unfold aLg
  split <;> omega
theorem St_lengthOf_eq (h : zRX q 5 A) (hW : zWF A) {l : Nat} (hl : l < aL A) : St_lengthOf q (l : Int) = some (aLg A l : Int) := by
  have w2 := (hW.2.2.2.2.2.2.2.2.1 l).1
  unfold St_lengthOf
  rw [St_lettersIn_eq h hW hl, Option.bind_some, Po_wordsIn_eq h hW hl, Option.bind_some]
  unfold wmax aLg
  rw [wrap_n (by omega), show wrap (1 : Int) = 1 by decide]
  by_cases h1 : 0 < aSz A l
  · rw [if_neg (by omega), if_pos h1]
    congr 1
  · rw [if_pos (by omega), if_neg h1]
    congr 1
end MM

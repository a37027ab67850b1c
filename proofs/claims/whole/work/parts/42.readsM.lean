/-! reads: the reference -/
section MR
variable {q : zM} {A : zT9}
theorem Mo_in_eq {a b c : Int} (ha : -2147483648 ≤ a ∧ a < 2147483648) (hb : -2147483648 ≤ b ∧ b < 2147483648) (hc : -2147483648 ≤ c ∧ c < 2147483648) : Mo_in q a b c = some (if b ≤ a ∧ a ≤ c then 1 else 0) := by
  unfold Mo_in
  rw [wrap_eq ha, wrap_eq hb, wrap_eq hc]
  by_cases h1 : a < b
  · rw [if_pos h1, if_neg (by omega)]
  · rw [if_neg h1]
    by_cases h2 : c < a
    · rw [if_pos h2, if_neg (by omega)]
    · rw [if_neg h2, if_pos (by omega)]
theorem Mo_noWord_eq (h : zRM (q.1 127) A) (hW : zWF A) {v : Int} (hv : -2147483648 ≤ v ∧ v < 2147483648) : Mo_noWord q v = some (if 0 ≤ v ∧ v < aN A then 0 else 1) := by
  have w1 := hW.1
  unfold Mo_noWord
  rw [h.1, Mo_in_eq hv (by decide) (by omega), Option.bind_some]
  by_cases h1 : 0 ≤ v ∧ v < aN A
  · rw [if_pos h1, if_pos (c := 0 ≤ v ∧ v ≤ (aN A : Int) - 1) (by omega), if_neg one_ne]
  · rw [if_neg h1, if_neg (c := 0 ≤ v ∧ v ≤ (aN A : Int) - 1) (by omega), if_pos zero_eq]
theorem Mo_noLine_eq (h : zRM (q.1 127) A) (hW : zWF A) {v : Int} (hv : -2147483648 ≤ v ∧ v < 2147483648) : Mo_noLine q v = some (if 0 ≤ v ∧ v < aL A then 0 else 1) := by
  have w1 := hW.2.2.2.2.2.1
  unfold Mo_noLine
  rw [h.2.2.2.1, Mo_in_eq hv (by decide) (by omega), Option.bind_some]
  by_cases h1 : 0 ≤ v ∧ v < aL A
  · rw [if_pos h1, if_pos (c := 0 ≤ v ∧ v ≤ (aL A : Int) - 1) (by omega), if_neg one_ne]
  · rw [if_neg h1, if_neg (c := 0 ≤ v ∧ v ≤ (aL A : Int) - 1) (by omega), if_pos zero_eq]
theorem Mo_size_eq (h : zRM (q.1 127) A) {l : Nat} (hl : l < 8) : Mo_size q (l : Int) = some (aSz A l : Int) := by
  unfold Mo_size
  have e : ((140 : Int) + 13 * (l : Int)) = ((140 + 13 * l : Nat) : Int) := by omega
  rw [e, wrap_n (by omega), ck_in (by omega), Int.toNat_natCast, h.2.2.2.2.2.2.1 l hl]
theorem Mo_wordIn_eq (h : zRM (q.1 127) A) (hW : zWF A) {l k : Nat} (hl : l < aL A) (hk : k < aSz A l) : Mo_wordIn q (l : Int) (k : Int) = some (aWd A l k : Int) := by
  have w1 := hW.2.2.2.2.2.1
  have w2 := (hW.2.2.2.2.2.2.2.2.1 l).1
  unfold Mo_wordIn
  have e : ((140 : Int) + 13 * (l : Int)) + 1 + (k : Int) = ((141 + 13 * l + k : Nat) : Int) := by omega
  rw [e, wrap_n (by omega), ck_in (by omega), Int.toNat_natCast, h.2.2.2.2.2.2.2 l k hl hk]
/-- the packed properties of a word -/
theorem Mo_props (h : zRM (q.1 127) A) (hW : zWF A) {w : Nat} (hw : w < aN A) : wrap ((20 : Int) + 3 * (w : Int) + 2) = ((22 + 3 * w : Nat) : Int) ∧ q.1 127 (22 + 3 * w) = ((aNl A w + 16 * aSy A w + 256 * aSt A w + 4096 * aLi A w : Nat) : Int) ∧ aNl A w < 16 ∧ aSy A w < 16 ∧ aSt A w < 16 ∧ aLi A w < 10 := by
  have w1 := hW.1
  obtain ⟨a1, a2, a3, a4, a5, a6, a7, -⟩ := hW.2.2.2.2.2.2.1 w hw
  have e : ((20 : Int) + 3 * (w : Int) + 2) = ((22 + 3 * w : Nat) : Int) := by omega
  have h16 : 2 ^ aSy A w ≤ 16 := by
    have : (2 : Nat) ^ aSy A w ≤ 2 ^ 4 := Nat.pow_le_pow_right (by decide) a4
    omega
  refine ⟨by rw [e, wrap_n (by omega)], ?_, by omega, by omega, by omega, by omega⟩
  rw [(h.2.2.2.2.1 w hw).1]
  omega
theorem Mo_letters_eq (h : zRM (q.1 127) A) (hW : zWF A) {w : Nat} (hw : w < aN A) : Mo_letters q (w : Int) = some (aNl A w : Int) := by
  have w1 := hW.1
  obtain ⟨p1, p2, p3, p4, p5, p6⟩ := Mo_props h hW hw
  unfold Mo_letters
  rw [p1, ck_in (by omega), Int.toNat_natCast, p2, wand15 _ (by omega)]
  rw [show (aNl A w + 16 * aSy A w + 256 * aSt A w + 4096 * aLi A w) % 16 = aNl A w by omega]
theorem Mo_syllables_eq (h : zRM (q.1 127) A) (hW : zWF A) {w : Nat} (hw : w < aN A) : Mo_syllables q (w : Int) = some (aSy A w : Int) := by
  have w1 := hW.1
  obtain ⟨p1, p2, p3, p4, p5, p6⟩ := Mo_props h hW hw
  unfold Mo_syllables
  rw [p1, ck_in (by omega), Int.toNat_natCast, p2, show (4 : Int) = ((4 : Nat) : Int) from rfl, wshr_n _ 4 (by omega) (by omega), wand15 _ (by omega)]
  rw [show (aNl A w + 16 * aSy A w + 256 * aSt A w + 4096 * aLi A w) / 2 ^ 4 % 16 = aSy A w by omega]
theorem Mo_stresses_eq (h : zRM (q.1 127) A) (hW : zWF A) {w : Nat} (hw : w < aN A) : Mo_stresses q (w : Int) = some (aSt A w : Int) := by
  have w1 := hW.1
  obtain ⟨p1, p2, p3, p4, p5, p6⟩ := Mo_props h hW hw
  unfold Mo_stresses
  rw [p1, ck_in (by omega), Int.toNat_natCast, p2, show (8 : Int) = ((8 : Nat) : Int) from rfl, wshr_n _ 8 (by omega) (by omega), wand15 _ (by omega)]
  rw [show (aNl A w + 16 * aSy A w + 256 * aSt A w + 4096 * aLi A w) / 2 ^ 8 % 16 = aSt A w by omega]
theorem Mo_limit_eq (h : zRM (q.1 127) A) (hW : zWF A) {w : Nat} (hw : w < aN A) : Mo_limit q (w : Int) = some (aLi A w : Int) := by
  have w1 := hW.1
  obtain ⟨p1, p2, p3, p4, p5, p6⟩ := Mo_props h hW hw
  unfold Mo_limit
  rw [p1, ck_in (by omega), Int.toNat_natCast, p2, show (12 : Int) = ((12 : Nat) : Int) from rfl, wshr_n _ 12 (by omega) (by omega)]
  rw [show (aNl A w + 16 * aSy A w + 256 * aSt A w + 4096 * aLi A w) / 2 ^ 12 = aLi A w by omega]
/-- what a loop that ors a test over all places has found -/
def anyTo (p : Nat → Bool) : Nat → Bool
  | 0 => false
  | n + 1 => anyTo p n || p n
theorem anyTo_fst (p : Nat → Bool) (n : Nat) : anyTo p n = decide (fstTo p n < n) := by
  induction n with
  | zero => rfl
  | succ n ih =>
    have hle := fstTo_le p n
    unfold anyTo fstTo
    rw [ih]
    by_cases h : fstTo p n < n
    · rw [if_pos h]
      simp [h]
      omega
    · rw [if_neg h]
      cases hp : p n <;> simp [h]
def zb (b : Bool) : Int := if b = true then 1 else 0
theorem wrap_zb (b : Bool) : wrap (zb b) = zb b := by cases b <;> rfl
theorem Mo_uses_eq (h : zRM (q.1 127) A) (hW : zWF A) {l w : Nat} (hl : l < aL A) (hw : w < 2147483648) : Mo_uses q (l : Int) (w : Int) = some (if aUs A l w = true then 1 else 0) := by
  have w1 := hW.2.2.2.2.2.1
  have w2 := (hW.2.2.2.2.2.2.2.2.1 l).1
  have wdlt : ∀ i, i < aSz A l → aWd A l i < 40 := fun i hi => Nat.lt_of_lt_of_le ((hW.2.2.2.2.2.2.2.2.1 l).2 i hi).1 hW.1
  unfold Mo_uses
  refine for_all (G := fun n i => Mo_uses_L5 q (l : Int) (w : Int) (fun v3_6 v4_7 => if wrap v3_6 = 0 ∨ wrap v3_6 = 1 then some v3_6 else none) n (zb (anyTo (fun k => decide (aWd A l k = w)) i)) (i : Int)) (N := aSz A l) (by omega) (fun n i hi => ?_) (fun n => ?_)
  · show Mo_uses_L5 _ _ _ _ (n + 1) _ _ = Mo_uses_L5 _ _ _ _ n (zb (anyTo _ (i + 1))) ((i + 1 : Nat) : Int)
    have := wdlt i hi
    rw [Mo_uses_L5, Mo_size_eq h (by omega), Option.bind_some, wrap_n (n := i) (by omega), wrap_n (n := aSz A l) (by omega), if_pos (by omega), wrap_zb]
    cases ha : anyTo (fun k => decide (aWd A l k = w)) i with
    | true =>
      rw [if_neg (by decide)]
      simp [anyTo, ha, zb]
    | false =>
      rw [if_pos (show zb false = 0 from rfl), Mo_wordIn_eq h hW hl hi, Option.bind_some, wrap_n (by omega), wrap_n hw]
      by_cases he : aWd A l i = w
      · rw [if_pos (by omega)]
        simp [anyTo, ha, he, zb]
      · rw [if_neg (by omega)]
        simp [anyTo, ha, he, zb]
  · show Mo_uses_L5 _ _ _ _ (n + 1) _ _ = _
    rw [Mo_uses_L5, Mo_size_eq h (by omega), Option.bind_some, if_neg (by omega), wrap_zb]
    have e : anyTo (fun k => decide (aWd A l k = w)) (aSz A l) = aUs A l w := by rw [anyTo_fst]; rfl
    rw [e]
    cases aUs A l w <;> rfl
theorem Mo_usedBut_eq (h : zRM (q.1 127) A) (hW : zWF A) {but : Int} (hb : -2147483648 ≤ but ∧ but < 2147483648) {w : Nat} (hw : w < 2147483648) : Mo_usedBut q (w : Int) but = some (aUB A but w : Int) := by
  have w1 := hW.2.2.2.2.2.1
  unfold Mo_usedBut
  refine for_all (G := fun n i => Mo_usedBut_L5 q (w : Int) but (fun v _ => some v) n (cntTo (fun l => decide ((l : Int) ≠ but) && aUs A l w) i : Int) (i : Int)) (N := aL A) (by omega) (fun n i hi => ?_) (fun n => ?_)
  · show Mo_usedBut_L5 _ _ _ _ (n + 1) _ _ = Mo_usedBut_L5 _ _ _ _ n (cntTo _ (i + 1) : Int) ((i + 1 : Nat) : Int)
    rw [Mo_usedBut_L5, h.2.2.2.1, wrap_n (n := i) (by omega), wrap_n (n := aL A) (by omega), if_pos (by omega), wrap_eq hb]
    by_cases h1 : (i : Int) = but
    · rw [if_pos h1]
      simp [cntTo, h1]
    · rw [if_neg h1, Mo_uses_eq h hW hi hw, Option.bind_some]
      cases hu : aUs A i w with
      | true =>
        rw [if_pos rfl, if_neg one_ne]
        simp [cntTo, h1, hu]
      | false =>
        rw [if_neg (c := false = true) (by simp), if_pos zero_eq]
        simp [cntTo, h1, hu]
  · show Mo_usedBut_L5 _ _ _ _ (n + 1) _ _ = _
    rw [Mo_usedBut_L5, h.2.2.2.1, if_neg (by omega)]
    rfl
end MR

/-! the mathematical state: a table of whole numbers; how the class's cells and the reference's row hold it -/
abbrev zT9 : Type := Nat → Nat → Nat
def aN (A : zT9) : Nat := A 0 0
def aB (A : zT9) : Nat := A 0 1
def aS (A : zT9) : Nat := A 0 2
def aL (A : zT9) : Nat := A 0 3
def aNl (A : zT9) (w : Nat) : Nat := A 1 w
def aSy (A : zT9) (w : Nat) : Nat := A 2 w
def aSt (A : zT9) (w : Nat) : Nat := A 3 w
def aLi (A : zT9) (w : Nat) : Nat := A 4 w
def aFe (A : zT9) (l : Nat) : Nat := A 5 l
def aLe (A : zT9) (l : Nat) : Nat := A 6 l
def aSz (A : zT9) (l : Nat) : Nat := A 7 l
def aWd (A : zT9) (l k : Nat) : Nat := A 8 (12 * l + k)
def aLt (A : zT9) (w k : Nat) : Nat := A 9 (8 * w + k)
/-- the metre's beats from one on, so many, as a bit set -/
def aFr (A : zT9) (b n : Nat) : Nat := aS A / 2 ^ b % 2 ^ n
/-- the word stands on the beat -/
def aFit (A : zT9) (w b : Nat) : Prop := b + aSy A w ≤ aB A ∧ (aSy A w = 1 ∨ aFr A b (aSy A w) = aSt A w)
/-- where the word at a place of a line begins -/
def aBt (A : zT9) (l : Nat) : Nat → Nat
  | 0 => 0
  | k + 1 => aBt A l k + aSy A (aWd A l k)
/-- what always holds of the state -/
def zWF (A : zT9) : Prop :=
  aN A ≤ 40 ∧ 2 ≤ aB A ∧ aB A ≤ 12 ∧ aS A < 2 ^ aB A ∧ 1 ≤ aL A ∧ aL A ≤ 8 ∧
  (∀ w, w < aN A → 1 ≤ aNl A w ∧ aNl A w ≤ 8 ∧ 1 ≤ aSy A w ∧ aSy A w ≤ 4 ∧ aSt A w < 2 ^ aSy A w ∧ 1 ≤ aLi A w ∧ aLi A w ≤ 9 ∧ ∀ k, k < aNl A w → 97 ≤ aLt A w k ∧ aLt A w k ≤ 122) ∧
  (∀ l, l < aL A → 97 ≤ aFe A l ∧ aFe A l ≤ 122 ∧ 97 ≤ aLe A l ∧ aLe A l ≤ 122) ∧
  (∀ l, aSz A l ≤ 12 ∧ (∀ k, k < aSz A l → aWd A l k < aN A ∧ aFit A (aWd A l k) (aBt A l k))) ∧ (∀ l, aL A ≤ l → aSz A l = 0)
/-- letters packed in a long, the first one lowest -/
def pkL (f : Nat → Nat) : Nat → Int64
  | 0 => Int64.ofNat 0
  | n + 1 => pkL f n ||| wlshl (wi2l (f n : Int)) ((8 : Int) * (n : Int))
/-- four letters packed in an int -/
def pk4 (f : Nat → Nat) : Nat → Nat
  | 0 => 0
  | n + 1 => pk4 f n + f n * 2 ^ (8 * n)
/-- the class's state whose cells begin at s holds A -/
def zRX (q : zM) (s : Nat) (A : zT9) : Prop :=
  q.1 (s + 1) 0 = aN A ∧ q.1 (s + 7) 0 = aB A ∧ q.1 (s + 7) 1 = aS A ∧ q.1 (s + 8) 0 = aL A ∧
  (∀ w, w < aN A → q.1 (s + 3) w = aNl A w ∧ q.1 (s + 4) w = aSy A w ∧ q.1 (s + 5) w = aSt A w ∧ q.1 (s + 6) w = aLi A w ∧ q.2 (s + 2) w = pkL (aLt A w) (aNl A w)) ∧
  (∀ l, l < aL A → q.1 (s + 9) l = aFe A l ∧ q.1 (s + 10) l = aLe A l ∧ q.1 (s + 11) l = aSz A l) ∧
  ∀ l k, l < aL A → k < aSz A l → q.1 (s + 12) (12 * l + k) = aWd A l k
theorem wrap_n {n : Nat} (h : n < 2147483648) : wrap (n : Int) = n := wrap_eq (by omega)
section XR
variable {q : zM} {A : zT9}
theorem Ws_has_eq (h : zRX q 5 A) (hW : zWF A) {v : Int} (hv : -2147483648 ≤ v ∧ v < 2147483648) : Ws_has q v = some (if 0 ≤ v ∧ v < aN A then 1 else 0) := by
  obtain ⟨w1, -⟩ := hW
  unfold Ws_has
  rw [wrap_eq hv, show q.1 6 0 = aN A from h.1, wrap_n (by omega)]
  by_cases h1 : v < 0
  · rw [if_pos h1, if_neg (by omega)]
  · rw [if_neg h1]
    by_cases h2 : v < (aN A : Int)
    · rw [if_pos h2, if_pos ⟨by omega, h2⟩]
    · rw [if_neg h2, if_neg (by omega)]
theorem Ws_has_in (h : zRX q 5 A) (hW : zWF A) {w : Nat} (hw : w < aN A) : Ws_has q (w : Int) = some 1 := by
  have w1 := hW.1
  rw [Ws_has_eq h hW (by omega), if_pos (by omega)]
theorem one_ne : ¬ wrap (1 : Int) = 0 := by decide
theorem zero_eq : wrap (0 : Int) = 0 := by decide
theorem Ws_get (h : zRX q 5 A) (hW : zWF A) {w : Nat} (hw : w < aN A) (x : Option Int) (y : Option Int) : (Ws_has q (w : Int)).bind (fun r => if wrap r = 0 then y else ck (wrap (w : Int)) 40 x) = x := by
  have w1 := hW.1
  rw [Ws_has_in h hW hw, Option.bind_some, if_neg one_ne, wrap_n (by omega), ck_in (by omega)]
theorem Ws_letterCountOf_eq (h : zRX q 5 A) (hW : zWF A) {w : Nat} (hw : w < aN A) : Ws_letterCountOf q (w : Int) = some (aNl A w : Int) := by
  have w1 := hW.1
  unfold Ws_letterCountOf
  rw [Ws_get h hW hw, wrap_n (by omega), Int.toNat_natCast, (h.2.2.2.2.1 w hw).1]
theorem Ws_syllablesOf_eq (h : zRX q 5 A) (hW : zWF A) {w : Nat} (hw : w < aN A) : Ws_syllablesOf q (w : Int) = some (aSy A w : Int) := by
  have w1 := hW.1
  unfold Ws_syllablesOf
  rw [Ws_get h hW hw, wrap_n (by omega), Int.toNat_natCast, (h.2.2.2.2.1 w hw).2.1]
theorem Ws_strongOf_eq (h : zRX q 5 A) (hW : zWF A) {w : Nat} (hw : w < aN A) : Ws_strongOf q (w : Int) = some (aSt A w : Int) := by
  have w1 := hW.1
  unfold Ws_strongOf
  rw [Ws_get h hW hw, wrap_n (by omega), Int.toNat_natCast, (h.2.2.2.2.1 w hw).2.2.1]
theorem Ws_limitOf_eq (h : zRX q 5 A) (hW : zWF A) {w : Nat} (hw : w < aN A) : Ws_limitOf q (w : Int) = some (aLi A w : Int) := by
  have w1 := hW.1
  unfold Ws_limitOf
  rw [Ws_get h hW hw, wrap_n (by omega), Int.toNat_natCast, (h.2.2.2.2.1 w hw).2.2.2.1]
theorem Po_has_eq (h : zRX q 5 A) (hW : zWF A) {v : Int} (hv : -2147483648 ≤ v ∧ v < 2147483648) : Po_has q v = some (if 0 ≤ v ∧ v < aL A then 1 else 0) := by
  obtain ⟨-, -, -, -, -, w1, -⟩ := hW
  unfold Po_has
  rw [wrap_eq hv, show q.1 13 0 = aL A from h.2.2.2.1, wrap_n (by omega)]
  by_cases h1 : v < 0
  · rw [if_pos h1, if_neg (by omega)]
  · rw [if_neg h1]
    by_cases h2 : v < (aL A : Int)
    · rw [if_pos h2, if_pos ⟨by omega, h2⟩]
    · rw [if_neg h2, if_neg (by omega)]
theorem Po_has_in (h : zRX q 5 A) (hW : zWF A) {l : Nat} (hl : l < aL A) : Po_has q (l : Int) = some 1 := by
  have w1 := hW.2.2.2.2.2.1
  rw [Po_has_eq h hW (by omega), if_pos (by omega)]
theorem Po_get (h : zRX q 5 A) (hW : zWF A) {l : Nat} (hl : l < aL A) (x : Option Int) (y : Option Int) : (Po_has q (l : Int)).bind (fun r => if wrap r = 0 then y else ck (wrap (l : Int)) 8 x) = x := by
  have w1 := hW.2.2.2.2.2.1
  rw [Po_has_in h hW hl, Option.bind_some, if_neg one_ne, wrap_n (by omega), ck_in (by omega)]
theorem Po_wordsIn_eq (h : zRX q 5 A) (hW : zWF A) {l : Nat} (hl : l < aL A) : Po_wordsIn q (l : Int) = some (aSz A l : Int) := by
  have w1 := hW.2.2.2.2.2.1
  unfold Po_wordsIn
  rw [Po_get h hW hl, wrap_n (by omega), Int.toNat_natCast, (h.2.2.2.2.2.1 l hl).2.2]
theorem Po_firstLetterOf_eq (h : zRX q 5 A) (hW : zWF A) {l : Nat} (hl : l < aL A) : Po_firstLetterOf q (l : Int) = some (aFe A l : Int) := by
  have w1 := hW.2.2.2.2.2.1
  unfold Po_firstLetterOf
  rw [Po_get h hW hl, wrap_n (by omega), Int.toNat_natCast, (h.2.2.2.2.2.1 l hl).1]
theorem Po_lastLetterOf_eq (h : zRX q 5 A) (hW : zWF A) {l : Nat} (hl : l < aL A) : Po_lastLetterOf q (l : Int) = some (aLe A l : Int) := by
  have w1 := hW.2.2.2.2.2.1
  unfold Po_lastLetterOf
  rw [Po_get h hW hl, wrap_n (by omega), Int.toNat_natCast, (h.2.2.2.2.2.1 l hl).2.1]
end XR

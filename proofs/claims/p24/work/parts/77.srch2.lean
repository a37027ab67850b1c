/-! the search: which word may stand where; both sides' small parts -/
def sU (A : zT9) (l w : Nat) : Bool := decide (aUB A (l : Int) w < aLi A w)
def sS (A : zT9) (l : Nat) (fr lr : Bool) (w b : Nat) : Bool := sU A l w && aFitB A w b && (decide (b ≠ 0) || (decide (aLt A w 0 = aFe A l) == fr)) && (decide (b + aSy A w ≠ aB A) || (decide (aLt A w (aNl A w - 1) = aLe A l) == lr))
theorem sS_ok (A : zT9) (l : Nat) (fr lr : Bool) : gOK A (sS A l fr lr) := fun w b _ h => by
  unfold sS at h
  rw [Bool.and_eq_true, Bool.and_eq_true, Bool.and_eq_true] at h
  exact h.1.1.2
theorem zRX5 {q q' : zM} {A : zT9} (h1 : ∀ a, a < 114 → q'.1 a = q.1 a) (h2 : q'.2 = q.2) (hx : zRX q 5 A) : zRX q' 5 A := zRX_congr (fun a _ h => ⟨h1 a (Nat.lt_of_le_of_lt h (by decide)), by rw [h2]⟩) hx
theorem zb_bool (b : Bool) : wrap (zb b) = 0 ∨ wrap (zb b) = 1 := by cases b <;> decide
section SM0
variable {q : zM} {A : zT9} {l : Nat} {fr lr : Bool}
theorem sU_case (hW : zWF A) {w : Nat} (hw : w < aN A) {α : Type} (x y : α) : (if wrap (aUB A (l : Int) w : Int) < wrap (aLi A w : Int) then x else y) = if sU A l w = true then x else y := by
  have h1 := aUB_le hW (l : Int) w
  have h2 := (hW.2.2.2.2.2.2.1 w hw).2.2.2.2.2.2.1
  unfold sU
  rw [wrap_n (n := aUB A (l : Int) w) (by omega), wrap_n (n := aLi A w) (by omega)]
  by_cases c : aUB A (l : Int) w < aLi A w
  · rw [if_pos (by omega), if_pos (decide_eq_true c)]
  · rw [if_neg (by omega), if_neg (by simp [c])]
def qu (q : zM) (o : Nat) (A : zT9) (l i : Nat) : zM := (fun a k => if a = o ∧ k < i then zb (sU A l k) else q.1 a k, q.2)
theorem qu_at (q : zM) (o : Nat) (A : zT9) (l i a k : Nat) : (qu q o A l i).1 a k = if a = o ∧ k < i then zb (sU A l k) else q.1 a k := rfl
theorem qu_zero (q : zM) (o : Nat) (A : zT9) (l : Nat) : qu q o A l 0 = q := by
  refine zM_ext (fun a k => ?_) (fun a k => rfl)
  rw [qu_at, if_neg (by omega)]
theorem qu_step (q : zM) (o : Nat) (A : zT9) (l i : Nat) {x : Int} (hx : x = zb (sU A l i)) : qs (qu q o A l i) o i x = qu q o A l (i + 1) := by
  subst hx
  refine zM_ext (fun a k => ?_) (fun a k => rfl)
  rw [qs_at, qu_at, qu_at]
  by_cases h1 : a = o ∧ k = i
  · rw [if_pos h1, if_pos (by omega), h1.2]
  · rw [if_neg h1]
    by_cases h2 : a = o ∧ k < i
    · rw [if_pos h2, if_pos (by omega)]
    · rw [if_neg h2, if_neg (by omega)]
end SM0
/-! canStand's questions, one behind the other -/
theorem cs_tail {P1 P2 : Prop} [Decidable P1] [Decidable P2] {n1 n2 : Bool} (h1 : P1 ↔ n1 = false) (h2 : P2 ↔ n2 = true) (lr : Bool) : (if P1 then (if (1 : Int) = (0 : Int) then some (1 : Int) else if P2 then (if (1 : Int) = zb lr then some (1 : Int) else some (0 : Int)) else (if (0 : Int) = zb lr then some (1 : Int) else some (0 : Int))) else (if (0 : Int) = (0 : Int) then some (1 : Int) else if P2 then (if (1 : Int) = zb lr then some (1 : Int) else some (0 : Int)) else (if (0 : Int) = zb lr then some (1 : Int) else some (0 : Int)))) = some (zb (n1 || (n2 == lr))) := by
  cases n1 with
  | true =>
    rw [if_neg (fun g => by cases h1.mp g), if_pos rfl]
    rfl
  | false =>
    rw [if_pos (h1.mpr rfl), if_neg (by decide)]
    cases n2 with
    | true =>
      rw [if_pos (h2.mpr rfl)]
      cases lr <;> rfl
    | false =>
      rw [if_neg (fun g => by cases h2.mp g)]
      cases lr <;> rfl
theorem cs_all {P0 P3 : Prop} [Decidable P0] [Decidable P3] {n0 n3 t : Bool} {T : Option Int} (h0 : P0 ↔ n0 = false) (h3 : P3 ↔ n3 = true) (hT : T = some (zb t)) (fr : Bool) : (if P0 then (if P3 then (if (1 : Int) = zb fr then T else some (0 : Int)) else (if (0 : Int) = zb fr then T else some (0 : Int))) else T) = some (zb (true && true && (n0 || (n3 == fr)) && t)) := by
  subst hT
  cases n0 with
  | true =>
    rw [if_neg (fun g => by cases h0.mp g)]
    rfl
  | false =>
    rw [if_pos (h0.mpr rfl)]
    cases n3 with
    | true =>
      rw [if_pos (h3.mpr rfl)]
      cases fr <;> rfl
    | false =>
      rw [if_neg (fun g => by cases h3.mp g)]
      cases fr <;> rfl
theorem cs_wrap {A : zT9} {l w b : Nat} (hW : zWF A) (hl : l < aL A) (hw : w < aN A) (hb : b < 13) : wrap (w : Int) = w ∧ ((0 : Int) ≤ (w : Int) ∧ (w : Int) < 40) ∧ wrap (b : Int) = b ∧ wrap ((b : Int) + (aSy A w : Int)) = ((b + aSy A w : Nat) : Int) ∧ wrap (aB A : Int) = aB A ∧ wrap (aLt A w 0 : Int) = aLt A w 0 ∧ wrap (aLt A w (aNl A w - 1) : Int) = aLt A w (aNl A w - 1) ∧ wrap (aFe A l : Int) = aFe A l ∧ wrap (aLe A l : Int) = aLe A l := by
  have wN := hW.1
  have wB := hW.2.2.1
  have n0 := (hW.2.2.2.2.2.2.1 w hw).1
  have sy := (aSt_lt hW hw).2
  have r1 := lt_rng hW hw (k := 0) n0
  have r2 := lt_rng hW hw (k := aNl A w - 1) (by omega)
  have r3 := hW.2.2.2.2.2.2.2.1 l hl
  exact ⟨wrap_n (by omega), by omega, wrap_n (by omega), wrap_n (n := b + aSy A w) (by omega), wrap_n (by omega), wrap_n (by omega), wrap_n (by omega), wrap_n (by omega), wrap_n (by omega)⟩
theorem ar_read {x B k : Nat} (h1 : x < B) (h2 : B ≤ 12) (h3 : k < 12) : wrap (x : Int) = x ∧ wrap (B : Int) = B ∧ (x : Int) < (B : Int) ∧ wrap (k : Int) = k ∧ ((0 : Int) ≤ (k : Int) ∧ (k : Int) < 12) ∧ ((0 : Int) ≤ (x : Int) ∧ (x : Int) < 12) := ⟨wrap_n (by omega), wrap_n (by omega), by omega, wrap_n (by omega), by omega, by omega⟩

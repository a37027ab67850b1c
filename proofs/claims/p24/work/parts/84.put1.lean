/-! a line that is put into the poem: the new state, the class's writing, the reference's makes() -/
def aPut (A : zT9) (l n : Nat) (row : Nat → Nat) : zT9 := fun k i => if k = 7 ∧ i = l then n else if k = 8 ∧ i / 12 = l ∧ i % 12 < n then row (i % 12) else A k i
theorem aPut_k (A : zT9) (l n : Nat) (row : Nat → Nat) {k : Nat} (h7 : k ≠ 7) (h8 : k ≠ 8) : aPut A l n row k = A k := by
  funext i
  unfold aPut
  rw [if_neg (fun h => h7 h.1), if_neg (fun h => h8 h.1)]
theorem aPut_sz (A : zT9) (l n : Nat) (row : Nat → Nat) (i : Nat) : aSz (aPut A l n row) i = if i = l then n else aSz A i := by
  unfold aSz aPut
  by_cases h : i = l
  · rw [if_pos ⟨rfl, h⟩, if_pos h]
  · rw [if_neg (fun g => h g.2), if_neg (fun g => absurd g.1 (by decide)), if_neg h]
theorem aPut_wd (A : zT9) (l n : Nat) (row : Nat → Nat) {i k : Nat} (hk : k < 12) : aWd (aPut A l n row) i k = if i = l ∧ k < n then row k else aWd A i k := by
  have e1 : (12 * i + k) / 12 = i := by omega
  have e2 : (12 * i + k) % 12 = k := by omega
  unfold aWd aPut
  rw [e1, e2, if_neg (fun g => absurd g.1 (by decide))]
  by_cases h : i = l ∧ k < n
  · rw [if_pos ⟨rfl, h.1, h.2⟩, if_pos h]
  · rw [if_neg (fun g => h ⟨g.2.1, g.2.2⟩), if_neg h]
section PT
variable {A : zT9} {S : Nat → Nat → Bool} {l n e : Nat}
theorem aPut_bt (hn : n ≤ 12) : ∀ k, k ≤ n → aBt (aPut A l n (rW A S n e)) l k = (rS A S n e k).1 := by
  intro k
  induction k with
  | zero => intro _; rfl
  | succ k ih =>
    intro hk
    unfold aBt
    rw [ih (by omega), aPut_wd A l n _ (by omega), if_pos ⟨rfl, by omega⟩, rS_succ]
    unfold aSy
    rw [aPut_k A l n _ (by decide) (by decide)]
theorem aPut_bt2 {row : Nat → Nat} {i : Nat} (hi : i ≠ l) : ∀ k, k ≤ 12 → aBt (aPut A l n row) i k = aBt A i k := by
  intro k
  induction k with
  | zero => intro _; rfl
  | succ k ih =>
    intro hk
    unfold aBt
    rw [ih (by omega), aPut_wd A l n _ (by omega), if_neg (fun g => hi g.1)]
    unfold aSy
    rw [aPut_k A l n _ (by decide) (by decide)]
theorem aPut_wf (hW : zWF A) (hS : gOK A S) (hl : l < aL A) (hg : gM A S n 0 e) : zWF (aPut A l n (rW A S n e)) := by
  have wB := hW.2.2.1
  have hle := gG_le hW hS hg.1
  have n12 : n ≤ 12 := by omega
  have hh := hW.2.2.2.2.2.2.2.2
  refine zWF_lines hW (fun k h7 h8 => aPut_k A l n _ h7 h8) (fun i => ?_) (fun i hi => ?_)
  · rw [aPut_sz]
    by_cases c : i = l
    · rw [if_pos c]
      refine ⟨n12, fun k hk => ?_⟩
      obtain ⟨w1, w2, w3, w4, w5⟩ := rW_ok hW hS hg hk
      rw [c, aPut_bt n12 k (by omega), aPut_wd A l n _ (by omega), if_pos ⟨rfl, hk⟩]
      exact ⟨w1, (aFitB_iff A _ _).mp (hS _ _ w1 w2)⟩
    · rw [if_neg c]
      refine ⟨(hh.1 i).1, fun k hk => ?_⟩
      have k12 : k < 12 := Nat.lt_of_lt_of_le hk (hh.1 i).1
      rw [aPut_bt2 c k (by omega), aPut_wd A l n _ k12, if_neg (fun g => c g.1)]
      exact (hh.1 i).2 k hk
  · rw [aPut_sz, if_neg (by omega)]
    exact hh.2 i hi
end PT
section PX
variable {q : zM} {A : zT9} {l n : Nat} {row : Nat → Nat}
theorem ar_put (hl : l < 8) (hn : n ≤ 12) : wrap (n : Int) = n ∧ wrap (l : Int) = l ∧ ((0 : Int) ≤ (l : Int) ∧ (l : Int) < 8) ∧ ¬ (n : Int) < 0 ∧ ¬ (12 : Int) < (n : Int) ∧ wrap ((l : Int) * 12) = ((12 * l : Nat) : Int) ∧ (0 ≤ wrap (0 : Int) ∧ (0 : Int) ≤ ((12 * l : Nat) : Int) ∧ (0 : Int) ≤ (n : Int) ∧ wrap (0 : Int) + (n : Int) ≤ 12 ∧ ((12 * l : Nat) : Int) + (n : Int) ≤ 96) := by
  have e : wrap (0 : Int) = 0 := by decide
  refine ⟨wrap_n (by omega), wrap_n (by omega), by omega, by omega, by omega, ?_, ?_⟩
  · rw [show (l : Int) * 12 = ((12 * l : Nat) : Int) by omega]
    exact wrap_n (by omega)
  · rw [e]
    clear e
    omega
theorem put_X (hX : zRX q 5 A) (hW : zWF A) (hl : l < aL A) (hn : n ≤ 12) (h5 : q.1 114 5 = n) (hr : ∀ k, k < n → q.1 119 k = row k) : ∃ q', Ls_putInto q (l : Int) = some q' ∧ zRX q' 5 (aPut A l n row) ∧ (∀ a, a ≠ 16 → a ≠ 17 → q'.1 a = q.1 a) ∧ q'.2 = q.2 := by
  have w8 := hW.2.2.2.2.2.1
  obtain ⟨a1, a2, a3, a4, a5, a6, a7⟩ := ar_put (l := l) (n := n) (Nat.lt_of_lt_of_le hl w8) hn
  have hat : ∀ a k, (qs (qc q 119 0 17 (12 * l) n) 16 l (n : Int)).1 a k = if a = 16 ∧ k = l then (n : Int) else if a = 17 ∧ 12 * l ≤ k ∧ k < 12 * l + n then q.1 119 (0 + (k - 12 * l)) else q.1 a k := fun a k => rfl
  have ev : Ls_putInto q (l : Int) = some (qs (qc q 119 0 17 (12 * l) n) 16 l (n : Int)) := by
    unfold Ls_putInto Po_putLine Po_putLine_b39
    rw [h5, Po_has_in hX hW hl, Option.bind_some, if_neg one_ne, a1, if_neg a4, if_neg a5, if_neg a5, a6, if_pos a7, a2, ck_in a3, Int.toNat_natCast, Int.toNat_natCast, Int.toNat_natCast, Option.bind_some]
    rfl
  clear a1 a2 a3 a4 a5 a6 a7 h5
  have e2 : (qs (qc q 119 0 17 (12 * l) n) 16 l (n : Int)).2 = q.2 := rfl
  generalize qs (qc q 119 0 17 (12 * l) n) 16 l (n : Int) = q' at hat ev e2
  have far : ∀ a, a ≠ 16 → a ≠ 17 → q'.1 a = q.1 a := fun a h1 h2 => funext fun k => by rw [hat, if_neg (fun g => h1 g.1), if_neg (fun g => h2 g.1)]
  obtain ⟨x1, x2, x3, x4, x5, x6, x7⟩ := hX
  refine ⟨q', ev, ⟨?_, ?_, ?_, ?_, fun w hw => ?_, fun i hi => ?_, fun i k hi hk => ?_⟩, far, e2⟩
  · exact (congrFun (far 6 (by decide) (by decide)) 0).trans x1
  · exact (congrFun (far 12 (by decide) (by decide)) 0).trans x2
  · exact (congrFun (far 12 (by decide) (by decide)) 1).trans x3
  · exact (congrFun (far 13 (by decide) (by decide)) 0).trans x4
  · rw [far _ (by decide) (by decide), far _ (by decide) (by decide), far _ (by decide) (by decide), far _ (by decide) (by decide), e2]
    exact x5 w hw
  · have hi : i < aL A := hi
    obtain ⟨y1, y2, y3⟩ := x6 i hi
    rw [far _ (by decide) (by decide), far _ (by decide) (by decide), aPut_sz]
    refine ⟨y1, y2, ?_⟩
    rw [hat]
    by_cases c : i = l
    · rw [if_pos ⟨rfl, c⟩, if_pos c]
    · rw [if_neg (fun g => c g.2), if_neg (fun g => absurd g.1 (by decide)), if_neg c]
      exact y3
  · have hi : i < aL A := hi
    rw [aPut_sz] at hk
    have k12 : k < 12 := by
      clear x1 x2 x3 x4
      by_cases c : i = l
      · rw [if_pos c] at hk
        omega
      · rw [if_neg c] at hk
        exact Nat.lt_of_lt_of_le hk (hW.2.2.2.2.2.2.2.2.1 i).1
    show q'.1 17 (12 * i + k) = _
    rw [hat, if_neg (fun g => absurd g.1 (by decide)), aPut_wd A l n row k12]
    by_cases c : i = l
    · rw [if_pos c] at hk
      rw [c, if_pos ⟨rfl, Nat.le_add_right _ _, Nat.add_lt_add_left hk _⟩, if_pos ⟨rfl, hk⟩, Nat.add_sub_cancel_left, Nat.zero_add]
      exact hr k hk
    · rw [if_neg c] at hk
      rw [if_neg (fun g => by clear x1 x2 x3 x4; omega), if_neg (fun g => c g.1)]
      exact x7 i k hi hk
end PX

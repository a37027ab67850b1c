/-! removeWord: reads of cells that no longer hold one state -/
section RM1
variable {q : zM} {A : zT9}
theorem Po_uses_raw (hW : zWF A) (h13 : q.1 13 0 = aL A) {l w : Nat} (hl : l < aL A) (hw : w < 2147483648) (h16 : q.1 16 l = aSz A l) (h17 : ∀ k, k < aSz A l → q.1 17 (12 * l + k) = aWd A l k) : Po_uses q (l : Int) (w : Int) = some (if aUs A l w = true then 1 else 0) := by
  have w1 := hW.2.2.2.2.2.1
  have w2 := (hW.2.2.2.2.2.2.2.2.1 l).1
  unfold Po_uses
  rw [Po_wordsIn_raw h13 w1 hl h16, Option.bind_some]
  have hs := fstTo_spec (fun k => decide (aWd A l k = w)) (aSz A l)
  have hle := fstTo_le (fun k => decide (aWd A l k = w)) (aSz A l)
  generalize hf : fstTo (fun k => decide (aWd A l k = w)) (aSz A l) = f at hs hle
  have hu : aUs A l w = decide (f < aSz A l) := by unfold aUs; rw [hf]
  have rd : ∀ i, i < aSz A l → q.1 17 (wrap ((l : Int) * 12 + (i : Int))).toNat = (aWd A l i : Int) ∧ wrap ((l : Int) * 12 + (i : Int)) = ((12 * l + i : Nat) : Int) := by
    intro i hi
    have e : ((l : Int) * 12 + (i : Int)) = ((12 * l + i : Nat) : Int) := by omega
    rw [e, wrap_n (by omega), Int.toNat_natCast]
    exact ⟨h17 i hi, rfl⟩
  clear h13 h16 h17
  have wdlt : ∀ i, i < aSz A l → aWd A l i < 40 := fun i hi => Nat.lt_of_lt_of_le ((hW.2.2.2.2.2.2.2.2.1 l).2 i hi).1 hW.1
  refine for_hit (G := fun n i => Po_uses_L9 q (l : Int) (w : Int) (aSz A l : Int) (fun _ => some 0) n (i : Int)) (k := f) (by omega) (fun n i hi => ?_) (fun n => ?_)
  · show Po_uses_L9 _ _ _ _ _ (n + 1) _ = _
    rw [Po_uses_L9]
    have hi2 : i < aSz A l := by omega
    obtain ⟨r1, r2⟩ := rd i hi2
    have hne : ¬ aWd A l i = w := of_decide_eq_false (hs.1 i hi)
    have := wdlt i hi2
    rw [wrap_n (n := i) (by omega), wrap_n (n := aSz A l) (by omega), if_pos (by omega), r1, r2, ck_in (by omega), wrap_n (by omega), wrap_n hw, if_neg (by omega)]
    rfl
  · show Po_uses_L9 _ _ _ _ _ (n + 1) _ = _
    rw [Po_uses_L9, wrap_n (n := f) (by omega), wrap_n (n := aSz A l) (by omega), hu]
    by_cases hlt : f < aSz A l
    · obtain ⟨r1, r2⟩ := rd f hlt
      have he : aWd A l f = w := of_decide_eq_true (hs.2 hlt)
      have := wdlt f hlt
      rw [if_pos (by omega), r1, r2, ck_in (by omega), wrap_n (by omega), wrap_n hw, if_pos (by omega), if_pos (by simp [hlt])]
    · rw [if_neg (by omega), if_neg (by simp [hlt])]
theorem aUs_not {l w : Nat} (h : aUs A l w = false) (k : Nat) (hk : k < aSz A l) : aWd A l k ≠ w := by
  unfold aUs at h
  have hle := fstTo_le (fun k => decide (aWd A l k = w)) (aSz A l)
  have := (fstTo_all (fun k => decide (aWd A l k = w)) (aSz A l)).mp (by have := of_decide_eq_false h; omega) k hk
  exact of_decide_eq_false this
end RM1
/-! the new state -/
def sh1 (w i : Nat) : Nat := if i < w then i else i + 1
def dn1 (w i : Nat) : Nat := if w < i then i - 1 else i
theorem sh_dn {w i : Nat} (h : i ≠ w) : sh1 w (dn1 w i) = i := by
  unfold sh1 dn1
  by_cases h1 : w < i
  · rw [if_pos h1, if_neg (by omega)]; omega
  · rw [if_neg h1, if_pos (by omega)]
def aRem (A : zT9) (w : Nat) : zT9 := fun k i => if k = 0 ∧ i = 0 then A 0 0 - 1 else if 1 ≤ k ∧ k ≤ 4 then A k (sh1 w i) else if k = 7 then (if aUs A i w then 0 else A 7 i) else if k = 8 then dn1 w (A 8 i) else if k = 9 then A 9 (8 * sh1 w (i / 8) + i % 8) else A k i
theorem aRem_sz (A : zT9) (w l : Nat) : aSz (aRem A w) l = if aUs A l w then 0 else aSz A l := rfl
theorem aRem_wd (A : zT9) (w l k : Nat) : aWd (aRem A w) l k = dn1 w (aWd A l k) := rfl
theorem aRem_lt (A : zT9) (w x : Nat) {k : Nat} (hk : k < 8) : aLt (aRem A w) x k = aLt A (sh1 w x) k := by
  show A 9 (8 * sh1 w ((8 * x + k) / 8) + (8 * x + k) % 8) = A 9 (8 * sh1 w x + k)
  rw [show (8 * x + k) / 8 = x by omega, show (8 * x + k) % 8 = k by omega]
theorem aRem_bt (A : zT9) (w l : Nat) (hu : aUs A l w = false) : ∀ k, k ≤ aSz A l → aBt (aRem A w) l k = aBt A l k := by
  intro k
  induction k with
  | zero => intro _; rfl
  | succ k ih =>
    intro hk
    unfold aBt
    rw [ih (by omega), aRem_wd]
    show _ + aSy A (sh1 w (dn1 w (aWd A l k))) = _
    rw [sh_dn (aUs_not hu k (by omega))]
theorem aRem_wf {A : zT9} (hA : zWF A) {w : Nat} (hw : w < aN A) : zWF (aRem A w) := by
  obtain ⟨a1, a2, a3, a4, a5, a6, a7, a8, a9, a10⟩ := hA
  have hn : aN (aRem A w) = aN A - 1 := rfl
  refine ⟨by omega, a2, a3, a4, a5, a6, fun x hx => ?_, a8, fun l => ?_, fun l hl => ?_⟩
  · have hs : sh1 w x < aN A := by unfold sh1; split <;> omega
    obtain ⟨b1, b2, b3, b4, b5, b6, b7, b8⟩ := a7 _ hs
    refine ⟨b1, b2, b3, b4, b5, b6, b7, fun k hk => ?_⟩
    have hk : k < aNl A (sh1 w x) := hk
    rw [aRem_lt A w x (by omega)]
    exact b8 k hk
  · rw [aRem_sz]
    cases hu : aUs A l w with
    | true => exact ⟨by simp, fun k hk => absurd hk (by simp)⟩
    | false =>
      refine ⟨(a9 l).1, fun k hk => ?_⟩
      have hk : k < aSz A l := hk
      obtain ⟨c1, c2⟩ := (a9 l).2 k hk
      have hne := aUs_not hu k hk
      rw [aRem_bt A w l hu k (by omega), aRem_wd]
      refine ⟨?_, ?_⟩
      · rw [hn]
        unfold dn1
        split <;> omega
      · show _ + aSy A (sh1 w (dn1 w (aWd A l k))) ≤ _ ∧ (aSy A (sh1 w (dn1 w (aWd A l k))) = 1 ∨ aFr A _ (aSy A (sh1 w (dn1 w (aWd A l k)))) = aSt A (sh1 w (dn1 w (aWd A l k))))
        rw [sh_dn hne]
        exact c2
  · have h0 : aSz A l = 0 := a10 l hl
    rw [aRem_sz, h0]
    split <;> rfl

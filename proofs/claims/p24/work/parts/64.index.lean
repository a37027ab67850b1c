/-! which word has these letters: the class's indexOf, the reference's wordWith -/
theorem wlcmp_eq (x y : Int64) : wrap (wlcmp x y) = 0 ↔ x = y := by
  unfold wlcmp lg_cmp
  by_cases h1 : x > y
  · rw [if_pos h1]
    refine ⟨fun h => absurd h (by decide), fun h => ?_⟩
    subst h
    exact absurd h1 (Int64.lt_irrefl)
  · rw [if_neg h1]
    by_cases h2 : x = y
    · rw [if_pos h2]
      exact ⟨fun _ => h2, fun _ => by decide⟩
    · rw [if_neg h2]
      exact ⟨fun h => absurd h (by decide), fun h => absurd h h2⟩
/-- the word's letters are these -/
def isW (A : zT9) (m : Nat) (g : Nat → Nat) (w : Nat) : Bool := decide (aNl A w = m) && decide (fstTo (fun k => !decide (aLt A w k = g k)) m = m)
theorem isW_iff (A : zT9) (m : Nat) (g : Nat → Nat) (w : Nat) : isW A m g w = true ↔ aNl A w = m ∧ ∀ k, k < m → aLt A w k = g k := by
  unfold isW
  rw [Bool.and_eq_true, decide_eq_true_eq, decide_eq_true_eq, fstTo_all]
  simp
section IX
variable {q : zM} {A : zT9}
theorem Ws_indexOf_eq (h : zRX q 5 A) (hW : zWF A) {m : Nat} {g : Nat → Nat} (hm : m ≤ 8) (hg : ∀ i, i < m → 1 ≤ g i ∧ g i < 256) : Ws_indexOf q (pkL g m) = some (if fstTo (isW A m g) (aN A) < aN A then (fstTo (isW A m g) (aN A) : Int) else -1) := by
  have w1 := hW.1
  have hs := fstTo_spec (isW A m g) (aN A)
  have hle := fstTo_le (isW A m g) (aN A)
  generalize fstTo (isW A m g) (aN A) = x at hs hle
  have key : ∀ w, w < aN A → (wrap (wlcmp (q.2 7 w) (pkL g m)) = 0 ↔ isW A m g w = true) := fun w hw => by
    obtain ⟨b1, b2, -, -, -, -, -, b8⟩ := hW.2.2.2.2.2.2.1 w hw
    rw [show q.2 7 w = pkL (aLt A w) (aNl A w) from (h.2.2.2.2.1 w hw).2.2.2.2, wlcmp_eq, isW_iff, pkL_inj b2 hm (fun i hi => by have := b8 i hi; omega) hg]
    constructor
    · intro ⟨e1, e2⟩
      exact ⟨e1, fun k hk => e2 k (by omega)⟩
    · intro ⟨e1, e2⟩
      exact ⟨e1, fun k hk => e2 k (by omega)⟩
  have h6 : q.1 6 0 = (aN A : Int) := h.1
  unfold Ws_indexOf
  refine for_hit (G := fun n i => Ws_indexOf_L2 q (pkL g m) (fun _ => some (-1)) n (i : Int)) (k := x) (by omega) (fun n i hi => ?_) (fun n => ?_)
  · show Ws_indexOf_L2 _ _ _ (n + 1) _ = _
    have hne : ¬ wrap (wlcmp (q.2 7 i) (pkL g m)) = 0 := fun e => by
      have := (key i (by omega)).mp e
      rw [hs.1 i hi] at this
      cases this
    rw [Ws_indexOf_L2, h6]
    clear h6
    rw [wrap_n (n := i) (by omega), wrap_n (n := aN A) (by omega), if_pos (by omega), ck_in (by omega), Int.toNat_natCast, if_neg hne]
    rfl
  · show Ws_indexOf_L2 _ _ _ (n + 1) _ = _
    rw [Ws_indexOf_L2, h6]
    clear h6
    rw [wrap_n (n := x) (by omega), wrap_n (n := aN A) (by omega)]
    by_cases c : x < aN A
    · rw [if_pos (by omega), ck_in (by omega), Int.toNat_natCast, if_pos ((key x c).mpr (hs.2 c)), if_pos c]
    · rw [if_neg (by omega), if_neg c]
end IX

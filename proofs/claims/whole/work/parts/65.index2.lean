section IX2
variable {q : zM} {A : zT9}
theorem with_L30 (h : zRM (q.1 127) A) (hW : zWF A) {m w : Nat} {g : Nat → Nat} (hm : m ≤ 8) (hw : w < aN A) (hn : aNl A w = m) (hc : ∀ k, k < m → q.1 133 k = g k) (hg : ∀ k, k < m → g k < 65536) (K : Int → Int → Option Int) (hK : ∀ x y z, K x y = K x z) : Mo_wordWith_L30 q (m : Int) (w : Int) K 5000 1 0 = K (if fstTo (fun k => !decide (aLt A w k = g k)) m = m then 1 else 0) 0 := by
  have hs := fstTo_spec (fun k => !decide (aLt A w k = g k)) m
  have hle := fstTo_le (fun k => !decide (aLt A w k = g k)) m
  generalize fstTo (fun k => !decide (aLt A w k = g k)) m = x at hs hle
  have hlt : ∀ k, k < m → aLt A w k ≤ 122 := fun k hk => (lt_rng hW hw (by omega)).2
  have rl : ∀ k, k < m → Mo_letter q (w : Int) (k : Int) = some (aLt A w k : Int) := fun k hk => Mo_letter_eq h hW hw (by omega)
  have step : ∀ n i, i < x → Mo_wordWith_L30 q (m : Int) (w : Int) K (n + 1) 1 (i : Int) = Mo_wordWith_L30 q (m : Int) (w : Int) K n 1 ((i + 1 : Nat) : Int) := by
    intro n i hi
    have hb := hs.1 i hi
    have hb : aLt A w i = g i := by simpa using hb
    have h1 := hlt i (by omega)
    rw [Mo_wordWith_L30, wrap_n (n := i) (by omega), wrap_n (n := m) (by omega), if_pos (by omega), if_neg one_ne, rl i (by omega), Option.bind_some, ck_in (by omega), Int.toNat_natCast, hc i (by omega), hb, if_pos rfl]
    rfl
  have h2 := for_to (G := fun n i => Mo_wordWith_L30 q (m : Int) (w : Int) K n 1 (i : Int)) (k := x) step x (5000 - x) (Nat.le_refl _)
  rw [Nat.sub_self, show 5000 - x + x = 5000 by omega] at h2
  refine Eq.trans h2 ?_
  show Mo_wordWith_L30 q (m : Int) (w : Int) K (5000 - x) 1 (x : Int) = _
  obtain ⟨n, hn2⟩ : ∃ n, 5000 - x = n + 1 + 1 := ⟨4998 - x, by omega⟩
  rw [hn2, Mo_wordWith_L30, wrap_n (n := x) (by omega), wrap_n (n := m) (by omega)]
  by_cases hx : x = m
  · rw [if_neg (by omega), if_pos hx]
    exact hK _ _ _
  · have hb := hs.2 (by omega)
    have hb : ¬ aLt A w x = g x := by simpa using hb
    have h1 := hlt x (by omega)
    have h3 := hg x (by omega)
    rw [if_pos (by omega), if_neg one_ne, rl x (by omega), Option.bind_some, ck_in (by omega), Int.toNat_natCast, hc x (by omega), wrap_n (n := aLt A w x) (by omega), wrap_n (n := g x) (by omega), if_neg (c := (aLt A w x : Int) = (g x : Int)) (by omega), if_neg hx]
    rw [Mo_wordWith_L30, wrap_n (n := m) (by omega), show ((x : Int) + 1) = ((x + 1 : Nat) : Int) by omega, wrap_n (n := x + 1) (by omega)]
    by_cases c : x + 1 < m
    · rw [if_pos (by omega), if_pos zero_eq]
      exact hK _ _ _
    · rw [if_neg (by omega)]
      exact hK _ _ _
theorem with_L30_0 (v w : Int) (K : Int → Int → Option Int) : Mo_wordWith_L30 q v w K 5000 0 0 = K 0 0 := by
  rw [Mo_wordWith_L30]
  split
  · rw [if_pos zero_eq]
  · rfl
theorem Mo_wordWith_eq (h : zRM (q.1 127) A) (hW : zWF A) {m : Nat} {g : Nat → Nat} (hm : m ≤ 8) (hc : ∀ k, k < m → q.1 133 k = g k) (hg : ∀ k, k < m → g k < 65536) : Mo_wordWith q (m : Int) = some (if fstTo (isW A m g) (aN A) < aN A then (fstTo (isW A m g) (aN A) : Int) else -5) := by
  have w1 := hW.1
  have hs := fstTo_spec (isW A m g) (aN A)
  have hle := fstTo_le (isW A m g) (aN A)
  generalize fstTo (isW A m g) (aN A) = x at hs hle
  have h0 : q.1 127 0 = (aN A : Int) := h.1
  unfold Mo_wordWith
  have one : ∀ n i, i < aN A → Mo_wordWith_L2 q (m : Int) (fun _ => some (-5)) (n + 1) (i : Int) = if isW A m g i = true then some (i : Int) else Mo_wordWith_L2 q (m : Int) (fun _ => some (-5)) n ((i : Int) + 1) := by
    intro n i hi
    have hn8 := (hW.2.2.2.2.2.2.1 i hi).2.1
    rw [Mo_wordWith_L2, h0, Mo_letters_eq h hW hi, Option.bind_some, wrap_n (n := i) (by omega), wrap_n (n := aN A) (by omega), if_pos (by omega), wrap_n (n := aNl A i) (by omega), wrap_n (n := m) (by omega)]
    by_cases c : aNl A i = m
    · rw [if_pos (by omega), with_L30 h hW hm hi c hc hg _ (fun _ _ _ => rfl)]
      unfold isW
      by_cases d : fstTo (fun k => !decide (aLt A i k = g k)) m = m
      · rw [if_pos d, if_neg one_ne, if_pos (by simp [c, d])]
      · rw [if_neg d, if_pos zero_eq, if_neg (by simp [d])]
    · rw [if_neg (by omega), with_L30_0, if_pos zero_eq, if_neg (by unfold isW; simp [c])]
  refine for_hit (G := fun n i => Mo_wordWith_L2 q (m : Int) (fun _ => some (-5)) n (i : Int)) (k := x) (by omega) (fun n i hi => ?_) (fun n => ?_)
  · show Mo_wordWith_L2 _ _ _ (n + 1) _ = _
    rw [one n i (by omega), if_neg (by rw [hs.1 i hi]; simp)]
    rfl
  · show Mo_wordWith_L2 _ _ _ (n + 1) _ = _
    by_cases c : x < aN A
    · rw [one n x c, if_pos (hs.2 c), if_pos c]
    · have e : x = aN A := by omega
      rw [if_neg c, Mo_wordWith_L2, h0, e, if_neg (Int.lt_irrefl _)]
end IX2

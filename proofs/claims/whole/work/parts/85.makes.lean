/-! makes(): the reference puts a line into its row -/
section MK
variable {q : zM} {A : zT9} {l n : Nat} {row : Nat → Nat}
theorem ar_mk {i : Nat} (hl : l < 8) (hn : n ≤ 12) (hi : i ≤ n) : wrap (n : Int) = n ∧ wrap (i : Int) = i ∧ ((i : Int) < 12 ∨ i = 12) ∧ wrap ((140 : Int) + 13 * (l : Int)) = ((140 + 13 * l : Nat) : Int) ∧ ((0 : Int) ≤ ((140 + 13 * l : Nat) : Int) ∧ ((140 + 13 * l : Nat) : Int) < 244) ∧ wrap ((140 : Int) + 13 * (l : Int) + 1 + (i : Int)) = ((141 + 13 * l + i : Nat) : Int) ∧ ((0 : Int) ≤ (i : Int)) := by
  refine ⟨wrap_n (by omega), wrap_n (by omega), by omega, ?_, by omega, ?_, by omega⟩
  · rw [show (140 : Int) + 13 * (l : Int) = ((140 + 13 * l : Nat) : Int) by omega]
    exact wrap_n (by omega)
  · rw [show (140 : Int) + 13 * (l : Int) + 1 + (i : Int) = ((141 + 13 * l + i : Nat) : Int) by omega]
    exact wrap_n (by omega)
theorem ar_mk2 {i : Nat} (hl : l < 8) (hn : n ≤ 12) (hi : i < n) : ((0 : Int) ≤ (i : Int) ∧ (i : Int) < 12) ∧ (i : Int) < (n : Int) ∧ ((0 : Int) ≤ ((141 + 13 * l + i : Nat) : Int) ∧ ((141 + 13 * l + i : Nat) : Int) < 244) := ⟨by omega, by omega, by omega⟩
theorem makes_L40 (q : zM) (hl : l < 8) (hn : n ≤ 12) (K : Int → zM → Option (Int × zM)) : Mo_makes_L40 (l : Int) (n : Int) K 5000 0 q = K (n : Int) (qc q 136 0 127 (141 + 13 * l) n) := by
  refine Eq.trans (by rw [qc_zero q 136 0 127 (141 + 13 * l)]; rfl) (for_all (G := fun m i => Mo_makes_L40 (l : Int) (n : Int) K m (i : Int) (qc q 136 0 127 (141 + 13 * l) i)) (N := n) (by omega) (fun m i hi => ?_) (fun m => ?_))
  · show Mo_makes_L40 _ _ _ (m + 1) _ _ = Mo_makes_L40 _ _ _ m ((i + 1 : Nat) : Int) _
    obtain ⟨a1, a2, -, -, -, a6, -⟩ := ar_mk hl hn (Nat.le_of_lt hi)
    obtain ⟨b1, b2, b3⟩ := ar_mk2 hl hn hi
    have e := qc_step q (o := 136) (sp := 0) (d := 127) (dp := 141 + 13 * l) (i := i) (Or.inl (by decide))
    rw [Nat.zero_add] at e
    rw [Mo_makes_L40, a1, a2, if_pos b2, ck_in b1, a6, ck_in b3, Int.toNat_natCast, Int.toNat_natCast, e]
    rfl
  · show Mo_makes_L40 _ _ _ (m + 1) _ _ = _
    rw [Mo_makes_L40, if_neg (Int.lt_irrefl _)]
theorem put_M (hM : zRM (q.1 127) A) (hW : zWF A) (hl : l < aL A) (hn : n ≤ 12) (hr : ∀ k, k < n → q.1 136 k = row k) : zRM ((qc (qs (qz q 127 (140 + 13 * l) 13) 127 (140 + 13 * l) (n : Int)) 136 0 127 (141 + 13 * l) n).1 127) (aPut A l n row) := by
  have w8 := hW.2.2.2.2.2.1
  have w40 := hW.1
  have hat : ∀ k, (qc (qs (qz q 127 (140 + 13 * l) 13) 127 (140 + 13 * l) (n : Int)) 136 0 127 (141 + 13 * l) n).1 127 k = if 127 = 127 ∧ 141 + 13 * l ≤ k ∧ k < 141 + 13 * l + n then q.1 136 (0 + (k - (141 + 13 * l))) else if 127 = 127 ∧ k = 140 + 13 * l then (n : Int) else if 127 = 127 ∧ 140 + 13 * l ≤ k ∧ k < 140 + 13 * l + 13 then 0 else q.1 127 k := fun k => rfl
  generalize qc (qs (qz q 127 (140 + 13 * l) 13) 127 (140 + 13 * l) (n : Int)) 136 0 127 (141 + 13 * l) n = q' at hat
  have far : ∀ k, (k < 140 + 13 * l ∨ 140 + 13 * l + 13 ≤ k) → q'.1 127 k = q.1 127 k := fun k hk => by rw [hat, if_neg (by omega), if_neg (by omega), if_neg (by omega)]
  obtain ⟨m1, m2, m3, m4, m5, m6, m7, m8⟩ := hM
  refine ⟨(far 0 (by omega)).trans m1, (far 1 (by clear m1; omega)).trans m2, (far 2 (by clear m1 m2; omega)).trans m3, (far 3 (by clear m1 m2 m3; omega)).trans m4, fun w hw => ?_, fun i hi => ?_, fun i hi => ?_, fun i k hi hk => ?_⟩
  · clear m1 m2 m3 m4
    have hw : w < aN A := hw
    rw [far _ (by omega), far _ (by omega), far _ (by omega)]
    exact m5 w hw
  · clear m1 m2 m3 m4
    have hi : i < aL A := hi
    rw [far _ (by omega), far _ (by omega)]
    exact m6 i hi
  · clear m1 m2 m3 m4
    rw [aPut_sz]
    by_cases c : i = l
    · rw [c, hat, if_neg (by omega), if_pos ⟨rfl, rfl⟩, if_pos rfl]
    · rw [far _ (by omega), if_neg c]
      exact m7 i hi
  · clear m1 m2 m3 m4
    have hi : i < aL A := hi
    rw [aPut_sz] at hk
    have k12 : k < 12 := by
      by_cases c : i = l
      · rw [if_pos c] at hk
        omega
      · rw [if_neg c] at hk
        exact Nat.lt_of_lt_of_le hk (hW.2.2.2.2.2.2.2.2.1 i).1
    rw [aPut_wd A l n row k12]
    by_cases c : i = l
    · rw [if_pos c] at hk
      rw [c, hat, if_pos ⟨rfl, by omega, by omega⟩, if_pos ⟨rfl, hk⟩, show 0 + (141 + 13 * l + k - (141 + 13 * l)) = k by omega]
      exact hr k hk
    · rw [if_neg c] at hk
      rw [far _ (by omega), if_neg (fun g => c g.1)]
      exact m8 i k hi hk
/-- cells that a search of the reference, and a line's writing, leave alone -/
def zFS (q q' : zM) : Prop := (∀ a, a ≠ 126 → a ≠ 127 → a ≠ 134 → a ≠ 135 → a ≠ 136 → q'.1 a = q.1 a) ∧ q'.2 = q.2 ∧ ∀ k, k < 14 → q'.1 126 k = q.1 126 k
theorem zFS_trans {q q1 q2 : zM} (h1 : zFS q q1) (h2 : zFS q1 q2) : zFS q q2 := ⟨fun a a1 a2 a3 a4 a5 => (h2.1 a a1 a2 a3 a4 a5).trans (h1.1 a a1 a2 a3 a4 a5), h2.2.1.trans h1.2.1, fun k hk => (h2.2.2 k hk).trans (h1.2.2 k hk)⟩
/-- looking and searching, together -/
theorem Mo_find_row (hM : zRM (q.1 127) A) (hW : zWF A) (hl : l < aL A) (fr lr : Bool) : ∃ (q1 : zM) (n : Nat) (q2 : zM), Mo_look q (l : Int) (zb (!fr)) (zb (!lr)) = some q1 ∧ Mo_search q1 = some ((n : Int), q2) ∧ q2.1 127 = q.1 127 ∧ q2.1 137 = q.1 137 ∧ zFS q q2 ∧ zMR q2 A (sS A l fr lr) n := by
  obtain ⟨q1, p1, p2, p3, p4, p5⟩ := Mo_look_eq hM hW hl fr lr
  have e127 : q1.1 127 = q.1 127 := p3 127 (by decide) (by decide)
  have hM1 : zRM (q1.1 127) A := by rw [e127]; exact hM
  obtain ⟨n, q2, s1, s2, s3, s4, s5⟩ := Mo_search_eq hM1 hW p2 hl
  exact ⟨q1, n, q2, p1, s1, (s2 127 (by decide) (by decide) (by decide)).trans e127, (s2 137 (by decide) (by decide) (by decide)).trans (p3 137 (by decide) (by decide)), ⟨fun a a1 a2 a3 a4 a5 => (s2 a a1 a4 a5).trans (p3 a a1 a3), s3.trans p4, fun k hk => (s4 k (Nat.lt_trans hk (by decide))).trans (p5 k hk)⟩, s5⟩
theorem Mo_makes_eq (hM : zRM (q.1 127) A) (hW : zWF A) (hl : l < aL A) : ∃ q', zFS q q' ∧ ((Mo_makes q (l : Int) = some (-5, q') ∧ q'.1 127 = q.1 127 ∧ ∀ n e, gG A (sS A l true true) n 0 e = false) ∨ ∃ n e, gM A (sS A l true true) n 0 e ∧ Mo_makes q (l : Int) = some ((n : Int), q') ∧ zRM (q'.1 127) (aPut A l n (rW A (sS A l true true) n e))) := by
  have w8 := hW.2.2.2.2.2.1
  obtain ⟨q1, n, q2, p1, s1, e127, -, fs, s5⟩ := Mo_find_row hM hW hl true true
  have p1 : Mo_look q (l : Int) 0 0 = some q1 := p1
  unfold Mo_makes
  rw [p1, Option.bind_some, s1, Option.bind_some]
  dsimp only
  rcases s5 with ⟨z1, z2⟩ | ⟨e, z1, z2, z3, z4⟩
  · rw [z1, if_pos (by decide)]
    exact ⟨q2, fs, Or.inl ⟨rfl, e127, z2⟩⟩
  · have hle := gG_le hW (sS_ok A l true true) z1.1
    have np := gM_pos hW z1
    have wB := hW.2.2.1
    have l8 : l < 8 := Nat.lt_of_lt_of_le hl w8
    have n12 : n ≤ 12 := by clear z2 z3; omega
    have nz : ¬ ((n : Int) = 0) := by clear z2 z3; omega
    obtain ⟨a1, a2, a3, a4, a5, a6, a7⟩ := ar_mk (i := 0) l8 n12 (Nat.zero_le _)
    have hM2 : zRM (q2.1 127) A := by rw [e127]; exact hM
    have pm := put_M (row := rW A (sS A l true true) n e) hM2 hW hl n12 z4
    rw [a1, if_neg nz, Mo_empty_eq _ l8, Option.bind_some, a4, ck_in a5, Int.toNat_natCast]
    unfold Mo_makes_b38
    rw [makes_L40 _ l8 n12]
    clear a1 a2 a3 a4 a5 a6 a7 z2 z3 nz
    refine ⟨_, ?_, Or.inr ⟨n, e, z1, rfl, pm⟩⟩
    refine zFS_trans fs ⟨fun b b1 b2 b3 b4 b5 => funext fun k => ?_, rfl, fun k hk => ?_⟩
    · rw [qc_at, if_neg (fun g => b2 g.1), qs_at, if_neg (fun g => b2 g.1), qz_at, if_neg (fun g => b2 g.1)]
    · rw [qc_at, if_neg (fun g => absurd g.1 (by decide)), qs_at, if_neg (fun g => absurd g.1 (by decide)), qz_at, if_neg (fun g => absurd g.1 (by decide))]
end MK

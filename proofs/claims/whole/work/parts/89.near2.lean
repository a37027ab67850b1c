/-! nearMiss: the reference -/
section NR
variable {q : zM} {A : zT9} {hs : List zT9} {sn : Nat → Option zT9} {tx : List Nat} {l : Nat}
theorem ar_cp {i n : Nat} (hn : n ≤ 12) (hi : i ≤ n) : wrap (i : Int) = i ∧ wrap (n : Int) = n ∧ ((i : Int) < (n : Int) ↔ i < n) ∧ (i < n → (0 : Int) ≤ (i : Int) ∧ (i : Int) < 12) := ⟨wrap_n (by omega), wrap_n (by omega), by omega, fun h => by omega⟩
theorem near_L38 (q : zM) {n : Nat} (hn : n ≤ 12) (v1 v2 v4 : Int) (K : Int → zM → Option (Int × zM)) : Mo_nearMiss_L38 v1 v2 (n : Int) v4 K 5000 0 q = K (n : Int) (qc q 136 0 137 0 n) := by
  refine Eq.trans (by rw [qc_zero q 136 0 137 0]; rfl) (for_all (G := fun m i => Mo_nearMiss_L38 v1 v2 (n : Int) v4 K m (i : Int) (qc q 136 0 137 0 i)) (N := n) (by omega) (fun m i hi => ?_) (fun m => ?_))
  · show Mo_nearMiss_L38 _ _ _ _ _ (m + 1) _ _ = Mo_nearMiss_L38 _ _ _ _ _ m ((i + 1 : Nat) : Int) _
    obtain ⟨a1, a2, a3, a4⟩ := ar_cp hn (Nat.le_of_lt hi)
    have e := qc_step q (o := 136) (sp := 0) (d := 137) (dp := 0) (i := i) (Or.inl (by decide))
    rw [Nat.zero_add] at e
    rw [Mo_nearMiss_L38, a1, a2, if_pos (a3.mpr hi), ck_in (a4 hi), ck_in (a4 hi), Int.toNat_natCast, e]
    rfl
  · show Mo_nearMiss_L38 _ _ _ _ _ (m + 1) _ _ = _
    rw [Mo_nearMiss_L38, if_neg (Int.lt_irrefl _)]
theorem near_L96 (q : zM) {n : Nat} (hn : n ≤ 12) (v1 v2 v4 : Int) (K : Int → zM → Option (Int × zM)) : Mo_nearMiss_L96 v1 v2 (n : Int) v4 K 5000 0 q = K (n : Int) (qc q 136 0 137 0 n) := by
  refine Eq.trans (by rw [qc_zero q 136 0 137 0]; rfl) (for_all (G := fun m i => Mo_nearMiss_L96 v1 v2 (n : Int) v4 K m (i : Int) (qc q 136 0 137 0 i)) (N := n) (by omega) (fun m i hi => ?_) (fun m => ?_))
  · show Mo_nearMiss_L96 _ _ _ _ _ (m + 1) _ _ = Mo_nearMiss_L96 _ _ _ _ _ m ((i + 1 : Nat) : Int) _
    obtain ⟨a1, a2, a3, a4⟩ := ar_cp hn (Nat.le_of_lt hi)
    have e := qc_step q (o := 136) (sp := 0) (d := 137) (dp := 0) (i := i) (Or.inl (by decide))
    rw [Nat.zero_add] at e
    rw [Mo_nearMiss_L96, a1, a2, if_pos (a3.mpr hi), ck_in (a4 hi), ck_in (a4 hi), Int.toNat_natCast, e]
    rfl
  · show Mo_nearMiss_L96 _ _ _ _ _ (m + 1) _ _ = _
    rw [Mo_nearMiss_L96, if_neg (Int.lt_irrefl _)]
theorem ahead_0 (q : zM) (v2 : Int) : Mo_isAhead q 0 v2 = some 1 := by
  unfold Mo_isAhead
  rw [if_pos zero_eq, if_pos zero_eq]
/-- isAhead() where both were found and their first words differ -/
theorem ahead_some {n1 e1 n2 e2 x1 x2 : Nat} (h19 : q.1 126 19 = e1) (h20 : q.1 126 20 = n1) (hx1 : q.1 136 0 = x1) (hx2 : q.1 137 0 = x2) (b1 : n1 ≤ 12) (b2 : n2 ≤ 12) (p1 : 0 < n1) (p2 : 0 < n2) (c1 : e1 ≤ 12) (c2 : e2 ≤ 12) (d1 : x1 < 40) (d2 : x2 < 40) (hne : x1 ≠ x2) : Mo_isAhead q (n2 : Int) (e2 : Int) = some (if 13 * e1 + n1 < 13 * e2 + n2 ∨ (13 * e1 + n1 = 13 * e2 + n2 ∧ x1 < x2) then 1 else 0) := by
  have l54 : Mo_isAhead_L54 q (n2 : Int) (e2 : Int) (fun _ => some 0) 5000 0 = some (if x1 < x2 then 1 else 0) := by
    rw [Mo_isAhead_L54]
    have z : wrap (0 : Int) = 0 := by decide
    rw [z]
    rw [show (0 : Int).toNat = 0 from rfl, hx1, hx2]
    clear z h19 h20 hx1 hx2
    rw [wrap_n (n := n2) (by omega), wrap_n (n := x1) (by omega), wrap_n (n := x2) (by omega), if_pos (by omega), ck_in (by decide), ck_in (by decide), if_neg (by omega), ck_in (by decide), ck_in (by decide)]
    by_cases c : x1 < x2
    · rw [if_pos (by omega), if_pos c]
    · rw [if_neg (by omega), if_neg c]
  unfold Mo_isAhead
  rw [h19, h20, l54]
  clear h19 h20 hx1 hx2 l54
  rw [wrap_n (n := n2) (by omega), wrap_n (n := e1) (by omega), wrap_n (n := e2) (by omega), wrap_n (n := n1) (by omega), if_neg (by omega)]
  by_cases ce : e1 = e2
  · rw [if_pos (by omega)]
    by_cases cn : n1 = n2
    · rw [if_pos (by omega)]
      by_cases c : x1 < x2
      · rw [if_pos c, if_pos (by omega)]
      · rw [if_neg c, if_neg (by omega)]
    · rw [if_neg (by omega)]
      by_cases c : n1 < n2
      · rw [if_pos (by omega), if_pos (by omega)]
      · rw [if_neg (by omega), if_neg (by omega)]
  · rw [if_neg (by omega), if_neg (by omega)]
    by_cases c : e1 < e2
    · rw [if_pos (by omega), if_pos (by omega)]
    · rw [if_neg (by omega), if_neg (by omega)]
theorem near_fs {q' : zM} (h : zGM q A hs sn tx) (h1 : ∀ a, a ≠ 126 → a ≠ 134 → a ≠ 135 → a ≠ 136 → a ≠ 137 → q'.1 a = q.1 a) (h2 : ∀ k, k < 14 → q'.1 126 k = q.1 126 k) : zGM q' A hs sn tx := zGM_cells h (fun a ha => h1 a (by omega) (by omega) (by omega) (by omega) (by omega)) (h2 3 (by decide)) (h2 6 (by decide))
theorem Mo_near (h : zGM q A hs sn tx) (hk : zOK A hs sn tx) (hl : l < aL A) {p : Nat} (hp : p < 2147483648) : ∃ (r : Int) (q' : zM), Mo_nearMiss q (l : Int) (p : Int) = some (r, q') ∧ zGM q' A hs sn tx ∧ zFM q q' ∧ nrR A l p r := by
  have hW := hk.1
  have wB := hW.2.2.1
  have wN := hW.1
  have wL := hW.2.2.2.2.2.1
  have hnn : ¬ wrap (p : Int) < 0 := by
    rw [wrap_n hp]
    omega
  obtain ⟨q1, n2, q2, a1, a2, a3, a4, a5, a6⟩ := Mo_find_row h.1 hW hl false true
  have a1 : Mo_look q (l : Int) 1 0 = some q1 := a1
  have b2 : n2 ≤ 12 := by
    rcases a6 with ⟨z, -⟩ | ⟨e, z, -⟩
    · omega
    · have := gG_le hW (sS_ok A l false true) z.1
      omega
  have r3 : ∀ a, a ≠ 137 → (qc q2 136 0 137 0 n2).1 a = q2.1 a := fun a ha => funext fun k => by rw [qc_at, if_neg (fun g => ha g.1)]
  have r137 : ∀ k, k < n2 → (qc q2 136 0 137 0 n2).1 137 k = q2.1 136 k := fun k hk2 => by rw [qc_at, if_pos ⟨rfl, Nat.zero_le _, by omega⟩, Nat.sub_zero, Nat.zero_add]
  have hM3 : zRM ((qc q2 136 0 137 0 n2).1 127) A := by rw [r3 127 (by decide), a3]; exact h.1
  obtain ⟨q4, n1, q5, c1, c2, c3, c4, c5, c6⟩ := Mo_find_row hM3 hW hl true false
  have c1 : Mo_look (qc q2 136 0 137 0 n2) (l : Int) 0 1 = some q4 := c1
  have b1 : n1 ≤ 12 := by
    rcases c6 with ⟨z, -⟩ | ⟨e, z, -⟩
    · omega
    · have := gG_le hW (sS_ok A l true false) z.1
      omega
  have far5 : ∀ a, a ≠ 126 → a ≠ 134 → a ≠ 135 → a ≠ 136 → a ≠ 137 → q5.1 a = q.1 a := fun a d1 d2 d3 d4 d5 => by
    by_cases e : a = 127
    · rw [e, c3, r3 127 (by decide), a3]
    · rw [c5.1 a d1 e d2 d3 d4, r3 a d5, a5.1 a d1 e d2 d3 d4]
  have k5 : ∀ k, k < 14 → q5.1 126 k = q.1 126 k := fun k hk2 => by rw [c5.2.2 k hk2, r3 126 (by decide), a5.2.2 k hk2]
  have s5 : q5.2 = q.2 := c5.2.1.trans a5.2.1
  have g5 := near_fs h far5 k5
  have x5 : zFM q q5 := ⟨fun a ha => far5 a (by omega) (by omega) (by omega) (by omega) (by omega), s5⟩
  have n137 : ∀ k, k < n2 → q5.1 137 k = q2.1 136 k := fun k hk2 => by rw [c4, r137 k hk2]
  obtain ⟨y1, y2, y3, y4, y5⟩ := ar_nm (n := n2) (p := p) b2 hp
  obtain ⟨y1', y2', y3', y4', y5'⟩ := ar_nm (n := n1) (p := p) b1 hp
  have z1 : (0 < (n1 : Int)) ↔ 0 < n1 := by
    clear y1 y2 y3 y4 y5 y1' y2' y3' y4' y5'
    omega
  unfold Mo_nearMiss
  rw [Mo_noLine_eq h.1 hW (by clear y1 y2 y3 y4 y5 y1' y2' y3' y4' y5' z1 hnn; omega), Option.bind_some, if_pos (c := (0 : Int) ≤ (l : Int) ∧ (l : Int) < (aL A : Int)) (by clear y1 y2 y3 y4 y5 y1' y2' y3' y4' y5' z1 hnn; omega), if_pos zero_eq, if_neg hnn, a1, Option.bind_some, a2, Option.bind_some]
  dsimp only
  rw [near_L38 _ b2, c1, Option.bind_some, c2, Option.bind_some]
  dsimp only
  rw [y2', y1, y2]
  clear hnn
  rcases c6 with ⟨e1, e2⟩ | ⟨e, e1, e2, e3, e4⟩
  · rw [if_neg (fun g => by rw [e1] at g; exact absurd g (by decide))]
    rcases a6 with ⟨d1, d2⟩ | ⟨e', d1, d2, d3, d4⟩
    · have hno : ¬ p < n2 := by rw [d1]; exact Nat.not_lt_zero _
      rw [if_neg (fun g => hno (y3.mp g))]
      exact ⟨-5, q5, rfl, g5, x5, Or.inl ⟨e2, d2, rfl⟩⟩
    · have fin : nrR A l p (if p < n2 then (rW A (sS A l false true) n2 e' p : Int) else -5) := by
        refine Or.inr (Or.inr ⟨n2, e', d1, fun m x g => ?_, rfl⟩)
        have := g.1
        rw [e2] at this
        cases this
      by_cases c : p < n2
      · rw [if_pos c] at fin
        rw [if_pos (y3.mpr c), ck_in (y5 c).2, Int.toNat_natCast, n137 p c, d4 p c]
        exact ⟨_, q5, rfl, g5, x5, fin⟩
      · rw [if_neg c] at fin
        rw [if_neg (fun g => c (y3.mp g))]
        exact ⟨_, q5, rfl, g5, x5, fin⟩
  · have np : 0 < n1 := gM_pos hW e1
    have w1 := (rW_ok hW (sS_ok A l true false) e1 np).1
    have le1 := gG_le hW (sS_ok A l true false) e1.1
    rw [if_pos (z1.mpr np), e3, y2']
    have u1 : ∀ m x, gM A (sS A l true false) m 0 x → m = n1 ∧ x = e := fun m x g => gM_unique hW (sS_ok A l true false) g e1
    have pick1 : nrR A l p (if p < n1 then (rW A (sS A l true false) n1 e p : Int) else -5) → ∃ (r : Int) (q' : zM), Mo_nearMiss_L96 (l : Int) (p : Int) (n1 : Int) (q2.1 126 19) (fun v5_23 q_24 => if (p : Int) < (n1 : Int) then ck (p : Int) 12 (some (q_24.1 137 (p : Int).toNat, q_24)) else some ((-5 : Int), q_24)) 5000 0 q5 = some (r, q') ∧ zGM q' A hs sn tx ∧ zFM q q' ∧ nrR A l p r := fun fin => by
      rw [near_L96 _ b1]
      have f6 : ∀ a, a ≠ 137 → (qc q5 136 0 137 0 n1).1 a = q5.1 a := fun a ha => funext fun k => by rw [qc_at, if_neg (fun g => ha g.1)]
      have g6 : zGM (qc q5 136 0 137 0 n1) A hs sn tx := near_fs g5 (fun a _ _ _ _ ha => f6 a ha) (fun k _ => by rw [f6 126 (by decide)])
      have x6 : zFM q (qc q5 136 0 137 0 n1) := ⟨fun a ha => (f6 a (by omega)).trans (x5.1 a ha), x5.2⟩
      by_cases c : p < n1
      · rw [if_pos c] at fin
        rw [if_pos (y3'.mpr c), ck_in (y5' c).2, Int.toNat_natCast, qc_at, if_pos ⟨rfl, Nat.zero_le _, by rw [Nat.zero_add]; exact c⟩, Nat.sub_zero, Nat.zero_add, e4 p c]
        exact ⟨_, _, rfl, g6, x6, fin⟩
      · rw [if_neg c] at fin
        rw [if_neg (fun g => c (y3'.mp g))]
        exact ⟨_, _, rfl, g6, x6, fin⟩
    rcases a6 with ⟨d1, d2⟩ | ⟨e', d1, d2, d3, d4⟩
    · rw [d1, show ((0 : Nat) : Int) = 0 from rfl, ahead_0, Option.bind_some, if_neg one_ne]
      refine pick1 (Or.inr (Or.inl ⟨n1, e, e1, fun m x g => ?_, rfl⟩))
      have := g.1
      rw [d2] at this
      cases this
    · have np2 : 0 < n2 := gM_pos hW d1
      have w2 := (rW_ok hW (sS_ok A l false true) d1 np2).1
      have le2 := gG_le hW (sS_ok A l false true) d1.1
      have df := near_diff hW e1 d1
      have u2 : ∀ m x, gM A (sS A l false true) m 0 x → m = n2 ∧ x = e' := fun m x g => gM_unique hW (sS_ok A l false true) g d1
      have ah := ahead_some (q := q5) (n2 := n2) (e2 := e') e2 e3 (e4 0 np) ((n137 0 np2).trans (d4 0 np2)) b1 b2 np np2 (by clear e2 e3 d2 d3 y1 y2 y3 y4 y5 y1' y2' y3' y4' y5' z1; omega) (by clear e2 e3 d2 d3 y1 y2 y3 y4 y5 y1' y2' y3' y4' y5' z1; omega) (Nat.lt_of_lt_of_le w1 wN) (Nat.lt_of_lt_of_le w2 wN) df
      rw [d2, ah, Option.bind_some]
      rw [d2] at pick1
      by_cases ca : 13 * e + n1 < 13 * e' + n2 ∨ (13 * e + n1 = 13 * e' + n2 ∧ rW A (sS A l true false) n1 e 0 < rW A (sS A l false true) n2 e' 0)
      · rw [if_pos ca, if_neg one_ne]
        refine pick1 (Or.inr (Or.inl ⟨n1, e, e1, fun m x g => ?_, rfl⟩))
        obtain ⟨v1, v2⟩ := u2 _ _ g
        rw [v1, v2]
        exact ca
      · rw [if_neg ca, if_pos zero_eq]
        have fin : nrR A l p (if p < n2 then (rW A (sS A l false true) n2 e' p : Int) else -5) := by
          refine Or.inr (Or.inr ⟨n2, e', d1, fun m x g => ?_, rfl⟩)
          obtain ⟨v1, v2⟩ := u1 _ _ g
          rw [v1, v2]
          clear e2 e3 d2 d3 y1 y2 y3 y4 y5 y1' y2' y3' y4' y5' z1 pick1 ah
          omega
        by_cases c : p < n2
        · rw [if_pos c] at fin
          rw [if_pos (y3.mpr c), ck_in (y5 c).2, Int.toNat_natCast, n137 p c, d4 p c]
          exact ⟨_, q5, rfl, g5, x5, fin⟩
        · rw [if_neg c] at fin
          rw [if_neg (fun g => c (y3.mp g))]
          exact ⟨_, q5, rfl, g5, x5, fin⟩
end NR

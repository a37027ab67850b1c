/-! find: the reference, and both together; states that differ in cells which nothing names -/
section FM0
variable {q q' : zM} {A : zT9} {hs : List zT9} {sn : Nat → Option zT9} {tx : List Nat}
theorem zGM_cells (h : zGM q A hs sn tx) (ha : ∀ a, a = 127 ∨ a = 129 ∨ a = 130 ∨ a = 131 ∨ a = 132 → q'.1 a = q.1 a) (h3 : q'.1 126 3 = q.1 126 3) (h6 : q'.1 126 6 = q.1 126 6) : zGM q' A hs sn tx := by
  unfold zGM
  rw [ha 127 (by omega), ha 129 (by omega), ha 130 (by omega), ha 131 (by omega), ha 132 (by omega), h3, h6]
  exact h
theorem zGX_cells (h : zGX q A hs sn tx) (ha : ∀ a, a < 114 → a ≠ 4 → q'.1 a = q.1 a ∧ q'.2 a = q.2 a) : zGX q' A hs sn tx := by
  have hr : ∀ {s : Nat} {B : zT9}, 4 < s → s + 12 < 114 → zRX q s B → zRX q' s B := fun h1 h2 hb => zRX_congr (fun a h3 h4 => ha a (by omega) (by omega)) hb
  obtain ⟨g1, g2, g3, ⟨o, g4, g5, g6, g7⟩, g8⟩ := h
  refine ⟨hr (by omega) (by omega) g1, by rw [(ha 2 (by omega) (by omega)).1]; exact g2, fun i hi => by rw [(ha 3 (by omega) (by omega)).1]; exact g3 i hi, ⟨o, g4, by rw [(ha 18 (by omega) (by omega)).1]; exact g5, by rw [(ha 18 (by omega) (by omega)).1]; exact g6, fun j hj => hr (by omega) (by omega) (g7 j hj)⟩, fun i hi => ⟨by rw [(ha 87 (by omega) (by omega)).1]; exact (g8 i hi).1, fun A' hA => hr (by omega) (by omega) ((g8 i hi).2 A' hA)⟩⟩
theorem find_L18 (ht : q.1 126 6 = tx.length) (hl : tx.length ≤ 8) (hc : ∀ i, i < tx.length → q.1 132 i = tx.getD i 0) (hr : ∀ i, tx.getD i 0 < 65536) (K : Int → Int → zM → Option (Int × zM)) : (∀ i, i < tx.length → isLt (tx.getD i 0) = true) ∧ Mo_find_L18 K 5000 1 0 q = K 1 (tx.length : Int) (qc q 132 0 133 0 tx.length) ∨ (¬ ∀ i, i < tx.length → isLt (tx.getD i 0) = true) ∧ ∃ x : Nat, Mo_find_L18 K 5000 1 0 q = K 0 (x : Int) (qc q 132 0 133 0 x) := by
  have hs := fstTo_spec (fun i => !isLt (tx.getD i 0)) tx.length
  have hle := fstTo_le (fun i => !isLt (tx.getD i 0)) tx.length
  have hall := fstTo_all (fun i => !isLt (tx.getD i 0)) tx.length
  generalize fstTo (fun i => !isLt (tx.getD i 0)) tx.length = x at hs hle hall
  have t6 : ∀ i, (qc q 132 0 133 0 i).1 126 6 = tx.length := fun i => by rw [qc_at, if_neg (by omega)]; exact ht
  have t132 : ∀ i j, j < tx.length → (qc q 132 0 133 0 i).1 132 j = tx.getD j 0 := fun i j hj => by rw [qc_at, if_neg (by omega)]; exact hc j hj
  have qst : ∀ i, i < tx.length → qs (qc q 132 0 133 0 i) 133 i (tx.getD i 0 : Int) = qc q 132 0 133 0 (i + 1) := fun i hi => by
    have e := qc_step q (o := 132) (sp := 0) (d := 133) (dp := 0) (i := i) (by omega)
    rw [Nat.zero_add, t132 i i hi] at e
    exact e
  clear ht hc
  have go : ∀ n i, i < tx.length → Mo_find_L18 K (n + 1) 1 (i : Int) (qc q 132 0 133 0 i) = Mo_find_L18 K n (if isLt (tx.getD i 0) = true then 1 else 0) ((i + 1 : Nat) : Int) (qc q 132 0 133 0 (i + 1)) := by
    intro n i hi
    have e1 := t6 i
    have e2 := t132 i i hi
    have e3 := qst i hi
    rw [Mo_find_L18, e1]
    clear e1
    rw [wrap_n (n := i) (by omega), wrap_n (n := tx.length) (by omega), if_pos (by omega), if_neg one_ne, ck_in (by omega), Int.toNat_natCast, e2]
    clear e2
    rw [Mo_isLetter_eq (hr i), Option.bind_some, ck_in (by omega), ck_in (by omega), e3]
    rfl
  have h2 := for_to (G := fun n i => Mo_find_L18 K n 1 (i : Int) (qc q 132 0 133 0 i)) (k := x) (fun n i hi => by
    show Mo_find_L18 K (n + 1) 1 (i : Int) _ = _
    rw [go n i (by omega), if_pos (by simpa using hs.1 i hi)]) x (5000 - x) (Nat.le_refl _)
  rw [Nat.sub_self, show 5000 - x + x = 5000 by omega] at h2
  have h2 : Mo_find_L18 K 5000 1 0 (qc q 132 0 133 0 0) = Mo_find_L18 K (5000 - x) 1 (x : Int) (qc q 132 0 133 0 x) := h2
  rw [qc_zero] at h2
  obtain ⟨n, hn2⟩ : ∃ n, 5000 - x = n + 1 + 1 := ⟨4998 - x, by omega⟩
  rw [hn2] at h2
  by_cases c : x = tx.length
  · refine Or.inl ⟨fun i hi => by simpa using hall.mp c i hi, ?_⟩
    rw [h2, Mo_find_L18, t6, c, if_neg (Int.lt_irrefl _)]
  · have hb := hs.2 (by omega)
    have hb : isLt (tx.getD x 0) = false := by simpa using hb
    refine Or.inr ⟨fun g => absurd (g x (by omega)) (by rw [hb]; simp), x + 1, ?_⟩
    rw [h2, go _ x (by omega), hb, if_neg (c := false = true) (by simp), Mo_find_L18]
    split
    · rw [if_pos zero_eq]
    · rfl
theorem find_same (hX : zGX q A hs sn tx) (h : zGM q A hs sn tx) (hk : zOK A hs sn tx) : ∃ (r : Int) (q' : zM), Ev_find q = some r ∧ Mo_find q = some (r, q') ∧ zGM q' A hs sn tx ∧ zFM q q' := by
  have hl := hk.2.2.2.2.1
  have hW := hk.1
  have ht : (qs q 126 9 0).1 126 6 = tx.length := by rw [qs_at, if_neg (by omega)]; exact h.2.1
  have hc : ∀ i, i < tx.length → (qs q 126 9 0).1 132 i = tx.getD i 0 := fun i hi => by rw [qs_at, if_neg (by omega)]; exact h.2.2.1 i hi
  have gm : ∀ x, zGM (qc (qs q 126 9 0) 132 0 133 0 x) A hs sn tx := fun x => zGM_cells h (fun a ha => funext fun k => by rw [qc_at, if_neg (by omega), qs_at, if_neg (by omega)]) (by rw [qc_at, if_neg (by omega), qs_at, if_neg (by omega)]) (by rw [qc_at, if_neg (by omega), qs_at, if_neg (by omega)])
  have fm : ∀ x, zFM q (qc (qs q 126 9 0) 132 0 133 0 x) := fun x => ⟨fun a ha => funext fun k => by rw [qc_at, if_neg (by omega), qs_at, if_neg (by omega)], rfl⟩
  unfold Mo_find Mo_find_b5
  rw [ht, Mo_in_eq (by omega) (by decide) (by decide), Option.bind_some]
  by_cases c8 : 1 ≤ tx.length ∧ tx.length ≤ 8
  · rw [if_pos (c := (1 : Int) ≤ (tx.length : Int) ∧ (tx.length : Int) ≤ 8) (by omega)]
    rcases find_L18 ht c8.2 hc (tx_rng hk) (fun v1_8 v2_9 q_10 => if wrap v1_8 = (0 : Int) then some ((-5 : Int), q_10) else (Mo_wordWith q_10 (q_10.1 126 6)).bind fun r_12 => some (r_12, q_10)) with ⟨hy, e⟩ | ⟨hno, x, e⟩
    · have hp : tPl tx := ⟨c8.2, hy⟩
      have g6 : (qc (qs q 126 9 0) 132 0 133 0 tx.length).1 126 6 = tx.length := (gm _).2.1
      have g133 : ∀ k, k < tx.length → (qc (qs q 126 9 0) 132 0 133 0 tx.length).1 133 k = ((fun i => tx.getD i 0) k : Nat) := fun k hk2 => by rw [qc_at, if_pos (by omega), Nat.sub_zero, Nat.zero_add]; exact hc k hk2
      have ww := Mo_wordWith_eq (gm tx.length).1 hW c8.2 g133 (fun k _ => tx_rng hk k)
      refine ⟨_, _, Ev_find_yes hX hk hp, ?_, gm tx.length, fm tx.length⟩
      rw [e, if_neg one_ne, g6, ww, Option.bind_some]
      by_cases c : fstTo (isW A tx.length (fun i => tx.getD i 0)) (aN A) < aN A
      · rw [if_pos c, if_pos ⟨c8.1, c⟩]
      · rw [if_neg c, if_neg (fun g => c g.2)]
    · refine ⟨_, _, Ev_find_no hX hk (fun g => hno g.2), ?_, gm x, fm x⟩
      rw [e, if_pos zero_eq]
  · rw [if_neg (c := (1 : Int) ≤ (tx.length : Int) ∧ (tx.length : Int) ≤ 8) (by omega)]
    have g0 := gm 0
    have f0 := fm 0
    rw [qc_zero] at g0 f0
    have em : Mo_find_L18 (fun v1_8 v2_9 q_10 => if wrap v1_8 = (0 : Int) then some ((-5 : Int), q_10) else (Mo_wordWith q_10 (q_10.1 126 6)).bind fun r_12 => some (r_12, q_10)) 5000 0 0 (qs q 126 9 0) = some (-5, qs q 126 9 0) := by
      rw [Mo_find_L18]
      split
      · rw [if_pos zero_eq, if_pos zero_eq]
      · rw [if_pos zero_eq]
    by_cases c0 : tPl tx
    · refine ⟨_, _, Ev_find_yes hX hk c0, ?_, g0, f0⟩
      rw [if_neg (c := 1 ≤ tx.length ∧ fstTo (isW A tx.length (fun i => tx.getD i 0)) (aN A) < aN A) (fun g => c8 ⟨g.1, c0.1⟩)]
      exact em
    · exact ⟨_, _, Ev_find_no hX hk c0, em, g0, f0⟩
end FM0

/-! p24: edges() -/
/-- the k-th sign of the edges that the law types -/
def eCh (h : Int) (n k : Nat) : Nat := if k = n then 47 else 97 + lo (wshr h (k : Int)) 4
def eTx (h : Int) (n : Nat) : Nat → List Nat
  | 0 => []
  | k + 1 => eTx h n k ++ [eCh h n k]
theorem eTx_len (h : Int) (n : Nat) : ∀ k, (eTx h n k).length = k := by
  intro k
  induction k with
  | zero => rfl
  | succ k ih =>
    show (eTx h n k ++ [eCh h n k]).length = k + 1
    rw [List.length_append, ih]
    rfl
theorem eTx_get (h : Int) (n : Nat) : ∀ k i, i < k → (eTx h n k).getD i 0 = eCh h n i := by
  intro k
  induction k with
  | zero => intro i hi; exact absurd hi (Nat.not_lt_zero _)
  | succ k ih =>
    intro i hi
    have hl := eTx_len h n k
    show (eTx h n k ++ [eCh h n k]).getD i 0 = _
    rw [getD_snoc _ _ (by rw [List.length_append, hl]; exact hi), hl]
    by_cases e : i = k
    · rw [if_pos e, e]
    · rw [if_neg e]
      exact ih i (by omega)
theorem eCh_let {h : Int} {n k : Nat} (hk : k ≠ n) : eCh h n k = 97 + lo (wshr h (k : Int)) 4 ∧ 97 ≤ eCh h n k ∧ eCh h n k ≤ 100 := by
  have e : eCh h n k = 97 + lo (wshr h (k : Int)) 4 := by unfold eCh; rw [if_neg hk]
  have := lo_lt (wshr h (k : Int)) (n := 4) (by decide)
  exact ⟨e, by omega, by omega⟩
theorem eTx_bad {h : Int} {n k : Nat} (hk : k ≤ 2 * n) (h0 : 0 < n) : ¬ tEdge (eTx h n k) := by
  rintro ⟨t1, t2, t3, t4, t5⟩
  rw [eTx_len] at t1 t2 t3 t4
  rw [eTx_get h n k _ (by omega)] at t4
  have := (eCh_let (h := h) (n := n) (k := k / 2) (by omega)).2.1
  omega
theorem eTx_ok {h : Int} {n : Nat} (h0 : 0 < n) (h8 : n ≤ 8) : tEdge (eTx h n (2 * n + 1)) ∧ (eTx h n (2 * n + 1)).length / 2 = n := by
  have e : (eTx h n (2 * n + 1)).length / 2 = n := by rw [eTx_len]; omega
  refine ⟨⟨by rw [eTx_len]; omega, by omega, by omega, ?_, fun i hi hne => ?_⟩, e⟩
  · rw [e, eTx_get h n _ _ (by omega)]
    unfold eCh
    rw [if_pos rfl]
  · rw [eTx_len] at hi
    rw [e] at hne
    rw [eTx_get h n _ _ hi]
    have := eCh_let (h := h) (n := n) (k := i) hne
    exact isLt_iff.mpr (by omega)
section ED
variable {q : zM} {A : zT9} {tx : List Nat}
theorem ar_ed {k n : Nat} (hk : k < 2 * n + 1) (hn : n ≤ 8) : wrap (k : Int) = k ∧ wrap ((2 : Int) * (n : Int) + 1) = ((2 * n + 1 : Nat) : Int) ∧ (k : Int) < ((2 * n + 1 : Nat) : Int) ∧ wrap (n : Int) = n ∧ ((k : Int) = (n : Int) ↔ k = n) ∧ wrap ((2 : Int) * (n : Int)) = ((2 * n : Nat) : Int) ∧ ((k : Int) < ((2 * n : Nat) : Int) ↔ k < 2 * n) ∧ ((k : Int) = 0 ↔ k = 0) ∧ (k : Int) + 1 = ((k + 1 : Nat) : Int) := by
  refine ⟨wrap_n (by omega), ?_, by omega, wrap_n (by omega), by omega, ?_, by omega, by omega, by omega⟩
  · rw [show (2 : Int) * (n : Int) + 1 = ((2 * n + 1 : Nat) : Int) by omega]
    exact wrap_n (by omega)
  · rw [show (2 : Int) * (n : Int) = ((2 * n : Nat) : Int) by omega]
    exact wrap_n (by omega)
theorem edges_L16 (v1 v2 : Int) {n : Nat} (h0 : 0 < n) (h8 : n ≤ 8) (K : Int → zM → Option (Int × zM)) : ∀ (d k m : Nat) (q : zM), k + d = 2 * n + 1 → d < m → zSt q A (eTx v2 n k) → ∃ q', Lw_edges_L16 v1 v2 (n : Int) K m (k : Int) q = K ((2 * n + 1 : Nat) : Int) q' ∧ zSt q' A (eTx v2 n (2 * n + 1)) := by
  intro d
  induction d with
  | zero =>
    intro k m q hk hm hS
    obtain ⟨m, rfl⟩ : ∃ x, m = x + 1 := ⟨m - 1, by omega⟩
    have e : k = 2 * n + 1 := by omega
    subst e
    refine ⟨q, ?_, hS⟩
    have e2 : wrap ((2 : Int) * (n : Int) + 1) = ((2 * n + 1 : Nat) : Int) := (ar_ed (k := 0) (by omega) h8).2.1
    rw [Lw_edges_L16, e2, wrap_n (n := 2 * n + 1) (by clear e2; omega), if_neg (Int.lt_irrefl _)]
  | succ d ih =>
    intro k m q hk hm hS
    obtain ⟨m, rfl⟩ : ∃ x, m = x + 1 := ⟨m - 1, by omega⟩
    have hk2 : k < 2 * n + 1 := by omega
    have hkl : (eTx v2 n k).length < 40 := by rw [eTx_len]; omega
    have hc : eCh v2 n k < 65536 := by
      by_cases e : k = n
      · unfold eCh; rw [if_pos e]; decide
      · have := (eCh_let (h := v2) e).2.2
        omega
    have hnx : k + 1 + d = 2 * n + 1 := by omega
    have hmd : d < m := by omega
    have hb : k < 2 * n → ¬ tEdge (eTx v2 n (k + 1)) := fun g => eTx_bad (by omega) h0
    obtain ⟨q1, t1, t2⟩ := s_type hS hkl hc
    have t2 : zSt q1 A (eTx v2 n (k + 1)) := t2
    obtain ⟨q', r1, r2⟩ := ih (k + 1) m q1 hnx hmd t2
    refine ⟨q', ?_, r2⟩
    rw [← r1]
    obtain ⟨a1, a2, a3, a4, a5, a6, a7, a8, a9⟩ := ar_ed hk2 h8
    have j50 : Lw_edges_j50 q v1 v2 (n : Int) (k : Int) (eCh v2 n k : Int) K (Lw_edges_L16 v1 v2 (n : Int) K m) = Lw_edges_L16 v1 v2 (n : Int) K m ((k + 1 : Nat) : Int) q1 := by
      unfold Lw_edges_j50
      rw [t1, Option.bind_some, a1, a6]
      dsimp only
      by_cases c : k < 2 * n
      · rw [if_pos (a7.mpr c)]
        by_cases c0 : k = 0
        · rw [if_pos (a8.mpr c0), a9]
        · rw [if_neg (fun g => c0 (a8.mp g)), s_edges_bad t2 (hb c), Option.bind_some]
          dsimp only
          rw [if_pos (by decide), a9]
      · rw [if_neg (fun g => c (a7.mp g)), a9]
    rw [Lw_edges_L16, a2, a1, if_pos a3, a4]
    by_cases e : k = n
    · rw [if_pos (a5.mpr e), ← j50]
      have e2 : eCh v2 n k = 47 := by unfold eCh; rw [if_pos e]
      rw [e2]
      rfl
    · rw [if_neg (fun g => e (a5.mp g)), show (4 : Int) = ((4 : Nat) : Int) from rfl, Lw_low_eq q _ (n := 4) (by decide) (by decide), Option.bind_some, ← j50]
      have e2 := (eCh_let (h := v2) e).1
      have e3 : ((97 : Int) + (lo (wshr v2 (k : Int)) 4 : Int)) % 65536 = (eCh v2 n k : Int) := by
        have := lo_lt (wshr v2 (k : Int)) (n := 4) (by decide)
        clear a1 a2 a4 a6
        omega
      rw [e3]
theorem aEdg_get {n l : Nat} : aL (aEdg A n tx) = n ∧ aFe (aEdg A n tx) l = tx.getD l 0 ∧ aLe (aEdg A n tx) l = tx.getD (n + 1 + l) 0 ∧ aSz (aEdg A n tx) l = 0 := ⟨rfl, rfl, rfl, rfl⟩
theorem edges_L114 (v1 v2 : Int) {n : Nat} (h0 : 0 < n) (h8 : n ≤ 8) (h : zSt q (aEdg A n (eTx v2 n (2 * n + 1))) tx) (K : Int → zM → Option (Int × zM)) : Lw_edges_L114 v1 v2 (n : Int) K 5000 0 q = K (n : Int) q := by
  have hX := zSt_rx h
  have hW := zSt_wf h
  refine for_all (G := fun m i => Lw_edges_L114 v1 v2 (n : Int) K m (i : Int) q) (N := n) (by omega) (fun m i hi => ?_) (fun m => ?_)
  · have hl : i < aL (aEdg A n (eTx v2 n (2 * n + 1))) := hi
    have f1 : aFe (aEdg A n (eTx v2 n (2 * n + 1))) i = 97 + lo (wshr v2 (i : Int)) 4 := by
      rw [aEdg_get.2.1, eTx_get v2 n _ _ (by omega)]
      exact (eCh_let (by omega)).1
    have f2 : aLe (aEdg A n (eTx v2 n (2 * n + 1))) i = 97 + lo (wshr v2 ((n + 1 + i : Nat) : Int)) 4 := by
      rw [aEdg_get.2.2.1, eTx_get v2 n _ _ (by omega)]
      exact (eCh_let (by omega)).1
    have e1 : ((97 + lo (wshr v2 (i : Int)) 4 : Nat) : Int) = (97 : Int) + (lo (wshr v2 (i : Int)) 4 : Int) := by omega
    have e2 : ((97 + lo (wshr v2 ((n + 1 + i : Nat) : Int)) 4 : Nat) : Int) = (97 : Int) + (lo (wshr v2 ((n + 1 + i : Nat) : Int)) 4 : Int) := by omega
    have e3 : (n : Int) + 1 + (i : Int) = ((n + 1 + i : Nat) : Int) := by omega
    obtain ⟨a1, a2, a3, a4⟩ := ar_w1 hi (Nat.le_trans h8 (by decide))
    show Lw_edges_L114 _ _ _ _ (m + 1) _ _ = Lw_edges_L114 _ _ _ _ m _ _
    rw [Lw_edges_L114, a1, a2, if_pos a3, x_line3 hX hW hl, Option.bind_some]
    dsimp only
    rw [show (4 : Int) = ((4 : Nat) : Int) from rfl, Lw_low_eq q _ (n := 4) (by decide) (by decide), Option.bind_some, f1, e1, if_pos rfl]
    rw [show ((4 : Nat) : Int) = (4 : Int) from rfl, x_line4 hX hW hl, Option.bind_some]
    dsimp only
    rw [show (4 : Int) = ((4 : Nat) : Int) from rfl, Lw_low_eq q _ (n := 4) (by decide) (by decide), Option.bind_some, e3, f2, e2, if_pos rfl, a4]
  · show Lw_edges_L114 _ _ _ _ (m + 1) _ _ = _
    rw [Lw_edges_L114, if_neg (Int.lt_irrefl _)]
theorem Lw_edges_eq (h : zSt q A tx) (v1 v2 : Int) : ∃ q' B tx', Lw_edges q v1 v2 = some (1, q') ∧ zGd q' B tx' := by
  have hlo := lo_lt v1 (n := 5) (by decide)
  have en : (1 : Int) + (lo v1 5 : Int) = ((1 + lo v1 5 : Nat) : Int) := by omega
  obtain ⟨q1, c1, c2⟩ := s_clear h
  have h0 : 0 < 1 + lo v1 5 := by omega
  have h8 : 1 + lo v1 5 ≤ 8 := by omega
  generalize 1 + lo v1 5 = n at *
  obtain ⟨eok, ehalf⟩ := eTx_ok (h := v2) h0 h8
  obtain ⟨q2, r1, r2⟩ := edges_L16 v1 v2 h0 h8 (fun v4_11 q_12 => 
        (Ev_setEdges q_12 ).bind fun r_13 =>
          if wrap r_13.1 = wrap (n : Int) then
            (Ev_count r_13.2 (1 : Int)).bind fun r_15 =>
              if wrap r_15 = wrap (n : Int) then
                (Ev_count r_13.2 (2 : Int)).bind fun r_17 =>
                  if wrap r_17 = (0 : Int) then
                    Lw_edges_L114 v1 v2 (n : Int) (fun v4_26 q_27 => 
                      some ((1 : Int), q_27)) 5000 (0 : Int) r_13.2
                  else
                    some ((0 : Int), r_13.2)
              else
                some ((0 : Int), r_13.2)
          else
            some ((0 : Int), r_13.2)) (2 * n + 1) 0 5000 q1 (Nat.zero_add _) (by omega) c2
  obtain ⟨q3, s1, s2⟩ := s_edges_ok r2 eok
  rw [ehalf] at s1 s2
  have hX := zSt_rx s2
  have hW := zSt_wf s2
  refine ⟨q3, _, _, ?_, s2, zIv_empty (fun l => rfl)⟩
  unfold Lw_edges
  rw [show (5 : Int) = ((5 : Nat) : Int) from rfl, Lw_low_eq q _ (n := 5) (by decide) (by decide), Option.bind_some, c1, Option.bind_some]
  dsimp only
  rw [en]
  refine Eq.trans r1 ?_
  rw [s1, Option.bind_some]
  dsimp only
  rw [if_pos rfl, x_count1 hX hW, Option.bind_some, show aL (aEdg A n (eTx v2 n (2 * n + 1))) = n from rfl, if_pos rfl, x_count2 hX hW, Option.bind_some, made_none (fun l => rfl), if_pos (by decide), edges_L114 v1 v2 h0 h8 s2]
end ED

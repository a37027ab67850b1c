/-! keep, restore, type, clearText: the class; and both together -/
section SX
variable {q : zM} {A : zT9} {hs : List zT9} {sn : Nat → Option zT9} {tx : List Nat}
theorem Sn_has_eq {v : Int} (hv : -2147483648 ≤ v ∧ v < 2147483648) : Sn_has q v = some (if 0 ≤ v ∧ v ≤ 1 then 1 else 0) := by
  unfold Sn_has
  rw [wrap_eq hv]
  by_cases h1 : v < 0
  · rw [if_pos h1, if_neg (by omega)]
  · rw [if_neg h1]
    by_cases h2 : v < 2
    · rw [if_pos h2, if_pos (by omega)]
    · rw [if_neg h2, if_neg (by omega)]
theorem Ev_keep_out {v : Int} (hv : -2147483648 ≤ v ∧ v < 2147483648) (ho : ¬ (0 ≤ v ∧ v ≤ 1)) : Ev_keep q v = some (-1, q) := by
  unfold Ev_keep
  rw [Sn_has_eq hv, Option.bind_some, if_neg ho, if_pos zero_eq]
theorem Ev_keep_in (h : zGX q A hs sn tx) (hk : zOK A hs sn tx) {s : Nat} (hs2 : s < 2) : ∃ q', Ev_keep q (s : Int) = some ((aN A : Int), q') ∧ zGX q' A hs (snUp sn s A) tx ∧ zFX q q' := by
  obtain ⟨k1, k2, k3, k4, -⟩ := hk
  obtain ⟨g1, g2, g3, ⟨o, g4, g5, g6, g7⟩, g8⟩ := h
  have e0 : Sn_take q (s : Int) = some (qs (stCp q 5 (88 + 13 * s)) 87 s 1) := by
    unfold Sn_take
    rw [Sn_has_eq (by omega), Option.bind_some, if_pos (c := (0 : Int) ≤ (s : Int) ∧ (s : Int) ≤ 1) (by omega), if_neg one_ne, wrap_n (n := s) (by omega)]
    match s, hs2 with
    | 0, _ => rw [if_pos (by decide), St_copyFrom_88_5_eq, Option.bind_some, ck_in (by decide)]; rfl
    | 1, _ => rw [if_neg (by decide), if_pos (by decide), St_copyFrom_101_5_eq, Option.bind_some, ck_in (by decide)]; rfl
  unfold Ev_keep Ws_size
  rw [Sn_has_eq (by omega), Option.bind_some, if_pos (c := (0 : Int) ≤ (s : Int) ∧ (s : Int) ≤ 1) (by omega), if_neg one_ne, e0, Option.bind_some, Option.bind_some]
  have fr : ∀ a, (a < 88 + 13 * s ∨ 88 + 13 * s + 12 < a) → (stCp q 5 (88 + 13 * s)).1 a = q.1 a ∧ (stCp q 5 (88 + 13 * s)).2 a = q.2 a := fun a ha => stCp_fr q ha
  have rx := stCp_rx (q := q) (s := 5) (d := 88 + 13 * s) (by omega) k1 g1
  generalize hr : stCp q 5 (88 + 13 * s) = r at fr rx
  have f2 : ∀ a, a ≠ 87 → (qs r 87 s 1).1 a = r.1 a := fun a ha => funext fun k => by rw [qs_at, if_neg (by omega)]
  have rr : ∀ {s' : Nat} {B : zT9}, s' + 12 < 87 ∨ 87 < s' → zRX r s' B → zRX (qs r 87 s 1) s' B := fun hs' hb => zRX_congr (fun a h1 h2 => ⟨f2 a (by omega), rfl⟩) hb
  have rq : ∀ {s' : Nat} {B : zT9}, (s' + 12 < 88 + 13 * s ∨ 88 + 13 * s + 12 < s') → zRX q s' B → zRX r s' B := fun hs' hb => zRX_congr (fun a h1 h2 => fr a (by omega)) hb
  have e1 : (qs r 87 s 1).1 6 0 = aN A := by rw [f2 6 (by omega), (fr 6 (by omega)).1]; exact g1.1
  rw [e1]
  refine ⟨_, rfl, ⟨rr (by omega) (rq (by omega) g1), ?_, fun i hi => ?_, ⟨o, g4, ?_, ?_, fun j hj => rr (by omega) (rq (by omega) (g7 j hj))⟩, fun i hi => ⟨?_, fun A' hA => ?_⟩⟩, fun a ha => ?_⟩
  · rw [f2 2 (by omega), (fr 2 (by omega)).1]; exact g2
  · rw [f2 3 (by omega), (fr 3 (by omega)).1]; exact g3 i hi
  · rw [f2 18 (by omega), (fr 18 (by omega)).1]; exact g5
  · rw [f2 18 (by omega), (fr 18 (by omega)).1]; exact g6
  · rw [qs_at]
    unfold snUp
    by_cases e : i = s
    · subst e; simp
    · rw [if_neg (by omega), if_neg e, (fr 87 (by omega)).1]; exact (g8 i hi).1
  · unfold snUp at hA
    by_cases e : i = s
    · subst e
      rw [if_pos rfl] at hA
      cases hA
      exact rr (by omega) rx
    · rw [if_neg e] at hA
      exact rr (by omega) (rq (by omega) ((g8 i hi).2 A' hA))
  · rw [f2 a (by omega)]
    exact (fr a (by omega)).1
theorem Sn_isTaken_eq (h : zGX q A hs sn tx) {s : Nat} (hs2 : s < 2) : Sn_isTaken q (s : Int) = some (if (sn s).isSome then 1 else 0) := by
  unfold Sn_isTaken
  rw [Sn_has_eq (by omega), Option.bind_some, if_pos (c := (0 : Int) ≤ (s : Int) ∧ (s : Int) ≤ 1) (by omega), if_neg one_ne, wrap_n (n := s) (by omega), ck_in (by omega), Int.toNat_natCast, (h.2.2.2.2 s hs2).1]
  cases (sn s).isSome <;> rfl
theorem Ev_restore_out {v : Int} (hv : -2147483648 ≤ v ∧ v < 2147483648) (ho : ¬ (0 ≤ v ∧ v ≤ 1)) : Ev_restore q v = some (-1, q) := by
  unfold Ev_restore
  rw [Sn_has_eq hv, Option.bind_some, if_neg ho, if_pos zero_eq]
theorem Ev_restore_none (h : zGX q A hs sn tx) {s : Nat} (hs2 : s < 2) (hn : sn s = none) : Ev_restore q (s : Int) = some (-5, q) := by
  unfold Ev_restore
  rw [Sn_has_eq (by omega), Option.bind_some, if_pos (c := (0 : Int) ≤ (s : Int) ∧ (s : Int) ≤ 1) (by omega), if_neg one_ne, Sn_isTaken_eq h hs2, hn, Option.bind_some, show (if (none : Option zT9).isSome = true then (1 : Int) else 0) = 0 from rfl, if_pos zero_eq]
theorem Ev_restore_some (h : zGX q A hs sn tx) (hk : zOK A hs sn tx) {s : Nat} (hs2 : s < 2) {B : zT9} (hn : sn s = some B) : ∃ q', Ev_restore q (s : Int) = some ((aN B : Int), q') ∧ zGX q' B (pushH hs A) sn tx ∧ zFX q q' := by
  have hB := hk.2.2.2.1 s B hn
  unfold Ev_restore Ws_size
  rw [Sn_has_eq (by omega), Option.bind_some, if_pos (c := (0 : Int) ≤ (s : Int) ∧ (s : Int) ≤ 1) (by omega), if_neg one_ne, Sn_isTaken_eq h hs2, hn, Option.bind_some, show (if (some B).isSome = true then (1 : Int) else 0) = 1 from rfl, if_neg one_ne]
  obtain ⟨q1, r1, r2, r3⟩ := record_eq h hk
  rw [r1, Option.bind_some]
  have e0 : Sn_copyTo q1 (s : Int) = some (stCp q1 (88 + 13 * s) 5) := by
    unfold Sn_copyTo
    rw [Sn_isTaken_eq r2 hs2, hn, Option.bind_some, show (if (some B).isSome = true then (1 : Int) else 0) = 1 from rfl, if_neg one_ne, wrap_n (n := s) (by omega)]
    match s, hs2 with
    | 0, _ => rw [if_pos (by decide), St_copyFrom_5_88_eq]; rfl
    | 1, _ => rw [if_neg (by decide), if_pos (by decide), St_copyFrom_5_101_eq]; rfl
  rw [e0, Option.bind_some, Option.bind_some]
  obtain ⟨g1, g2, g3, ⟨o, g4, g5, g6, g7⟩, g8⟩ := r2
  have fr : ∀ a, (a < 5 ∨ 17 < a) → (stCp q1 (88 + 13 * s) 5).1 a = q1.1 a ∧ (stCp q1 (88 + 13 * s) 5).2 a = q1.2 a := fun a ha => stCp_fr _ (by omega)
  have rx := stCp_rx (q := q1) (s := 88 + 13 * s) (d := 5) (by omega) hB ((g8 s hs2).2 B hn)
  have rq : ∀ {s' : Nat} {B : zT9}, 17 < s' → zRX q1 s' B → zRX (stCp q1 (88 + 13 * s) 5) s' B := fun hs' hb => zRX_congr (fun a h1 h2 => fr a (by omega)) hb
  rw [show (stCp q1 (88 + 13 * s) 5).1 6 0 = aN B from rx.1]
  refine ⟨_, rfl, ⟨rx, ?_, fun i hi => ?_, ⟨o, g4, ?_, ?_, fun j hj => rq (by omega) (g7 j hj)⟩, fun i hi => ⟨?_, fun A' hA => rq (by omega) ((g8 i hi).2 A' hA)⟩⟩, fun a ha => ?_⟩
  · rw [(fr 2 (by omega)).1]; exact g2
  · rw [(fr 3 (by omega)).1]; exact g3 i hi
  · rw [(fr 18 (by omega)).1]; exact g5
  · rw [(fr 18 (by omega)).1]; exact g6
  · rw [(fr 87 (by omega)).1]; exact (g8 i hi).1
  · rw [(fr a (by omega)).1]; exact (r3 a (by omega)).1
theorem getD_snoc (tx : List Nat) (c : Nat) {i : Nat} (hi : i < (tx ++ [c]).length) : (tx ++ [c]).getD i 0 = if i = tx.length then c else tx.getD i 0 := by
  rw [List.getD_eq_getElem?_getD]
  by_cases e : i = tx.length
  · subst e
    rw [if_pos rfl, List.getElem?_append_right (Nat.le_refl _)]
    simp
  · rw [if_neg e, List.getElem?_append_left (by simp at hi; omega), ← List.getD_eq_getElem?_getD]
theorem Ev_type_eq (h : zGX q A hs sn tx) (hk : zOK A hs sn tx) {c : Nat} (hc : c < 65536) : ∃ q', Ev_type q (c : Int) = some (if tx.length < 40 then ((tx.length + 1 : Nat) : Int) else -3, q') ∧ zGX q' A hs sn (if tx.length < 40 then tx ++ [c] else tx) ∧ zFX q q' := by
  have ht := hk.2.2.2.2.1
  obtain ⟨g1, g2, g3, ⟨o, g4, g5, g6, g7⟩, g8⟩ := h
  unfold Ev_type Te_append
  rw [g2, wrap_n (by omega)]
  by_cases h4 : tx.length < 40
  · rw [if_pos (by omega), if_pos h4, if_pos h4, ck_in (by omega), Int.toNat_natCast]
    unfold Te_append_b21 Te_size
    rw [Option.bind_some, if_neg one_ne, Option.bind_some]
    have e1 : (qs q 3 tx.length (c : Int)).1 2 1 = tx.length := by rw [qs_at, if_neg (by omega)]; exact g2
    rw [e1]
    have f2 : ∀ a, a ≠ 2 → a ≠ 3 → (qs (qs q 3 tx.length (c : Int)) 2 1 ((tx.length : Int) + 1)).1 a = q.1 a := fun a h1 h2 => funext fun k => by rw [qs_at, if_neg (by omega), qs_at, if_neg (by omega)]
    have rr : ∀ {s' : Nat} {B : zT9}, 3 < s' → zRX q s' B → zRX (qs (qs q 3 tx.length (c : Int)) 2 1 ((tx.length : Int) + 1)) s' B := fun hs' hb => zRX_congr (fun a h1 h2 => ⟨f2 a (by omega) (by omega), rfl⟩) hb
    have e2 : (qs (qs q 3 tx.length (c : Int)) 2 1 ((tx.length : Int) + 1)).1 2 1 = ((tx.length + 1 : Nat) : Int) := by rw [qs_at, if_pos ⟨rfl, rfl⟩]; omega
    refine ⟨_, by rw [e2], ⟨rr (by omega) g1, ?_, fun i hi => ?_, ⟨o, g4, by rw [f2 18 (by omega) (by omega)]; exact g5, by rw [f2 18 (by omega) (by omega)]; exact g6, fun j hj => rr (by omega) (g7 j hj)⟩, fun i hi => ⟨by rw [f2 87 (by omega) (by omega)]; exact (g8 i hi).1, fun A' hA => rr (by omega) ((g8 i hi).2 A' hA)⟩⟩, fun a ha => f2 a (by omega) (by omega)⟩
    · rw [e2]; simp
    · rw [qs_at, if_neg (by omega), qs_at, getD_snoc tx c hi]
      by_cases e : i = tx.length
      · rw [if_pos (by omega), if_pos e]
      · rw [if_neg (by omega), if_neg e]
        simp at hi
        exact g3 i (by omega)
  · rw [if_neg (by omega), if_neg h4, if_neg h4, Option.bind_some, if_pos zero_eq]
    exact ⟨q, rfl, ⟨g1, g2, g3, ⟨o, g4, g5, g6, g7⟩, g8⟩, fun a _ => rfl⟩
theorem Ev_clearText_eq (h : zGX q A hs sn tx) : ∃ q', Ev_clearText q = some ((tx.length : Int), q') ∧ zGX q' A hs sn [] ∧ zFX q q' := by
  obtain ⟨g1, g2, g3, ⟨o, g4, g5, g6, g7⟩, g8⟩ := h
  unfold Ev_clearText Te_size Te_empty
  rw [Option.bind_some, Option.bind_some, g2]
  have f2 : ∀ a, a ≠ 2 → (qs q 2 1 0).1 a = q.1 a := fun a h1 => funext fun k => by rw [qs_at, if_neg (by omega)]
  have rr : ∀ {s' : Nat} {B : zT9}, 3 < s' → zRX q s' B → zRX (qs q 2 1 0) s' B := fun hs' hb => zRX_congr (fun a h1 h2 => ⟨f2 a (by omega), rfl⟩) hb
  refine ⟨_, rfl, ⟨rr (by omega) g1, ?_, fun i hi => absurd hi (by simp), ⟨o, g4, by rw [f2 18 (by omega)]; exact g5, by rw [f2 18 (by omega)]; exact g6, fun j hj => rr (by omega) (g7 j hj)⟩, fun i hi => ⟨by rw [f2 87 (by omega)]; exact (g8 i hi).1, fun A' hA => rr (by omega) ((g8 i hi).2 A' hA)⟩⟩, fun a ha => f2 a (by omega)⟩
  rw [qs_at, if_pos ⟨rfl, rfl⟩]; rfl
end SX

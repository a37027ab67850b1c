/-! undo, keep, restore, type, clearText: the reference -/
/-- nothing below the reference's cells has changed -/
def zFM (q q' : zM) : Prop := (∀ a, a < 126 → q'.1 a = q.1 a) ∧ q'.2 = q.2
def snUp (sn : Nat → Option zT9) (i : Nat) (A : zT9) : Nat → Option zT9 := fun j => if j = i then some A else sn j
/-- all states that are held are well formed -/
def zOK (A : zT9) (hs : List zT9) (sn : Nat → Option zT9) (tx : List Nat) : Prop := zWF A ∧ hs.length ≤ 5 ∧ (∀ A' ∈ hs, zWF A') ∧ (∀ i A', sn i = some A' → zWF A') ∧ tx.length ≤ 40 ∧ ∀ c ∈ tx, c < 65536
theorem getD_mem {hs : List zT9} {j : Nat} (h : j < hs.length) : hs.getD j zA0 ∈ hs := by
  rw [List.getD_eq_getElem?_getD, List.getElem?_eq_getElem h]
  exact List.getElem_mem _
section SM
variable {q : zM} {A : zT9} {hs : List zT9} {sn : Nat → Option zT9} {tx : List Nat}
theorem undo_L22_eq (q : zM) (K : Int → zM → Option (Int × zM)) {m : Nat} (hm : m < 5) (h3 : q.1 126 3 = m) : Mo_undo_L22 K 5000 0 q = K 244 (qc q 129 (244 * m) 127 0 244) := by
  refine Eq.trans (by rw [qc_zero q 129 (244 * m) 127 0]; rfl) (for_all (G := fun n i => Mo_undo_L22 K n (i : Int) (qc q 129 (244 * m) 127 0 i)) (N := 244) (by omega) (fun n i hi => ?_) (fun n => ?_))
  · show Mo_undo_L22 _ (n + 1) _ _ = Mo_undo_L22 _ n ((i + 1 : Nat) : Int) _
    have e := qc_step q (o := 129) (sp := 244 * m) (d := 127) (dp := 0) (i := i) (by omega)
    simp only [Nat.zero_add] at e
    have e3 : (qc q 129 (244 * m) 127 0 i).1 126 3 = m := by rw [qc_at, if_neg (by omega), h3]
    rw [Mo_undo_L22, e3, wrap_n (n := i) (by omega), if_pos (by omega), show ((244 : Int) * (m : Int) + (i : Int)) = ((244 * m + i : Nat) : Int) by omega, wrap_n (by omega), ck_in (by omega), ck_in (by omega), Int.toNat_natCast, Int.toNat_natCast, e]
    rfl
  · show Mo_undo_L22 _ (n + 1) _ _ = _
    rw [Mo_undo_L22, if_neg (by decide)]
    rfl
theorem Mo_undo_none (h : zGM q A hs sn tx) (he : hs = []) : Mo_undo q = some (-5, q) := by
  unfold Mo_undo
  rw [h.2.2.2.1, he, if_pos (by decide)]
theorem Mo_undo_some (h : zGM q A hs sn tx) (hk : zOK A hs sn tx) (he : hs ≠ []) : ∃ q', Mo_undo q = some (((hs.length - 1 : Nat) : Int), q') ∧ zGM q' (hs.getD (hs.length - 1) zA0) hs.dropLast sn tx ∧ zFM q q' := by
  obtain ⟨k1, k2, k3, k4, -⟩ := hk
  obtain ⟨g1, g2, g3, g4, g5, g6⟩ := h
  have hpos : 0 < hs.length := List.length_pos_iff.mpr he
  unfold Mo_undo
  rw [g4, wrap_n (by omega), if_neg (by omega)]
  unfold Mo_undo_b20
  have e1 : (qs q 126 3 ((hs.length : Int) - 1)).1 126 3 = ((hs.length - 1 : Nat) : Int) := by rw [qs_at, if_pos ⟨rfl, rfl⟩]; omega
  rw [undo_L22_eq _ _ (m := hs.length - 1) (by omega) e1]
  have e2 : (qc (qs q 126 3 ((hs.length : Int) - 1)) 129 (244 * (hs.length - 1)) 127 0 244).1 126 3 = ((hs.length - 1 : Nat) : Int) := by rw [qc_at, if_neg (by omega), e1]
  rw [e2]
  refine ⟨_, rfl, ⟨?_, ?_, fun i hi => ?_, ?_, fun j hj => ?_, fun i hi => ⟨?_, fun A' hA => ?_⟩⟩, fun a ha => ?_, rfl⟩
  · refine zRM_congr (k3 _ (getD_mem (by omega))) (fun k hk => ?_) (g5 (hs.length - 1) (by omega))
    show (qc _ _ _ _ _ _).1 127 k = q.1 129 (244 * (hs.length - 1) + k)
    rw [qc_at, if_pos (by omega), qs_at, if_neg (by omega), Nat.sub_zero]
  · rw [qc_at, if_neg (by omega), qs_at, if_neg (by omega)]; exact g2
  · rw [qc_at, if_neg (by omega), qs_at, if_neg (by omega)]; exact g3 i hi
  · rw [e2, List.length_dropLast]
  · rw [List.length_dropLast] at hj
    have eg : hs.dropLast.getD j zA0 = hs.getD j zA0 := by
      rw [List.getD_eq_getElem?_getD, List.getD_eq_getElem?_getD, List.getElem?_dropLast, if_pos hj]
    rw [eg]
    refine zRM_congr (k3 _ (getD_mem (by omega))) (fun k hk => ?_) (g5 j (by omega))
    show (qc _ _ _ _ _ _).1 129 _ = _
    rw [qc_at, if_neg (by omega), qs_at, if_neg (by omega)]
  · rw [qc_at, if_neg (by omega), qs_at, if_neg (by omega)]; exact (g6 i hi).1
  · refine zRM_congr (k4 _ _ hA) (fun k hk => ?_) ((g6 i hi).2 A' hA)
    show (qc _ _ _ _ _ _).1 130 _ = _
    rw [qc_at, if_neg (by omega), qs_at, if_neg (by omega)]
  · funext k
    rw [qc_at, if_neg (by omega), qs_at, if_neg (by omega)]
theorem keep_L20_eq (q : zM) (K : Int → zM → Option (Int × zM)) {s : Nat} (hs : s < 2) : Mo_keep_L20 (s : Int) K 5000 0 q = K 244 (qc q 127 0 130 (244 * s) 244) := by
  refine Eq.trans (by rw [qc_zero q 127 0 130 (244 * s)]; rfl) (for_all (G := fun n i => Mo_keep_L20 (s : Int) K n (i : Int) (qc q 127 0 130 (244 * s) i)) (N := 244) (by omega) (fun n i hi => ?_) (fun n => ?_))
  · show Mo_keep_L20 _ _ (n + 1) _ _ = Mo_keep_L20 _ _ n ((i + 1 : Nat) : Int) _
    have e := qc_step q (o := 127) (sp := 0) (d := 130) (dp := 244 * s) (i := i) (by omega)
    simp only [Nat.zero_add] at e
    rw [Mo_keep_L20, wrap_n (n := i) (by omega), if_pos (by omega), ck_in (by omega), Int.toNat_natCast, show ((244 : Int) * (s : Int) + (i : Int)) = ((244 * s + i : Nat) : Int) by omega, wrap_n (by omega), ck_in (by omega), Int.toNat_natCast, e]
    rfl
  · show Mo_keep_L20 _ _ (n + 1) _ _ = _
    rw [Mo_keep_L20, if_neg (by decide)]
    rfl
theorem restore_L29_eq (q : zM) (K : Int → zM → Option (Int × zM)) {s : Nat} (hs : s < 2) : Mo_restore_L29 (s : Int) K 5000 0 q = K 244 (qc q 130 (244 * s) 127 0 244) := by
  refine Eq.trans (by rw [qc_zero q 130 (244 * s) 127 0]; rfl) (for_all (G := fun n i => Mo_restore_L29 (s : Int) K n (i : Int) (qc q 130 (244 * s) 127 0 i)) (N := 244) (by omega) (fun n i hi => ?_) (fun n => ?_))
  · show Mo_restore_L29 _ _ (n + 1) _ _ = Mo_restore_L29 _ _ n ((i + 1 : Nat) : Int) _
    have e := qc_step q (o := 130) (sp := 244 * s) (d := 127) (dp := 0) (i := i) (by omega)
    simp only [Nat.zero_add] at e
    rw [Mo_restore_L29, wrap_n (n := i) (by omega), if_pos (by omega), show ((244 : Int) * (s : Int) + (i : Int)) = ((244 * s + i : Nat) : Int) by omega, wrap_n (by omega), ck_in (by omega), ck_in (by omega), Int.toNat_natCast, Int.toNat_natCast, e]
    rfl
  · show Mo_restore_L29 _ _ (n + 1) _ _ = _
    rw [Mo_restore_L29, if_neg (by decide)]
    rfl
theorem Mo_keep_out {v : Int} (hv : -2147483648 ≤ v ∧ v < 2147483648) (ho : ¬ (0 ≤ v ∧ v ≤ 1)) : Mo_keep q v = some (-1, q) := by
  unfold Mo_keep
  rw [Mo_in_eq hv (by decide) (by decide), Option.bind_some, if_neg ho, if_pos zero_eq]
theorem Mo_keep_in (h : zGM q A hs sn tx) (hk : zOK A hs sn tx) {s : Nat} (hs2 : s < 2) : ∃ q', Mo_keep q (s : Int) = some ((aN A : Int), q') ∧ zGM q' A hs (snUp sn s A) tx ∧ zFM q q' := by
  obtain ⟨k1, k2, k3, k4, -⟩ := hk
  obtain ⟨g1, g2, g3, g4, g5, g6⟩ := h
  unfold Mo_keep
  rw [Mo_in_eq (by omega) (by decide) (by decide), Option.bind_some, if_pos (c := (0 : Int) ≤ (s : Int) ∧ (s : Int) ≤ 1) (by omega), if_neg one_ne, wrap_n (n := s) (by omega), ck_in (by omega), Int.toNat_natCast]
  unfold Mo_keep_b18
  rw [keep_L20_eq _ _ hs2]
  have e0 : (qc (qs q 131 s (1 % 2)) 127 0 130 (244 * s) 244).1 127 0 = (aN A : Int) := by rw [qc_at, if_neg (by omega), qs_at, if_neg (by omega)]; exact g1.1
  rw [e0]
  refine ⟨_, rfl, ⟨?_, ?_, fun i hi => ?_, ?_, fun j hj => ?_, fun i hi => ⟨?_, fun A' hA => ?_⟩⟩, fun a ha => ?_, rfl⟩
  · refine zRM_congr k1 (fun k hk => ?_) g1
    rw [qc_at, if_neg (by omega), qs_at, if_neg (by omega)]
  · rw [qc_at, if_neg (by omega), qs_at, if_neg (by omega)]; exact g2
  · rw [qc_at, if_neg (by omega), qs_at, if_neg (by omega)]; exact g3 i hi
  · rw [qc_at, if_neg (by omega), qs_at, if_neg (by omega)]; exact g4
  · refine zRM_congr (k3 _ (getD_mem (by omega))) (fun k hk => ?_) (g5 j hj)
    show (qc _ _ _ _ _ _).1 129 _ = _
    rw [qc_at, if_neg (by omega), qs_at, if_neg (by omega)]
  · rw [qc_at, if_neg (by omega), qs_at]
    unfold snUp
    by_cases e : i = s
    · subst e; simp
    · rw [if_neg (by omega), if_neg e]; exact (g6 i hi).1
  · unfold snUp at hA
    by_cases e : i = s
    · subst e
      rw [if_pos rfl] at hA
      cases hA
      refine zRM_congr k1 (fun k hk => ?_) g1
      show (qc _ _ _ _ _ _).1 130 _ = _
      rw [qc_at, if_pos (by omega), qs_at, if_neg (by omega), show 0 + (244 * i + k - 244 * i) = k by omega]
    · rw [if_neg e] at hA
      refine zRM_congr (k4 _ _ hA) (fun k hk => ?_) ((g6 i hi).2 A' hA)
      show (qc _ _ _ _ _ _).1 130 _ = _
      rw [qc_at, if_neg (by omega), qs_at, if_neg (by omega)]
  · funext k
    rw [qc_at, if_neg (by omega), qs_at, if_neg (by omega)]
theorem Mo_restore_out {v : Int} (hv : -2147483648 ≤ v ∧ v < 2147483648) (ho : ¬ (0 ≤ v ∧ v ≤ 1)) : Mo_restore q v = some (-1, q) := by
  unfold Mo_restore
  rw [Mo_in_eq hv (by decide) (by decide), Option.bind_some, if_neg ho, if_pos zero_eq]
theorem Mo_restore_none (h : zGM q A hs sn tx) {s : Nat} (hs2 : s < 2) (hn : sn s = none) : Mo_restore q (s : Int) = some (-5, q) := by
  unfold Mo_restore
  rw [Mo_in_eq (by omega) (by decide) (by decide), Option.bind_some, if_pos (c := (0 : Int) ≤ (s : Int) ∧ (s : Int) ≤ 1) (by omega), if_neg one_ne, wrap_n (n := s) (by omega), ck_in (by omega), Int.toNat_natCast, (h.2.2.2.2.2 s hs2).1, hn, show (if (none : Option zT9).isSome = true then (1 : Int) else 0) = 0 from rfl, if_pos zero_eq]
/-- an act of the reference: begin() and done() around what changes the row alone -/
theorem zGM_done (h : zGM q A hs sn tx) (hk : zOK A hs sn tx) {q1 : zM} {B : zT9} (hB : zWF B) (h1 : zRM (q1.1 127) B) (hsc : ∀ k, k < 244 → q1.1 128 k = q.1 127 k) (h6 : q1.1 126 6 = q.1 126 6) (h3 : q1.1 126 3 = q.1 126 3) (ho : ∀ a, a = 129 ∨ a = 130 ∨ a = 131 ∨ a = 132 → q1.1 a = q.1 a) {v : Int} (hv : 0 ≤ v ∧ v < 2147483648) : ∃ q', Mo_done q1 v = some (v, q') ∧ zGM q' B (pushH hs A) sn tx ∧ q'.2 = q1.2 ∧ ∀ a, a < 126 → q'.1 a = q1.1 a := by
  obtain ⟨k1, k2, k3, k4, -⟩ := hk
  obtain ⟨g1, g2, g3, g4, g5, g6⟩ := h
  obtain ⟨q', r1, r2, r3, r4, r5⟩ := Mo_done_eq (q := q1) (hs := hs) (B := A) hv k1 k3 k2 (h3.trans g4) (fun j hj => by rw [ho 129 (Or.inl rfl)]; exact g5 j hj) (zRM_congr k1 (fun k hk => hsc k hk) g1)
  refine ⟨q', r1, ⟨?_, ?_, fun i hi => ?_, r4, r5, fun i hi => ⟨?_, fun A' hA => ?_⟩⟩, r2, fun a ha => funext fun k => r3 a k (by omega) (Or.inl (by omega))⟩
  · exact zRM_congr hB (fun k hk => r3 127 k (by omega) (Or.inl (by omega))) h1
  · rw [r3 126 6 (by omega) (Or.inr (by omega)), h6]; exact g2
  · rw [r3 132 i (by omega) (Or.inl (by omega)), ho 132 (by omega)]; exact g3 i hi
  · rw [r3 131 i (by omega) (Or.inl (by omega)), ho 131 (by omega)]; exact (g6 i hi).1
  · refine zRM_congr (k4 _ _ hA) (fun k hk => ?_) ((g6 i hi).2 A' hA)
    show q'.1 130 _ = _
    rw [r3 130 _ (by omega) (Or.inl (by omega)), ho 130 (by omega)]
theorem Mo_restore_some (h : zGM q A hs sn tx) (hk : zOK A hs sn tx) {s : Nat} (hs2 : s < 2) {B : zT9} (hn : sn s = some B) : ∃ q', Mo_restore q (s : Int) = some ((aN B : Int), q') ∧ zGM q' B (pushH hs A) sn tx ∧ zFM q q' := by
  have hB := hk.2.2.2.1 s B hn
  have hBn := hB.1
  unfold Mo_restore
  rw [Mo_in_eq (by omega) (by decide) (by decide), Option.bind_some, if_pos (c := (0 : Int) ≤ (s : Int) ∧ (s : Int) ≤ 1) (by omega), if_neg one_ne, wrap_n (n := s) (by omega), ck_in (by omega), Int.toNat_natCast, (h.2.2.2.2.2 s hs2).1, hn, show (if (some B).isSome = true then (1 : Int) else 0) = 1 from rfl, if_neg one_ne, Mo_begin_eq, Option.bind_some, restore_L29_eq _ _ hs2]
  have hrow : zRM ((qc (qc q 127 0 128 0 244) 130 (244 * s) 127 0 244).1 127) B := by
    refine zRM_congr hB (fun k hk => ?_) ((h.2.2.2.2.2 s hs2).2 B hn)
    rw [qc_at, if_pos (by omega), qc_at, if_neg (by omega), Nat.sub_zero]
  rw [hrow.1]
  obtain ⟨q', r1, r2, r3, r4⟩ := zGM_done h hk (q1 := qc (qc q 127 0 128 0 244) 130 (244 * s) 127 0 244) hB hrow (fun k hk => by rw [qc_at, if_neg (by omega), qc_at, if_pos (by omega), Nat.sub_zero, Nat.zero_add]) (by rw [qc_at, if_neg (by omega), qc_at, if_neg (by omega)]) (by rw [qc_at, if_neg (by omega), qc_at, if_neg (by omega)]) (fun a ha => funext fun k => by rw [qc_at, if_neg (by omega), qc_at, if_neg (by omega)]) (v := (aN B : Int)) (by omega)
  refine ⟨q', by rw [r1]; rfl, r2, fun a ha => ?_, r3⟩
  rw [r4 a ha]
  funext k
  rw [qc_at, if_neg (by omega), qc_at, if_neg (by omega)]
end SM

/-! from the entry to the law's loop -/
def zq0 : zM := (zHB.2.1, zHB.2.2.1)
theorem hp_eta {h : zH} (h1 : h.1 = SH0) (h2 : h.2.2.2 = MR0) : h = hp (h.2.1, h.2.2.1) := by
  obtain ⟨a, b, c, d⟩ := h
  dsimp only at h1 h2
  subst h1
  subst h2
  rfl
theorem zHB_hp : zHB = hp zq0 := hp_eta zHB_ok.1 zHB_ok.2
theorem some_of_map {o : Option zR} (h : o.map (fun r => r.1) = some none) : o = some (none, (o.getD (none, zh0)).2) := by
  cases o with
  | none => cases h
  | some r =>
    obtain ⟨v, h2⟩ := r
    have hv : v = none := Option.some.inj h
    subst hv
    rfl
theorem isRecv_of {h : zH} {c m' o : Nat} {st : List zV} (hs : shp h o = some (.inl c)) (hc : cnm[c]? = some (clsOf m')) : isRecv h m' (vR (some o) :: st) = true := by
  unfold isRecv
  dsimp only
  rw [hs]
  exact decide_eq_true hc
theorem lk181_4 : ∃ d, lkp (mt_k.getD 181 []) 4 = some (.invokespecial 9, 3, 90, 0, 2, d) := ⟨_, rfl⟩
theorem lk181_8 : ∃ d, lkp (mt_k.getD 181 []) 8 = some (.new 10, 3, 10, 0, 0, d) := ⟨_, rfl⟩
theorem lk181_12 : ∃ d, lkp (mt_k.getD 181 []) 12 = some (.invokespecial 12, 3, 114, 0, 2, d) := ⟨_, rfl⟩
theorem st_call1 {E : zE} {h : zH} {ls : zL} (hs : shp h 1 = some (.inl 9)) : lstep E 181 (1, 7, 4, ls, [vR (some 1), vR (some 1)], h) = some (.inr (.inl (90, [vR (some 1)], h, fun r => (125, 2957, 7, ls, r.1.toList ++ [vR (some 1)], r.2)))) := by
  obtain ⟨d, hl⟩ := lk181_4
  unfold lstep
  dsimp only
  rw [hl]
  show (match cop 181 90 0 2 3 1 7 4 ls [vR (some 1), vR (some 1)] h with | some r => some (Sum.inr (Sum.inl r)) | none => none) = _
  have e : cop 181 90 0 2 3 1 7 4 ls [vR (some 1), vR (some 1)] h = some (90, [vR (some 1)], h, fun r => (125, 2957, 7, ls, r.1.toList ++ [vR (some 1)], r.2)) := by
    unfold cop
    rw [show isRecv h 90 ([vR (some 1), vR (some 1)].drop 0) = true from isRecv_of hs (by decide)]
    rfl
  rw [e]
theorem st_new2 {E : zE} {h : zH} {ls : zL} {st : List zV} (h1 : h.1.length = 125) (h2 : h.2.2.2.length = 126) : lstep E 181 (125, 2957, 8, ls, st, h) = some (.inl (126, 2981, 11, ls, vR (some 126) :: st, nuH h (.inl 10))) := by
  obtain ⟨d, hl⟩ := lk181_8
  unfold lstep
  dsimp only
  rw [hl]
  show (match newop 181 125 2957 (.inl 10) (fnum 10) h st with | some r => some (Sum.inl (r.1, r.2.1, 8 + 3, ls, r.2.2.1, r.2.2.2)) | none => none) = _
  unfold newop
  rw [h1, h2]
  rfl
theorem st_call2 {E : zE} {h : zH} {ls : zL} (hs : shp h 126 = some (.inl 10)) : lstep E 181 (126, 2981, 12, ls, [vR (some 126), vR (some 126)], h) = some (.inr (.inl (114, [vR (some 126)], h, fun r => (138, 7502, 15, ls, r.1.toList ++ [vR (some 126)], r.2)))) := by
  obtain ⟨d, hl⟩ := lk181_12
  unfold lstep
  dsimp only
  rw [hl]
  show (match cop 181 114 0 2 3 126 2981 12 ls [vR (some 126), vR (some 126)] h with | some r => some (Sum.inr (Sum.inl r)) | none => none) = _
  have e : cop 181 114 0 2 3 126 2981 12 ls [vR (some 126), vR (some 126)] h = some (114, [vR (some 126)], h, fun r => (138, 7502, 15, ls, r.1.toList ++ [vR (some 126)], r.2)) := by
    unfold cop
    rw [show isRecv h 114 ([vR (some 126), vR (some 126)].drop 0) = true from isRecv_of hs (by decide)]
    rfl
  rw [e]
theorem z_entry {E : zE} (hM : ∀ m, m < 182 → okM m = true) (hCW : ∀ m, m < 181 → okCb m = true ∧ okW m = true) : Ax E 181 (entF [vR (some 0)] zh0) = Ax E 181 (138, 7502, 18, [(0, vR (some 0)), (1, vR (some 1)), (2, vR (some 126)), (3, vI (0 : Int))], [], hp zq0) := by
  have hA : Ax E 90 (entF [vR (some 1)] (nuH zh0 (.inl 9))) = some (none, zHA) := Ax_iff.mpr ⟨4000, by rw [axn_E (E' := zE0) hM hCW _ _ _ (by decide)]; exact some_of_map zA_ok⟩
  have hB : Ax E 114 (entF [vR (some 126)] (nuH zHA (.inl 10))) = some (none, zHB) := Ax_iff.mpr ⟨4000, by rw [axn_E (E' := zE0) hM hCW _ _ _ (by decide)]; exact some_of_map zB_ok⟩
  have e1 : zgoN E 181 2 (entF [vR (some 0)] zh0) = some (1, 7, 4, [(0, vR (some 0))], [vR (some 1), vR (some 1)], nuH zh0 (.inl 9)) := rfl
  rw [zgoN_Ax 2 e1, Ax_call (st_call1 rfl)]
  show (Ax E 90 (entF [vR (some 1)] (nuH zh0 (.inl 9)))).bind _ = _
  rw [hA]
  generalize hh : zHA = h at hB
  have hl1 : h.1.length = 125 := by rw [← hh]; exact zHA_len.1
  have hl2 : h.2.2.2.length = 126 := by rw [← hh]; exact zHA_len.2
  have e2 : zgoN E 181 1 (125, 2957, 7, [(0, vR (some 0))], [vR (some 1)], h) = some (125, 2957, 8, [(0, vR (some 0)), (1, vR (some 1))], [], h) := rfl
  show Ax E 181 (125, 2957, 7, [(0, vR (some 0))], [vR (some 1)], h) = _
  rw [zgoN_Ax 1 e2, Ax_go (st_new2 hl1 hl2)]
  have hsh : shp (nuH h (.inl 10)) 126 = some (.inl 10) := by
    show (h.1 ++ [.inl 10])[125]? = _
    rw [List.getElem?_append_right (by omega), hl1]
    rfl
  generalize nuH h (.inl 10) = h2 at hsh hB
  have e3 : zgoN E 181 1 (126, 2981, 11, [(0, vR (some 0)), (1, vR (some 1))], [vR (some 126)], h2) = some (126, 2981, 12, [(0, vR (some 0)), (1, vR (some 1))], [vR (some 126), vR (some 126)], h2) := rfl
  rw [zgoN_Ax 1 e3, Ax_call (st_call2 hsh)]
  show (Ax E 114 (entF [vR (some 126)] h2)).bind _ = _
  rw [hB, zHB_hp]
  generalize zq0 = q
  have e4 : zgoN E 181 3 (138, 7502, 15, [(0, vR (some 0)), (1, vR (some 1))], [vR (some 126)], hp q) = some (138, 7502, 18, [(0, vR (some 0)), (1, vR (some 1)), (2, vR (some 126)), (3, vI (0 : Int))], [], hp q) := rfl
  exact zgoN_Ax 3 e4
/-- the claim, pure: the law's function answers 1 on every script -/
theorem z_law {E : zE} (hM : ∀ m, m < 182 → okM m = true) (hCW : ∀ m, m < 181 → okCb m = true ∧ okW m = true) {q' : zM} (h : Lw E zq0 = some (1, q')) : ∃ h', Ax E 181 (entF [vR (some 0)] zh0) = some (some (vI 1), h') := ⟨hp q', by rw [z_entry hM hCW]; exact T_Lw zq0 _ h⟩

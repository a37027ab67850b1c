/-! from the entry to the law's body -/
def zq0 : zM := (zHA.2.1, zHA.2.2.1)
theorem hp_eta {h : zH} (h1 : h.1 = SH0) (h2 : h.2.2.2 = MR0) : h = hp (h.2.1, h.2.2.1) := by
  obtain ⟨a, b, c, d⟩ := h
  dsimp only at h1 h2
  subst h1
  subst h2
  rfl
theorem zHA_hp : zHA = hp zq0 := hp_eta zHA_ok.1 zHA_ok.2
theorem some_of_map {o : Option zR} (h : o.map (fun r => r.1) = some none) : o = some (none, (o.getD (none, zh0)).2) := by
  cases o with
  | none => cases h
  | some r =>
    obtain ⟨v, h2⟩ := r
    have hv : v = none := Option.some.inj h
    subst hv
    rfl
theorem isRecv_of {h : zH} {c m' o : Nat} {st : List zV} (hs : shp h o = some (.inl c)) (hc : cnm[c]? = some (clsOf m')) : isRecv h m' (vR (some o) :: st) = true := by
  unfold isRecv
  dsimp only
  rw [hs]
  exact decide_eq_true hc
theorem lk125_4 : ∃ d, lkp (mt_k.getD 125 []) 4 = some (.invokespecial 92, 3, 89, 0, 2, d) := ⟨_, rfl⟩
theorem st_call1 {E : zE} {h : zH} {ls : zL} (hs : shp h 1 = some (.inl 9)) : lstep E 125 (1, 7, 4, ls, [vR (some 1), vR (some 1)], h) = some (.inr (.inl (89, [vR (some 1)], h, fun r => (125, 2957, 7, ls, r.1.toList ++ [vR (some 1)], r.2)))) := by
  obtain ⟨d, hl⟩ := lk125_4
  unfold lstep
  dsimp only
  rw [hl]
  show (match cop 125 89 0 2 3 1 7 4 ls [vR (some 1), vR (some 1)] h with | some r => some (Sum.inr (Sum.inl r)) | none => none) = _
  have e : cop 125 89 0 2 3 1 7 4 ls [vR (some 1), vR (some 1)] h = some (89, [vR (some 1)], h, fun r => (125, 2957, 7, ls, r.1.toList ++ [vR (some 1)], r.2)) := by
    unfold cop
    rw [show isRecv h 89 ([vR (some 1), vR (some 1)].drop 0) = true from isRecv_of hs (by decide)]
    rfl
  rw [e]
theorem z_entry {E : zE} (hM : ∀ m, m < 126 → okM m = true) (hCW : ∀ m, m < 125 → okCb m = true ∧ okW m = true) : Ax E 125 (entF [vR (some 0)] zh0) = Ax E 125 (125, 2957, 8, [(0, vR (some 0)), (1, vR (some 1))], [], hp zq0) := by
  have hA : Ax E 89 (entF [vR (some 1)] (nuH zh0 (.inl 9))) = some (none, zHA) := Ax_iff.mpr ⟨4000, by rw [axn_E (E' := zE0) hM hCW _ _ _ (by decide)]; exact some_of_map zA_ok⟩
  have e1 : zgoN E 125 2 (entF [vR (some 0)] zh0) = some (1, 7, 4, [(0, vR (some 0))], [vR (some 1), vR (some 1)], nuH zh0 (.inl 9)) := rfl
  rw [zgoN_Ax 2 e1, Ax_call (st_call1 rfl)]
  show (Ax E 89 (entF [vR (some 1)] (nuH zh0 (.inl 9)))).bind _ = _
  rw [hA, zHA_hp]
  generalize zq0 = q
  have e2 : zgoN E 125 1 (125, 2957, 7, [(0, vR (some 0))], [vR (some 1)], hp q) = some (125, 2957, 8, [(0, vR (some 0)), (1, vR (some 1))], [], hp q) := rfl
  exact zgoN_Ax 1 e2
/-- the claim, pure: the law's function answers 1 on every script -/
theorem z_law {E : zE} (hM : ∀ m, m < 126 → okM m = true) (hCW : ∀ m, m < 125 → okCb m = true ∧ okW m = true) {q' : zM} (h : Lw E zq0 = some (1, q')) : ∃ h', Ax E 125 (entF [vR (some 0)] zh0) = some (some (vI 1), h') := ⟨hp q', by rw [z_entry hM hCW]; exact T_Lw zq0 _ h⟩

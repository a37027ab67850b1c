/-! branches; whole numbers that stand for themselves -/
theorem B_lt {x y : Int} (h : x < y) : cmpB .lt x y = true := decide_eq_true h
theorem B_lt' {x y : Int} (h : ¬ x < y) : cmpB .lt x y = false := decide_eq_false h
theorem B_ge {x y : Int} (h : x < y) : cmpB .ge x y = false := by simp [cmpB, h]
theorem B_ge' {x y : Int} (h : ¬ x < y) : cmpB .ge x y = true := by simp only [cmpB, h, decide_false, Bool.not_false]
theorem B_gt {x y : Int} (h : y < x) : cmpB .gt x y = true := decide_eq_true h
theorem B_gt' {x y : Int} (h : ¬ y < x) : cmpB .gt x y = false := decide_eq_false h
theorem B_le {x y : Int} (h : y < x) : cmpB .le x y = false := by simp [cmpB, h]
theorem B_le' {x y : Int} (h : ¬ y < x) : cmpB .le x y = true := by simp only [cmpB, h, decide_false, Bool.not_false]
theorem B_eq {x y : Int} (h : x = y) : cmpB .eq x y = true := decide_eq_true h
theorem B_eq' {x y : Int} (h : ¬ x = y) : cmpB .eq x y = false := decide_eq_false h
theorem B_ne {x y : Int} (h : x = y) : cmpB .ne x y = false := by simp [cmpB, h]
theorem B_ne' {x y : Int} (h : ¬ x = y) : cmpB .ne x y = true := by simp [cmpB, h]
theorem J_icmp2 {E : zE} {m kc ks pc len a' b' c' d' : Nat} {ls : zL} {st : List zV} {h : zH} {off x y x' y' : Int} {cd : Jvm.ClassFile.Cond} (hl : lkp (mt_k.getD m []) pc = some (.if_icmp cd off, len, a', b', c', d')) (hx : wrap x = x') (hy : wrap y = y') {t : Bool} (ht : cmpB cd x' y' = t) : lstep E m (kc, ks, pc, ls, .inl y :: .inl x :: st, h) = some (.inl (kc, ks, cond t ((pc : Int) + off).toNat (pc + len), ls, st, h)) := J_icmp hl (by rw [hx, hy]; exact ht)
theorem J_if2 {E : zE} {m kc ks pc len a' b' c' d' : Nat} {ls : zL} {st : List zV} {h : zH} {off x x' : Int} {cd : Jvm.ClassFile.Cond} (hl : lkp (mt_k.getD m []) pc = some (.ifCond cd off, len, a', b', c', d')) (hx : wrap x = x') {t : Bool} (ht : cmpB cd x' 0 = t) : lstep E m (kc, ks, pc, ls, .inl x :: st, h) = some (.inl (kc, ks, cond t ((pc : Int) + off).toNat (pc + len), ls, st, h)) := J_if hl (by rw [hx]; exact ht)
theorem sop_ld {E : zE} {st : List zV} {h : zH} {i : Int} (hr : 0 ≤ wrap i ∧ wrap i < (E.1 : Int)) : sop E .iaload (.inl i :: .inr (.inr (some 0)) :: st) h = some (vI (E.2 (wrap i).toNat) :: st, h) := by
  simp only [sop]
  rw [if_pos hr]
theorem H_sld {E : zE} {kc ks pc len a' b' c' d' : Nat} {ls : zL} {st : List zV} {h : zH} {i : Int} (hl : lkp (mt_k.getD 124 []) pc = some (.iaload, len, a', b', c', d')) (hr : 0 ≤ wrap i ∧ wrap i < (E.1 : Int)) : lstep E 124 (kc, ks, pc, ls, .inl i :: .inr (.inr (some 0)) :: st, h) = some (.inl (kc, ks, pc + len, ls, vI (E.2 (wrap i).toNat) :: st, h)) := by
  unfold lstep
  dsimp only
  rw [hl]
  show (match sop E .iaload (.inl i :: .inr (.inr (some 0)) :: st) h with | some r => some (Sum.inl (kc, ks, pc + len, ls, r.1, r.2)) | none => none) = _
  rw [sop_ld hr]
theorem H_irem {E : zE} {m kc ks pc len a' b' c' d' : Nat} {ls : zL} {st : List zV} {h : zH} {x y : Int} (hl : lkp (mt_k.getD m []) pc = some (.irem, len, a', b', c', d')) (hy : ¬ wrap y = 0) : lstep E m (kc, ks, pc, ls, .inl y :: .inl x :: st, h) = some (.inl (kc, ks, pc + len, ls, vI (wrem x y) :: st, h)) := by
  unfold lstep
  dsimp only
  rw [hl]
  dsimp only [kin, lop, oId]
  rw [if_neg hy]
  rfl
theorem wl_m5 : wrap (-5) = (-5) := by decide
theorem wl_m4 : wrap (-4) = (-4) := by decide
theorem wl_m3 : wrap (-3) = (-3) := by decide
theorem wl_m2 : wrap (-2) = (-2) := by decide
theorem wl_m1 : wrap (-1) = (-1) := by decide
theorem wl_0 : wrap 0 = 0 := by decide
theorem wl_1 : wrap 1 = 1 := by decide
theorem wl_2 : wrap 2 = 2 := by decide
theorem wl_3 : wrap 3 = 3 := by decide
theorem wl_4 : wrap 4 = 4 := by decide
theorem wl_5 : wrap 5 = 5 := by decide
theorem wl_8 : wrap 8 = 8 := by decide
theorem wl_9 : wrap 9 = 9 := by decide
theorem wl_10 : wrap 10 = 10 := by decide
theorem wl_12 : wrap 12 = 12 := by decide
theorem wl_13 : wrap 13 = 13 := by decide
theorem wl_28 : wrap 28 = 28 := by decide
theorem wl_32 : wrap 32 = 32 := by decide
theorem wl_39 : wrap 39 = 39 := by decide
theorem wl_40 : wrap 40 = 40 := by decide
theorem wl_42 : wrap 42 = 42 := by decide
theorem wl_45 : wrap 45 = 45 := by decide
theorem wl_47 : wrap 47 = 47 := by decide
theorem wl_49 : wrap 49 = 49 := by decide
theorem wl_57 : wrap 57 = 57 := by decide
theorem wl_96 : wrap 96 = 96 := by decide
theorem wl_97 : wrap 97 = 97 := by decide
theorem wl_122 : wrap 122 = 122 := by decide
theorem wl_1000 : wrap 1000 = 1000 := by decide
theorem wl_1000000 : wrap 1000000 = 1000000 := by decide

/-! new cells, jumps, natives, the script -/
section ALO
variable {p : Program} {l : Launch} {e : Env} {R : Room} {s : State} {m : MethodId} {args : Array Value} {below : List Frame} {meth : Method} {c : Code} {H : Heap} {locs : List Loc} {cells slots : Nat} {Q : State → Prop}
variable {D : va_G} {cA : Nat → ClassId} {mm b base n0 a k cc d len pc kc' ks' nL : Nat} {lsA : Array Slot} {ls ls' : zL} {st st' : List zV} {h h' : zH} {ins : Instr}
theorem W_sz {g : JFrame} (k : H.size ≤ s.heap.size + cells → W p l e R s m args below meth c H locs cells slots Q g) : W p l e R s m args below meth c H locs cells slots Q g := fun T hT X => k (by rw [← hT]; exact X.heapSize) T hT X
theorem new_at {A : Nat → Prop} {H1 : Heap} {q : Nat} {ev : va_E} (hA : ∀ q, A q → base ≤ q) (hP : va_P D classes (wsO b base cA h ++ [(q, ev)]) H1) (hD : va_D A (wsO b base cA h ++ [(q, ev)])) (hz : H1.size ≤ base + h.1.length + 1) : q = base + h.1.length := by
  have hlen : (wsO b base cA h).length = h.1.length := by unfold wsO; simp
  have hq : (wsO b base cA h ++ [(q, ev)])[h.1.length]? = some (q, ev) := by
    rw [List.getElem?_append_right (by omega), hlen, Nat.sub_self]
    rfl
  have h1 := hA _ (hD.2 _ _ hq)
  have h2 := (hP _ _ hq).lt
  rcases Nat.lt_or_ge q (base + h.1.length) with h3 | h3
  · exfalso
    obtain ⟨i, hi⟩ : ∃ i, i = q - base := ⟨_, rfl⟩
    have hl : i < h.1.length := by omega
    have hw : (wsO b base cA h ++ [(q, ev)])[i]? = some (base + i, ceO b base cA h (i + 1) h.1[i]) := by
      rw [List.getElem?_append_left (by omega), wsO_get, List.getElem?_eq_getElem hl]
      rfl
    have := hD.1 _ _ _ _ hw hq (by show base + i = q; omega)
    omega
  · omega
theorem nu_ws {sh : zSh} {e : va_E} (he : ceO b base cA (nuH h sh) (h.1.length + 1) sh = e) : wsO b base cA h ++ [(base + h.1.length, e)] = wsO b base cA (nuH h sh) := by
  apply List.ext_getElem?
  intro j
  have hlen : (wsO b base cA h).length = h.1.length := by unfold wsO; simp
  rw [wsO_get]
  show _ = ((h.1 ++ [sh])[j]?).map _
  rcases Nat.lt_or_ge j h.1.length with hj | hj
  · rw [List.getElem?_append_left (by omega), List.getElem?_append_left hj, wsO_get]
    congr 1
    funext x
    rw [ceO_ne (h := h) (h' := nuH h sh)]
    · intro k; show (if j + 1 = h.1.length + 1 then _ else _) = _; rw [if_neg (by omega)]
    · intro k; show (if j + 1 = h.1.length + 1 then _ else _) = _; rw [if_neg (by omega)]
    · intro k; exact rfO_nu _ _
  · rw [List.getElem?_append_right (by omega), List.getElem?_append_right hj, hlen]
    rcases Nat.eq_or_lt_of_le hj with hj | hj
    · subst hj
      simp [he]
    · rw [List.getElem?_eq_none (by simp; omega), List.getElem?_eq_none (by simp; omega)]
      rfl
theorem newop_inv {sh : zSh} {n : Nat} {r : List zV} (hk : newop mm cells slots sh n h r = some (kc', ks', st', h')) : cells + 1 ≤ (mtR mm).2.1 ∧ slots + n ≤ (mtR mm).2.2.1 ∧ kc' = cells + 1 ∧ ks' = slots + n ∧ st' = vR (some (h.1.length + 1)) :: r ∧ h' = nuH h sh ∧ h.2.2.2.length = h.1.length + 1 := by
  unfold newop at hk
  cases hc : ((Nat.ble (cells + 1) (mtR mm).2.1 && Nat.ble (slots + n) (mtR mm).2.2.1) && Nat.beq h.2.2.2.length (h.1.length + 1)) with
  | false => rw [hc] at hk; cases hk
  | true =>
    rw [hc] at hk
    cases hk
    rw [Bool.and_eq_true, Bool.and_eq_true] at hc
    exact ⟨Nat.ble_eq.mp hc.1.1, Nat.ble_eq.mp hc.1.2, rfl, rfl, rfl, rfl, Nat.eq_of_beq_eq_true hc.2⟩
theorem va_RA_eq {U : State} {t : Nat} {c1 c2 : ClassId} (h1 : va_RA U c1 (tyOf t)) (h2 : va_RA U c2 (tyOf t)) : c1 = c2 := by
  match t, h1, h2 with
  | 0, h1, h2 => exact Option.some.inj (h1.symm.trans h2)
  | 1, h1, h2 => exact Option.some.inj (h1.symm.trans h2)
  | 2, h1, h2 => exact Option.some.inj (h1.symm.trans h2)
  | 3, h1, h2 => exact Option.some.inj (h1.symm.trans h2)
  | t + 4, h1, h2 =>
    obtain ⟨_, _, -, -, -, h1⟩ := h1
    obtain ⟨_, _, -, -, -, h2⟩ := h2
    exact Option.some.inj (h1.symm.trans h2)
set_option maxHeartbeats 8000000 in
theorem sim_alop (hx : p.tables.exec = Jvm.exec) (hb : c.code = mtC mm) (hown : s.vm.findClass (clsOf mm) = some m.cls) (hts : ∀ w ∈ zT, w.before args s = true) (hary : ∀ t, t < 4 → Jvm.Cond.arrayClass (tyOf t) ∈ zT) (haro : Jvm.Cond.arrayOver (.object "EdgeVerses$State") ∈ zT) (hK : va_K D classes (tysO cA) s) (hP : va_P D classes (wsO b base cA h) H) (hS : va_S (fun q => base ≤ q) s.heap H locs)
    (hz : s.heap.size = base + n0) (hn : h.1.length = n0 + cells) (hRc : (mtR mm).2.1 ≤ R.cells) (hRs : (mtR mm).2.2.1 ≤ R.slots)
    (hd : decode (mtC mm) pc = .ok (ins, len)) (hok : okA mm (pc, ins, len, a, k, cc, d) = true) (hk : alop mm ins a cells slots st h = some (kc', ks', st', h'))
    (kk : ∀ (H1 : Heap) (locs1 : List Loc), va_P D classes (wsO b base cA h') H1 → va_S (fun q => base ≤ q) s.heap H1 locs1 → h'.1.length = n0 + kc' → W p l e R s m args below meth c H1 locs1 kc' ks' Q (F0 m (pc + len) lsA (st'.map (cv b base)))) : W p l e R s m args below meth c H locs cells slots Q (F0 m pc lsA (st.map (cv b base))) := by
  have hA : ∀ q, s.heap.size ≤ q → (fun q => base ≤ q) q := fun q hq => by show base ≤ q; omega
  cases ins <;> try (exfalso; simp only [alop, reduceCtorEq] at hk; done)
  case new idx =>
    simp only [okA, Bool.and_eq_true, decide_eq_true_eq] at hok
    obtain ⟨⟨h1, h2⟩, h3⟩ := hok
    have h1 := Nat.eq_of_beq_eq_true h1
    subst h1
    obtain ⟨g1, g2, rfl, rfl, rfl, rfl, g7⟩ := newop_inv hk
    refine va_new (ci := a) (fs := (List.range (fnum a)).map (fun k => cv b base (gfv (nuH h (.inl a)) (h.1.length + 1) k (fkdOf a k)))) hx hb hts (fldU h2) (tyF a) (fun k hk => (fldF h2 hk).1) hown (hts _ (tw_in h3 rfl)) (hts _ (fldI h2).1) (hts _ (fldI h2).2) hK hP wsO_D hS hA (cls_at a h2) ?_ (by omega) (by omega) hd (fun q H1 hP1 hD1 hS1 => W_sz fun hz1 => ?_)
    · intro j hj
      unfold vp_V
      rw [List.getD_eq_getElem?_getD, fs_at hj]
      show _ = cv b base (gfv (nuH h (.inl a)) (h.1.length + 1) j (fkdOf a j))
      obtain ⟨-, -, f3, f4⟩ := fldF h2 hj
      unfold okT at f3
      generalize fkdOf a j = kd at f3 f4
      match kd, f3, f4 with
      | 0, f3, _ => rw [show tyF a j = .int from of_decide_eq_true f3]; simp [gfv, nuH, cv, defaultValue]
      | 1, f3, _ => rw [show tyF a j = .long from of_decide_eq_true f3]; simp [gfv, nuH, cv, defaultValue]
      | 2, f3, _ =>
        have f3 : refKind (tyF a j) = true := f3
        simp only [gfv, cv]
        rw [rfO_nu, rfO_out (by omega)]
        cases ht : tyF a j <;> first | rfl | (rw [ht] at f3; cases f3)
      | 3, f3, _ => rw [show tyF a j = .boolean from of_decide_eq_true f3]; simp [gfv, nuH, cv, defaultValue]
      | t + 4, _, f4 => exact absurd f4 (by omega)
    · have hq := new_at (fun q h => h) hP1 hD1 (by omega)
      subst hq
      exact kk H1 locs (by rw [← nu_ws rfl]; exact hP1) hS1 (by show (h.1 ++ _).length = _; simp; omega)
  case newarray ty =>
    simp only [okA, Bool.and_eq_true, decide_eq_true_eq] at hok
    obtain ⟨⟨h1, h2⟩, h3⟩ := hok
    have h1 := Nat.eq_of_beq_eq_true h1
    subst h1
    simp only [alop] at hk
    split at hk
    · next n r =>
      split at hk
      · next hr =>
        obtain ⟨g1, g2, rfl, rfl, rfl, rfl, g7⟩ := newop_inv hk
        have hnn : ¬ Int32.ofInt n < 0 := by
          rw [Int32.lt_iff_toInt_lt, toInt_wrap]
          simp only [Int32.toInt_zero]
          omega
        have hN : (Int32.ofInt n).toNatClampNeg = (wrap n).toNat := by
          show (Int32.ofInt n).toInt.toNat = _
          rw [toInt_wrap]
        have hcb : (wrap n).toNat * componentBytes (tyOf a) ≤ 536870912 := by
          have h8 : componentBytes (tyOf a) ≤ 8 := by
            match a, h2 with
            | 0, _ => decide
            | 1, _ => decide
            | 2, _ => decide
            | 3, _ => decide
          have : (wrap n).toNat * componentBytes (tyOf a) ≤ (wrap n).toNat * 8 := Nat.mul_le_mul_left _ h8
          omega
        refine va_newa (a0 := ((wrap n).toNat, arrC b base (nuH h (.inr (a, (wrap n).toNat))) (h.1.length + 1) a)) hx hb (by rw [h3]; exact hts _ (hary a h2)) h3 hK hP wsO_D hS hA ?_ hnn hN hcb (by omega) (by omega) hd (fun q cA' H1 hK1 hP1 hD1 hS1 => W_sz fun hz1 => ?_)
        · intro c1
          match a, h2 with
          | 0, _ => simp [arrC, nuH, vp_cell, tyOf, defaultValue]
          | 1, _ => simp [arrC, nuH, vp_cell, tyOf, defaultValue]
          | 2, _ => simp [arrC, nuH, vp_cell, tyOf, defaultValue]
          | 3, _ => simp [arrC, nuH, vp_cell, tyOf, defaultValue]
        · have hq := new_at (fun q h => h) hP1 hD1 (by omega)
          subst hq
          have hc : cA' = cA a := va_RA_eq (hK1.2 5 (cA', tyOf a) rfl).2 (hK.2 a (cA a, tyOf a) (tys_at cA (by omega))).2
          subst hc
          exact kk H1 locs (by rw [← nu_ws rfl]; exact hP1) hS1 (by show (h.1 ++ _).length = _; simp; omega)
      · cases hk
    · cases hk
  case anewarray idx =>
    simp only [okA, Bool.and_eq_true, decide_eq_true_eq] at hok
    obtain ⟨h1, h3⟩ := hok
    have h1 := Nat.eq_of_beq_eq_true h1
    subst h1
    simp only [alop] at hk
    split at hk
    · next n r =>
      split at hk
      · next hr =>
        obtain ⟨g1, g2, rfl, rfl, rfl, rfl, g7⟩ := newop_inv hk
        have hnn : ¬ Int32.ofInt n < 0 := by
          rw [Int32.lt_iff_toInt_lt, toInt_wrap]
          simp only [Int32.toInt_zero]
          omega
        have hN : (Int32.ofInt n).toNatClampNeg = (wrap n).toNat := by
          show (Int32.ofInt n).toInt.toNat = _
          rw [toInt_wrap]
        refine va_newq hx hb hown (hts _ (tw_in h3 rfl)) (va_AO.of (hts _ haro)) hK hP wsO_D hS hA hnn hN (by omega) (by omega) (by omega) hd (fun q cA' H1 hK1 hP1 hD1 hS1 => W_sz fun hz1 => ?_)
        have hq := new_at (fun q h => h) hP1 hD1 (by omega)
        subst hq
        have hc : cA' = cA 4 := va_RA_eq (t := 4) (hK1.2 5 (cA', tyOf 4) rfl).2 (hK.2 4 (cA 4, tyOf 4) (tys_at cA (by omega))).2
        subst hc
        exact kk H1 locs (by rw [← nu_ws (e := .inl (cA 4, (wrap n).toNat, .inr (.inr (.inr (.inr (fun _ => none)))))) (by simp only [ceO, arrC, rfO_nu]; congr 7; funext z; rw [rfO_out (by omega)]; rfl)]; exact hP1) hS1 (by show (h.1 ++ _).length = _; simp; omega)
      · cases hk
    · cases hk
theorem ofI_lt (x y : Int) : Int32.ofInt x < Int32.ofInt y ↔ wrap x < wrap y := by rw [Int32.lt_iff_toInt_lt, toInt_wrap, toInt_wrap]
theorem ofI_le (x y : Int) : Int32.ofInt x ≤ Int32.ofInt y ↔ wrap x ≤ wrap y := by rw [Int32.le_iff_toInt_le, toInt_wrap, toInt_wrap]
theorem ofI_eq (x y : Int) : Int32.ofInt x = Int32.ofInt y ↔ wrap x = wrap y := by rw [← Int32.toInt_inj, toInt_wrap, toInt_wrap]
theorem wrap0 : wrap 0 = 0 := rfl
theorem ofI0 : (0 : Int32) = Int32.ofInt 0 := rfl
set_option maxHeartbeats 8000000 in
theorem sim_jop (hx : p.tables.exec = Jvm.exec) (hb : c.code = mtC mm) {pc' : Nat}
    (hd : decode (mtC mm) pc = .ok (ins, len)) (hok : okA mm (pc, ins, len, a, k, cc, d) = true) (hk : jop ins len a pc ls st = some (pc', ls', st'))
    (hl : lv_has lsA nL (cl1 b base ls))
    (kk : lv_has lsA nL (cl1 b base ls') → W p l e R s m args below meth c H locs cells slots Q (F0 m pc' lsA (st'.map (cv b base)))) : W p l e R s m args below meth c H locs cells slots Q (F0 m pc lsA (st.map (cv b base))) := by
  cases ins <;> try (exfalso; simp only [jop, reduceCtorEq] at hk; done)
  case goto off =>
    simp only [okA, Bool.and_eq_true, decide_eq_true_eq] at hok
    obtain ⟨h1, h2⟩ := hok
    have h1 := Nat.eq_of_beq_eq_true h1
    subst h1
    cases hk
    refine lv_goto hx hb hd (by omega) (kk (lv_wk hl fun q hq => ?_))
    obtain ⟨q0, h3, rfl⟩ := List.mem_map.mp hq
    exact cl1_mem (ltr_mem h3)
  case ifCond cd off =>
    simp only [okA, Bool.and_eq_true, decide_eq_true_eq] at hok
    obtain ⟨h1, h2⟩ := hok
    have h1 := Nat.eq_of_beq_eq_true h1
    subst h1
    simp only [jop] at hk
    split at hk
    · next x r =>
      cases hk
      have kk := kk hl
      cases cd
      case eq => exact lv_if_eq hx hb hd (tgt := ((pc : Int) + off).toNat) (by omega) (fun q => by rw [ofI0, ofI_eq, wrap0] at q; simp only [cmpB, q, decide_true, cond] at kk; exact kk) (fun q => by rw [ofI0, ofI_eq, wrap0] at q; simp only [cmpB, q, decide_false, cond] at kk; exact kk)
      case ne => exact lv_if_ne hx hb hd (tgt := ((pc : Int) + off).toNat) (by omega) (fun q => by rw [ofI0, ofI_eq, wrap0] at q; simp only [cmpB, q, decide_false, Bool.not_false, cond] at kk; exact kk) (fun q => by rw [ofI0, ofI_eq, wrap0] at q; simp only [cmpB, q, decide_true, Bool.not_true, cond] at kk; exact kk)
      case lt => exact lv_if_lt hx hb hd (tgt := ((pc : Int) + off).toNat) (by omega) (fun q => by rw [ofI0, ofI_lt, wrap0] at q; simp only [cmpB, q, decide_true, cond] at kk; exact kk) (fun q => by rw [ofI0, ofI_lt, wrap0] at q; simp only [cmpB, q, decide_false, cond] at kk; exact kk)
      case ge => exact lv_if_ge hx hb hd (tgt := ((pc : Int) + off).toNat) (by omega) (fun q => by rw [ofI0, ofI_le, wrap0] at q; have q := Int.not_lt.mpr q; simp only [cmpB, q, decide_false, Bool.not_false, cond] at kk; exact kk) (fun q => by rw [ofI0, ofI_le, wrap0] at q; have q := Int.not_le.mp q; simp only [cmpB, q, decide_true, Bool.not_true, cond] at kk; exact kk)
      case gt => exact lv_if_gt hx hb hd (tgt := ((pc : Int) + off).toNat) (by omega) (fun q => by rw [ofI0, ofI_lt, wrap0] at q; simp only [cmpB, q, decide_true, cond] at kk; exact kk) (fun q => by rw [ofI0, ofI_lt, wrap0] at q; simp only [cmpB, q, decide_false, cond] at kk; exact kk)
      case le => exact lv_if_le hx hb hd (tgt := ((pc : Int) + off).toNat) (by omega) (fun q => by rw [ofI0, ofI_le, wrap0] at q; have q := Int.not_lt.mpr q; simp only [cmpB, q, decide_false, Bool.not_false, cond] at kk; exact kk) (fun q => by rw [ofI0, ofI_le, wrap0] at q; have q := Int.not_le.mp q; simp only [cmpB, q, decide_true, Bool.not_true, cond] at kk; exact kk)
    · cases hk
  case if_icmp cd off =>
    simp only [okA, Bool.and_eq_true, decide_eq_true_eq] at hok
    obtain ⟨h1, h2⟩ := hok
    have h1 := Nat.eq_of_beq_eq_true h1
    subst h1
    simp only [jop] at hk
    split at hk
    · next y x r =>
      cases hk
      have kk := kk hl
      cases cd
      case eq => exact lv_icmp_eq hx hb hd (tgt := ((pc : Int) + off).toNat) (by omega) (fun q => by rw [ofI_eq] at q; simp only [cmpB, q, decide_true, cond] at kk; exact kk) (fun q => by rw [ofI_eq] at q; simp only [cmpB, q, decide_false, cond] at kk; exact kk)
      case ne => exact lv_icmp_ne hx hb hd (tgt := ((pc : Int) + off).toNat) (by omega) (fun q => by rw [ofI_eq] at q; simp only [cmpB, q, decide_false, Bool.not_false, cond] at kk; exact kk) (fun q => by rw [ofI_eq] at q; simp only [cmpB, q, decide_true, Bool.not_true, cond] at kk; exact kk)
      case lt => exact lv_icmp_lt hx hb hd (tgt := ((pc : Int) + off).toNat) (by omega) (fun q => by rw [ofI_lt] at q; simp only [cmpB, q, decide_true, cond] at kk; exact kk) (fun q => by rw [ofI_lt] at q; simp only [cmpB, q, decide_false, cond] at kk; exact kk)
      case ge => exact lv_icmp_ge hx hb hd (tgt := ((pc : Int) + off).toNat) (by omega) (fun q => by rw [ofI_le] at q; have q := Int.not_lt.mpr q; simp only [cmpB, q, decide_false, Bool.not_false, cond] at kk; exact kk) (fun q => by rw [ofI_le] at q; have q := Int.not_le.mp q; simp only [cmpB, q, decide_true, Bool.not_true, cond] at kk; exact kk)
      case gt => exact lv_icmp_gt hx hb hd (tgt := ((pc : Int) + off).toNat) (by omega) (fun q => by rw [ofI_lt] at q; simp only [cmpB, q, decide_true, cond] at kk; exact kk) (fun q => by rw [ofI_lt] at q; simp only [cmpB, q, decide_false, cond] at kk; exact kk)
      case le => exact lv_icmp_le hx hb hd (tgt := ((pc : Int) + off).toNat) (by omega) (fun q => by rw [ofI_le] at q; have q := Int.not_lt.mpr q; simp only [cmpB, q, decide_false, Bool.not_false, cond] at kk; exact kk) (fun q => by rw [ofI_le] at q; have q := Int.not_le.mp q; simp only [cmpB, q, decide_true, Bool.not_true, cond] at kk; exact kk)
    · cases hk
  case tableswitch dflt lo hi offs =>
    simp only [okA, Bool.and_eq_true, decide_eq_true_eq] at hok
    obtain ⟨h1, h2⟩ := hok
    simp only [jop] at hk
    split at hk
    · next x r =>
      split at hk
      · next hr =>
        cases hk
        exact lv_tableOut hx hb hd (by rw [toInt_wrap]; exact hr) (by omega) (kk hl)
      · next hr =>
        split at hk
        · next off ho =>
          cases hk
          have h3 : 0 ≤ (pc : Int) + off := of_decide_eq_true (List.all_eq_true.mp h2 off (by rw [Array.mem_toList_iff]; exact Array.mem_of_getElem? ho))
          exact lv_tableIn hx hb hd (by rw [toInt_wrap]; exact fun q => hr (Or.inl q)) (by rw [toInt_wrap]; exact fun q => hr (Or.inr q)) (by rw [toInt_wrap]; exact ho) (by omega) (kk hl)
        · cases hk
    · cases hk
end ALO

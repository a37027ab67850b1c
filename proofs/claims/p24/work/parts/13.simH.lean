/-! the small machine's runs are the JVM's: every step, every method -/
def zCx (p : Program) (R : Room) (s : State) (m : MethodId) (args : Array Value) (meth : Method) (c : Code) (D : va_G) (cA : Nat → ClassId) (b base n0 mm : Nat) (E : zE) : Prop :=
  p.tables.exec = Jvm.exec ∧ c.code = mtC mm ∧ c.maxLocals = mtL mm ∧ s.vm.findClass (clsOf mm) = some m.cls ∧ ((mtY mm).name = "<init>" → meth.name = "<init>") ∧ (∀ w ∈ zT, w.before args s = true) ∧ va_K D classes (tysO cA) s ∧ s.heap.size = base + n0 ∧ (mtR mm).2.1 ≤ R.cells ∧ (mtR mm).2.2.1 ≤ R.slots ∧ (mtR mm).1 ≤ R.frames ∧ (mtR mm).2.2.2 ≤ R.locals ∧
  (124 ≤ mm → zScr E b base s)
def zJ (p : Program) (l : Launch) (e : Env) (R : Room) (s : State) (m : MethodId) (args : Array Value) (below : List Frame) (meth : Method) (c : Code) (Q : State → Prop) (D : va_G) (cA : Nat → ClassId) (b base mm : Nat) (f : zF) : Prop :=
  ∀ (H : Heap) (locs : List Loc) (lsA : Array Slot), va_P D classes (wsO b base cA f.2.2.2.2.2) H → va_S (fun q => base ≤ q) s.heap H locs → lv_has lsA (mtL mm) (cl1 b base f.2.2.2.1) → W p l e R s m args below meth c H locs f.1 f.2.1 Q (F0 m f.2.2.1 lsA (f.2.2.2.2.1.map (cv b base)))
theorem okM_at {m : Nat} (hM : okM m = true) {pc : Nat} {q : Instr × Nat × Nat × Nat × Nat × Nat} (h : lkp (mt_k.getD m []) pc = some q) : decode (mtC m) pc = .ok (q.1, q.2.1) ∧ okA m (pc, q) = true := by
  have h1 := List.all_eq_true.mp hM (pc, q) (lkp_mem h)
  unfold okQ at h1
  simp only [Bool.and_eq_true, decide_eq_true_eq] at h1
  exact h1
theorem kin_eq {ins : Instr} {c : Nat} : (kin ins c = 4 → (∃ i, ins = .invokevirtual i) ∨ (∃ i, ins = .invokespecial i ∧ Nat.beq c 7 = false) ∨ (∃ i, ins = .invokestatic i ∧ Nat.beq c 8 = false ∧ Nat.beq c 9 = false ∧ Nat.beq c 10 = false)) ∧ (kin ins c = 5 → ∃ i, ins = .invokespecial i ∧ Nat.beq c 7 = true) ∧ (kin ins c = 6 → ∃ i, ins = .invokestatic i ∧ Nat.beq c 8 = true) ∧ (kin ins c = 8 → ∃ i, ins = .invokestatic i ∧ Nat.beq c 8 = false ∧ Nat.beq c 9 = true) ∧ (kin ins c = 9 → ∃ i, ins = .invokestatic i ∧ Nat.beq c 8 = false ∧ Nat.beq c 9 = false ∧ Nat.beq c 10 = true) := by
  cases ins <;> try (simp [kin]; done)
  case invokespecial i =>
    cases h7 : Nat.beq c 7 <;> simp [kin, h7]
  case invokestatic i =>
    cases h8 : Nat.beq c 8 <;> cases h9 : Nat.beq c 9 <;> cases h10 : Nat.beq c 10 <;> simp [kin, h8, h9, h10]
theorem ofI_wmax (x y : Int) : Int32.ofInt (wmax x y) = if Int32.ofInt x < Int32.ofInt y then Int32.ofInt y else Int32.ofInt x := by
  unfold wmax
  by_cases h : wrap x < wrap y
  · rw [if_pos h, if_pos ((ofI_lt x y).mpr h)]
  · rw [if_neg h, if_neg (fun q => h ((ofI_lt x y).mp q))]
theorem ofI_wmin (x y : Int) : Int32.ofInt (wmin x y) = if Int32.ofInt y < Int32.ofInt x then Int32.ofInt y else Int32.ofInt x := by
  unfold wmin
  by_cases h : wrap y < wrap x
  · rw [if_pos h, if_pos ((ofI_lt y x).mpr h)]
  · rw [if_neg h, if_neg (fun q => h ((ofI_lt y x).mp q))]
theorem cond_tt {α : Type} {b : Bool} {x : α} {y : Option α} (h : cond b (some x) none = y) {z : α} (hy : y = some z) : b = true ∧ x = z := by
  subst hy
  cases b with
  | true => cases h; exact ⟨rfl, rfl⟩
  | false => cases h
set_option maxHeartbeats 8000000 in
theorem zgo {E : zE} {mm : Nat} {f f' : zF} (hM : okM mm = true) (hs : lstep E mm f = some (.inl f')) : f'.2.2.2.2.2.1.length + f.1 = f.2.2.2.2.2.1.length + f'.1 ∧
    ∀ {p : Program} {l : Launch} {e : Env} {R : Room} {s : State} {m : MethodId} {args : Array Value} {below : List Frame} {meth : Method} {c : Code} {Q : State → Prop} {D : va_G} {cA : Nat → ClassId} {b base n0 : Nat}, zCx p R s m args meth c D cA b base n0 mm E → f.2.2.2.2.2.1.length = n0 + f.1 → zJ p l e R s m args below meth c Q D cA b base mm f' → zJ p l e R s m args below meth c Q D cA b base mm f := by
  obtain ⟨kc, ks, pc, ls, st, h⟩ := f
  unfold lstep at hs
  dsimp only at hs ⊢
  cases hq : lkp (mt_k.getD mm []) pc with
  | none => rw [hq] at hs; cases hs
  | some q =>
    rw [hq] at hs
    dsimp only at hs
    obtain ⟨hd, hok⟩ := okM_at hM hq
    obtain ⟨ins, len, a, k, cc, d⟩ := q
    dsimp only at hs hd
    generalize hkin : kin ins cc = kk at hs
    match kk, hs with
    | 0, hs =>
      cases hk : lop ins a ls st with
      | none => rw [hk] at hs; cases hs
      | some r =>
        obtain ⟨ls', st'⟩ := r
        rw [hk] at hs
        cases hs
        refine ⟨rfl, ?_⟩
        intro p l e R s m args below meth c Q D cA b base n0 hC hn hJ H locs lsA hP hS hl
        obtain ⟨hx, hb, hml, hown, hin, hts, hK, hz, hRc, hRs, hRf, hRl, hX⟩ := hC
        have hlen : len = lenOf ins := by
          cases ins <;> first
            | exact Nat.eq_of_beq_eq_true hok
            | (simp only [okA, Bool.and_eq_true] at hok; exact Nat.eq_of_beq_eq_true hok.1)
            | (exfalso; simp only [lop, reduceCtorEq] at hk; done)
        refine sim_lop (own := clsOf mm) (nL := mtL mm) hx hb hown hd hk hlen ?_ ?_ ?_ ?_ ?_ ?_ ?_ ?_ ?_ ?_ hl (fun lsA' hl' => hJ H locs lsA' hP hS hl')
        all_goals
          intros
          subst_vars
          simp only [okA, Bool.and_eq_true, decide_eq_true_eq] at hok
        · exact hok.2
        · exact hok.2
        · exact hts _ (tw_in hok.2 rfl)
        · exact hok.2
        · exact hok.2
        · exact hok.2
        · exact hok.2
        · exact hok.2
        · exact hok.2
        · exact hok.2
    | 1, hs =>
      cases h181 : Nat.ble 124 mm with
      | true =>
        rw [h181] at hs
        dsimp only [cond] at hs
        cases hk : sop E ins st h with
        | none => rw [hk] at hs; cases hs
        | some r =>
          obtain ⟨st', h'⟩ := r
          rw [hk] at hs
          cases hs
          refine ⟨by have := sop_len hk; show h'.1.length + kc = h.1.length + kc; rw [this], ?_⟩
          intro p l e R s m args below meth c Q D cA b base n0 hC hn hJ H locs lsA hP hS hl
          obtain ⟨hx, hb, hml, hown, hin, hts, hK, hz, hRc, hRs, hRf, hRl, hX⟩ := hC
          obtain ⟨L, xs, x1, x2, x3, x4, x5⟩ := hX (Nat.ble_eq.mp h181)
          exact sim_sop hx hb hP hS x1 x2 x3 x4 x5 hd hok hk (fun hP' _ => hJ H locs lsA hP' hS hl)
      | false =>
        rw [h181] at hs
        dsimp only [cond] at hs
        cases hk : hop ins a k st h with
        | none => rw [hk] at hs; cases hs
        | some r =>
          obtain ⟨st', h'⟩ := r
          rw [hk] at hs
          cases hs
          refine ⟨by have := hop_len hk; show h'.1.length + kc = h.1.length + kc; rw [this], ?_⟩
          intro p l e R s m args below meth c Q D cA b base n0 hC hn hJ H locs lsA hP hS hl
          obtain ⟨hx, hb, hml, hown, hin, hts, hK, hz, hRc, hRs, hRf, hRl, hX⟩ := hC
          exact sim_hop hx hb hown hin hts hK hP hS hd hok hk (fun H1 locs1 hP1 hS1 _ => hJ H1 locs1 lsA hP1 hS1 hl)
    | 2, hs =>
      cases hk : alop mm ins a kc ks st h with
      | none => rw [hk] at hs; cases hs
      | some r =>
        obtain ⟨kc', ks', st', h'⟩ := r
        rw [hk] at hs
        cases hs
        refine ⟨alop_len hk, ?_⟩
        intro p l e R s m args below meth c Q D cA b base n0 hC hn hJ H locs lsA hP hS hl
        obtain ⟨hx, hb, hml, hown, hin, hts, hK, hz, hRc, hRs, hRf, hRl, hX⟩ := hC
        exact sim_alop hx hb hown hts w_ary w_aro hK hP hS hz hn hRc hRs hd hok hk (fun H1 locs1 hP1 hS1 _ => hJ H1 locs1 lsA hP1 hS1 hl)
    | 3, hs =>
      cases hk : jop ins len a pc ls st with
      | none => rw [hk] at hs; cases hs
      | some r =>
        obtain ⟨pc', ls', st'⟩ := r
        rw [hk] at hs
        cases hs
        refine ⟨rfl, ?_⟩
        intro p l e R s m args below meth c Q D cA b base n0 hC hn hJ H locs lsA hP hS hl
        obtain ⟨hx, hb, hml, hown, hin, hts, hK, hz, hRc, hRs, hRf, hRl, hX⟩ := hC
        exact sim_jop hx hb hd hok hk hl (fun hl' => hJ H locs lsA hP hS hl')
    | 4, hs =>
      change (match cop mm a k cc len kc ks pc ls st h with | some r => some (Sum.inr (Sum.inl r)) | none => none) = some (Sum.inl f') at hs
      cases hk : cop mm a k cc len kc ks pc ls st h <;> rw [hk] at hs <;> cases hs
    | 5, hs =>
      obtain ⟨idx, rfl, h7⟩ := kin_eq.2.1 hkin
      change (match st with | .inr (.inr (some _)) :: r => cond (Nat.ble r.length 4) (some (Sum.inl (kc, ks, pc + len, ls, r, h))) none | _ => none) = some (Sum.inl f') at hs
      split at hs
      · next v r heq =>
        cases h4 : Nat.ble r.length 4 with
        | false => rw [h4] at hs; cases hs
        | true =>
          rw [h4] at hs
          cases hs
          refine ⟨rfl, ?_⟩
          intro p l e R s m args below meth c Q D cA b base n0 hC hn hJ H locs lsA hP hS hl
          obtain ⟨hx, hb, hml, hown, hin, hts, hK, hz, hRc, hRs, hRf, hRl, hX⟩ := hC
          simp only [okA, h7, cond, Bool.and_eq_true, decide_eq_true_eq] at hok
          obtain ⟨g0, ⟨g1, g2⟩, g3⟩ := hok
          have g0 := Nat.eq_of_beq_eq_true g0
          subst g0
          have hcat := cats_le b base r (Nat.ble_eq.mp h4)
          refine W.objInit hx hb hown (hts _ (tw_in g1 rfl)) (hts _ w_oiI) (hts _ w_oiC) rfl (by rw [hml]; exact hl.1) (rest := r.map (cv b base)) rfl hd (by omega) ?_ ?_
          · show 2 * 0 + _ + 12 ≤ _
            omega
          · exact hJ H locs lsA hP hS hl
      · cases hs
    | 6, hs =>
      obtain ⟨idx, rfl, h8⟩ := kin_eq.2.2.1 hkin
      cases hk : acop st h with
      | none => rw [hk] at hs; cases hs
      | some r =>
        obtain ⟨st', h'⟩ := r
        rw [hk] at hs
        dsimp only at hs
        cases h4 : Nat.ble st'.length 4 with
        | false => rw [h4] at hs; cases hs
        | true =>
          rw [h4] at hs
          cases hs
          refine ⟨by have := acop_len hk; show h'.1.length + kc = h.1.length + kc; rw [this], ?_⟩
          intro p l e R s m args below meth c Q D cA b base n0 hC hn hJ H locs lsA hP hS hl
          obtain ⟨hx, hb, hml, hown, hin, hts, hK, hz, hRc, hRs, hRf, hRl, hX⟩ := hC
          simp only [okA, h8, cond, Bool.and_eq_true, decide_eq_true_eq] at hok
          obtain ⟨g0, ⟨g1, g2⟩, g3⟩ := hok
          have g0 := Nat.eq_of_beq_eq_true g0
          subst g0
          exact sim_acop hx hb (by rw [hml]; exact hl.1.symm) hown hts hK hP hS g1 (by omega) (by omega) hd hk (Nat.ble_eq.mp h4) (fun H1 locs1 hP1 hS1 _ => hJ H1 locs1 lsA hP1 hS1 hl)
    | 7, hs =>
      change (match rop mm ins kc ks st h with | some r => some (Sum.inr (Sum.inr r)) | none => none) = some (Sum.inl f') at hs
      cases hk : rop mm ins kc ks st h <;> rw [hk] at hs <;> cases hs
    | 8, hs =>
      obtain ⟨idx, rfl, h8, h9⟩ := kin_eq.2.2.2.1 hkin
      cases hk : oI wmax ls st with
      | none => rw [hk] at hs; cases hs
      | some r =>
        obtain ⟨ls', st'⟩ := r
        rw [hk] at hs
        dsimp only at hs
        cases h45 : (Nat.ble st'.length 5 && (Nat.ble kc (mtR mm).2.1 && Nat.ble ks (mtR mm).2.2.1)) with
        | false => rw [h45] at hs; cases hs
        | true =>
          rw [h45] at hs
          cases hs
          simp only [Bool.and_eq_true] at h45
          obtain ⟨h4, h5, h6⟩ := h45
          have h5 := Nat.ble_eq.mp h5
          have h6 := Nat.ble_eq.mp h6
          refine ⟨rfl, ?_⟩
          intro p l e R s m args below meth c Q D cA b base n0 hC hn hJ H locs lsA hP hS hl
          obtain ⟨hx, hb, hml, hown, hin, hts, hK, hz, hRc, hRs, hRf, hRl, hX⟩ := hC
          obtain ⟨x, y, r, rfl, rfl, rfl⟩ := oI_inv hk
          simp only [okA, h8, h9, cond, Bool.and_eq_true, decide_eq_true_eq] at hok
          obtain ⟨g0, ⟨g1, g2⟩, g3⟩ := hok
          have g0 := Nat.eq_of_beq_eq_true g0
          subst g0
          have hcat := cats_le b base r (by have := Nat.ble_eq.mp h4; simp at this; omega)
          have hJ1 := hJ H locs lsA hP hS hl
          have ew : ((vI (wmax x y) :: r).map (cv b base)) = .int (Int32.ofInt (wmax x y)) :: r.map (cv b base) := rfl
          dsimp only at hJ1
          rw [ew, ofI_wmax] at hJ1
          exact va_mmax hx hb (by rw [hml]; exact hl.1.symm) hown (hts _ (tw_in g1 rfl)) (hts _ w_mxS) (hts _ w_mxI) (hts _ w_mxC) (by omega) (by omega) (Nat.le_trans h5 hRc) (Nat.le_trans h6 hRs) hd hJ1
    | 9, hs =>
      obtain ⟨idx, rfl, h8, h9, h10⟩ := kin_eq.2.2.2.2 hkin
      cases hk : oI wmin ls st with
      | none => rw [hk] at hs; cases hs
      | some r =>
        obtain ⟨ls', st'⟩ := r
        rw [hk] at hs
        dsimp only at hs
        cases h45 : (Nat.ble st'.length 5 && (Nat.ble kc (mtR mm).2.1 && Nat.ble ks (mtR mm).2.2.1)) with
        | false => rw [h45] at hs; cases hs
        | true =>
          rw [h45] at hs
          cases hs
          simp only [Bool.and_eq_true] at h45
          obtain ⟨h4, h5, h6⟩ := h45
          have h5 := Nat.ble_eq.mp h5
          have h6 := Nat.ble_eq.mp h6
          refine ⟨rfl, ?_⟩
          intro p l e R s m args below meth c Q D cA b base n0 hC hn hJ H locs lsA hP hS hl
          obtain ⟨hx, hb, hml, hown, hin, hts, hK, hz, hRc, hRs, hRf, hRl, hX⟩ := hC
          obtain ⟨x, y, r, rfl, rfl, rfl⟩ := oI_inv hk
          simp only [okA, h8, h9, h10, cond, Bool.and_eq_true, decide_eq_true_eq] at hok
          obtain ⟨g0, ⟨g1, g2⟩, g3⟩ := hok
          have g0 := Nat.eq_of_beq_eq_true g0
          subst g0
          have hcat := cats_le b base r (by have := Nat.ble_eq.mp h4; simp at this; omega)
          have hJ1 := hJ H locs lsA hP hS hl
          have ew : ((vI (wmin x y) :: r).map (cv b base)) = .int (Int32.ofInt (wmin x y)) :: r.map (cv b base) := rfl
          dsimp only at hJ1
          rw [ew, ofI_wmin] at hJ1
          exact va_mmin hx hb (by rw [hml]; exact hl.1.symm) hown (hts _ (tw_in g1 rfl)) (hts _ w_mnS) (hts _ w_mxI) (hts _ w_mnC) (by omega) (by omega) (Nat.le_trans h5 hRc) (Nat.le_trans h6 hRs) hd hJ1
    | k + 10, hs =>
      change (match rop mm ins kc ks st h with | some r => some (Sum.inr (Sum.inr r)) | none => none) = some (Sum.inl f') at hs
      cases hk : rop mm ins kc ks st h <;> rw [hk] at hs <;> cases hs
theorem zcall {E : zE} {mm : Nat} {f : zF} {cl : Nat × List zV × zH × (zR → zF)} (hM : okM mm = true) (hCW : ∀ m, m < 125 → okCb m = true ∧ okW m = true) (hs : lstep E mm f = some (.inr (.inl cl))) : cl.1 < 125 ∧ (mm < 125 → cl.1 < 124) ∧ cl.2.2.1 = f.2.2.2.2.2 ∧ lvN cl.2.1 ≤ mtL cl.1 ∧ (∀ r, (cl.2.2.2 r).1 = f.1 + (mtR cl.1).2.1 ∧ (cl.2.2.2 r).2.2.2.2.2 = r.2) ∧
    ∀ {p : Program} {l : Launch} {e : Env} {R : Room} {s : State} {m : MethodId} {args : Array Value} {below : List Frame} {meth : Method} {c : Code} {Q : State → Prop} {D : va_G} {cA : Nat → ClassId} {b base n0 : Nat} {r : zR}, zCx p R s m args meth c D cA b base n0 mm E → f.2.2.2.2.2.1.length = n0 + f.1 → zMet E l D cA b base cl.1 cl.2.1 cl.2.2.1 r → zJ p l e R s m args below meth c Q D cA b base mm (cl.2.2.2 r) → zJ p l e R s m args below meth c Q D cA b base mm f := by
  obtain ⟨kc, ks, pc, ls, st, h⟩ := f
  unfold lstep at hs
  dsimp only at hs ⊢
  cases hq : lkp (mt_k.getD mm []) pc with
  | none => rw [hq] at hs; cases hs
  | some q =>
    rw [hq] at hs
    dsimp only at hs
    obtain ⟨hd, hok⟩ := okM_at hM hq
    obtain ⟨ins, len, a, k, cc, d⟩ := q
    dsimp only at hs hd
    have hk4 : kin ins cc = 4 ∧ cop mm a k cc len kc ks pc ls st h = some cl := by
      generalize kin ins cc = kk at hs
      match kk, hs with
      | 0, hs =>
        cases hk : lop ins a ls st <;> rw [hk] at hs <;> cases hs
      | 1, hs =>
        cases hk : (cond (Nat.ble 124 mm) (sop E ins st h) (hop ins a k st h)) <;> rw [hk] at hs <;> cases hs
      | 2, hs =>
        cases hk : alop mm ins a kc ks st h <;> rw [hk] at hs <;> cases hs
      | 3, hs =>
        cases hk : jop ins len a pc ls st <;> rw [hk] at hs <;> cases hs
      | 4, hs =>
        cases hk : cop mm a k cc len kc ks pc ls st h with
        | none => rw [hk] at hs; cases hs
        | some r => rw [hk] at hs; cases hs; exact ⟨rfl, rfl⟩
      | 5, hs =>
        exfalso
        change (match st with | .inr (.inr (some _)) :: r => cond (Nat.ble r.length 4) (some (Sum.inl (kc, ks, pc + len, ls, r, h))) none | _ => none) = some (Sum.inr (Sum.inl cl)) at hs
        split at hs
        · next v r heq =>
          cases h4 : Nat.ble r.length 4 <;> rw [h4] at hs <;> cases hs
        · cases hs
      | 6, hs =>
        exfalso
        cases hk : acop st h with
        | none => rw [hk] at hs; cases hs
        | some r =>
          rw [hk] at hs
          dsimp only at hs
          cases h4 : Nat.ble r.1.length 4 <;> rw [h4] at hs <;> cases hs
      | 8, hs =>
        exfalso
        cases hk : oI wmax ls st with
        | none => rw [hk] at hs; cases hs
        | some r =>
          rw [hk] at hs
          dsimp only at hs
          cases h4 : (Nat.ble r.2.length 5 && (Nat.ble kc (mtR mm).2.1 && Nat.ble ks (mtR mm).2.2.1)) <;> rw [h4] at hs <;> cases hs
      | 9, hs =>
        exfalso
        cases hk : oI wmin ls st with
        | none => rw [hk] at hs; cases hs
        | some r =>
          rw [hk] at hs
          dsimp only at hs
          cases h4 : (Nat.ble r.2.length 5 && (Nat.ble kc (mtR mm).2.1 && Nat.ble ks (mtR mm).2.2.1)) <;> rw [h4] at hs <;> cases hs
      | 7, hs =>
        change (match rop mm ins kc ks st h with | some r => some (Sum.inr (Sum.inr r)) | none => none) = some (Sum.inr (Sum.inl cl)) at hs
        cases hk : rop mm ins kc ks st h <;> rw [hk] at hs <;> cases hs
      | k + 10, hs =>
        change (match rop mm ins kc ks st h with | some r => some (Sum.inr (Sum.inr r)) | none => none) = some (Sum.inr (Sum.inl cl)) at hs
        cases hk : rop mm ins kc ks st h <;> rw [hk] at hs <;> cases hs
    obtain ⟨hk4, hk⟩ := hk4
    obtain ⟨i1, i2, i3, i4⟩ := cop_inv hk
    obtain ⟨m', cl⟩ := cl
    dsimp only at i1 i2 i3 i4 ⊢
    subst i1
    have main : len = 3 ∧ ∃ idx, okCall mm m' k cc d idx = true ∧ ((cc < 2 ∧ ins = .invokevirtual idx ∧ mtS m' = 0) ∨ (2 ≤ cc ∧ cc < 4 ∧ ins = .invokespecial idx ∧ mtS m' = 1) ∨ ((cc = 4 ∨ cc = 5) ∧ ins = .invokestatic idx ∧ mtS m' = 2)) := by
      rcases kin_eq.1 hk4 with ⟨idx, rfl⟩ | ⟨idx, rfl, h7⟩ | ⟨idx, rfl, h8, h9, h10⟩
      · simp only [okA, Bool.and_eq_true, decide_eq_true_eq] at hok
        obtain ⟨⟨⟨g1, g2⟩, g3⟩, g4⟩ := hok
        exact ⟨Nat.eq_of_beq_eq_true g1, idx, g3, Or.inl ⟨g2, rfl, Nat.eq_of_beq_eq_true g4⟩⟩
      · simp only [okA, h7, cond, Bool.and_eq_true, decide_eq_true_eq] at hok
        obtain ⟨g1, ⟨⟨g2, g3⟩, g4⟩, g5⟩ := hok
        exact ⟨Nat.eq_of_beq_eq_true g1, idx, g4, Or.inr (Or.inl ⟨g2, g3, rfl, Nat.eq_of_beq_eq_true g5⟩)⟩
      · simp only [okA, h8, h9, h10, cond, Bool.and_eq_true, decide_eq_true_eq] at hok
        obtain ⟨g1, ⟨⟨g2, g3⟩, g4⟩, g5⟩ := hok
        exact ⟨Nat.eq_of_beq_eq_true g1, idx, g4, Or.inr (Or.inr ⟨by omega, rfl, Nat.eq_of_beq_eq_true g5⟩)⟩
    obtain ⟨rfl, idx, hcall, hins⟩ := main
    have hc := hcall
    unfold okCall at hc
    simp only [Bool.and_eq_true, decide_eq_true_eq] at hc
    have h181 : m' < 125 := Nat.ble_eq.mp hc.1.1.1.1.2
    refine ⟨h181, fun hmm => ?_, i2, i4, fun r => ⟨(i3 r).1, (i3 r).2.2⟩, ?_⟩
    · have c6 := hc.2
      rw [Bool.or_eq_true] at c6
      rcases c6 with c6 | c6
      · exact Nat.ble_eq.mp c6
      · exact absurd (Nat.eq_of_beq_eq_true c6) (by omega)
    intro p l e R s m args below meth c Q D cA b base n0 r hC hn hMet hJ H locs lsA hP hS hl
    obtain ⟨hx, hb, hml, hown, hin, hts, hK, hz, hRc, hRs, hRf, hRl, hX⟩ := hC
    refine sim_cop (cl := cl) hx hb hml hown hts hK hP hS hz hn hRc hRs hRf hRl hl.1 (hCW m' h181).1 (hCW m' h181).2 hMet hX hcall hins hd hk (fun H1 locs1 hP1 hS1 => ?_)
    exact hJ H1 locs1 lsA (by rw [(i3 r).2.2]; exact hP1) hS1 (by rw [(i3 r).2.1]; exact hl)

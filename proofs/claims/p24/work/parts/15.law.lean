/-! THE CLAIM OUT OF ONE WALK OF THE LAW'S BODY. Your part is whole_start (and what it stands on); all else here is the same for every law, but numbers. -/
def R_law : String := "EdgeVersesLaw"
def lw_P (b : Addr) (xs : List Int32) (args : Array Value) (s : State) : Prop := args = #[.ref b] ∧ s.IntsAt b xs ∧ xs.length ≤ 260 ∧ (Jvm.Cond.and given_1 narrow_1).before args s = true
def lw_Q (_ : Array Value) (s : State) (o : Outcome) (t : State) : Prop := o = .returned (some (.int 1)) ∧ Framed s o t [] 600000 7302250
def lw_Z (below : List Frame) (a : Array Value) (s : State) : State → Prop := fun t => ∃ o, t.status = .running ∧ Ended t below o ∧ lw_Q a s o t
/-- the law's own end, with 1 on the stack, nothing written that was there before, its room as the claim has it -/
theorem lw_ret {p : Program} {l : Launch} {e : Env} {s : State} {m : MethodId} {below : List Frame} {meth : Method} {c : Code} {b : Nat} (hx : p.tables.exec = Jvm.exec) (hb : c.code = code) (hr : meth.sig.returnType = ret) (hlocks : meth.locks = false) {pc : Nat} {H : Heap} {ls : Array Slot} (hdg : decode code pc = .ok (.ireturn, 1)) : W p l e room_1 s m #[Value.ref b] below meth c H [] 600000 7302250 (lw_Z below #[Value.ref b] s) (F0 m pc ls [.int 1]) := by
  intro T hT X
  obtain ⟨fs, hret, hrun, hended, hW, hframe⟩ := X.leave (v := some (.int 1)) (hlocks := hlocks) (fun h => by rw [hr] at h; cases h)
  have hmeth' : T.vm.method? m = some meth := X.method'
  refine ⟨T.setFrames fs, ?_, .returned (some (.int 1)), hrun, hended, rfl, ⟨_, rfl⟩, hW, hframe⟩
  jvm_step X.here [X.here.top, hx, hb, hdg, hmeth', hr, ret, narrow_b1]
  (try refine ⟨rfl, ?_⟩); (try refine ⟨rfl, ?_⟩)
  first | (intro acts; rw [hret _ acts rfl rfl rfl]) | rw [hret _ _ rfl rfl rfl]
  exact Steps.refl _
/-- what holds at the law's entry: the machine, the code, the tables' words (any of lw_tbl by 'hts w (by decide +kernel)'), the script of L ints xs at the cell b, what the Statement gives of the start (any of its parts by flat_of_before) -/
def lw_At (p : Program) (s : State) (m : MethodId) (meth : Method) (c : Code) (b L : Nat) (xs : Nat → Int32) : Prop :=
  p.tables.exec = Jvm.exec ∧ c.code = code ∧ meth.sig.returnType = ret ∧ c.maxLocals = 13 ∧ s.vm.findClass R_law = some m.cls ∧ (∀ w ∈ lw_tbl, w.before #[Value.ref b] s = true) ∧ va_X b L xs s s.heap ∧ b < s.heap.size ∧ meth.locks = false ∧ (Jvm.Cond.and given_1 narrow_1).before #[Value.ref b] s = true
/-- the heap with which the small machine's law begins -/
def zh0 : zH := ([], (fun _ _ => 0), (fun _ _ => 0), [[]])
theorem u_all {s : State} {av : Array Value} (hts : ∀ w ∈ zT, w.before av s = true) : ∀ n, n ≤ 10 → ∃ (dC : Nat → ClassId) (dI : Nat → Nat → Nat), ∀ c, c < n → u_Kn s (cnO c) (flT (fls.getD c [])) (fnum c) (dC c) (dI c) := by
  intro n
  induction n with
  | zero => intro _; exact ⟨fun _ => 0, fun _ _ => 0, fun c h => absurd h (by omega)⟩
  | succ n ih =>
    intro hn
    obtain ⟨dC, dI, h⟩ := ih (by omega)
    obtain ⟨c0, i0, h0⟩ := u_known (C := cnO n) (T := flT (fls.getD n [])) (N := fnum n) (n := fnum n) hts (fldU (by omega)) (hts _ (fldI (by omega)).1)
    refine ⟨fun c => if c = n then c0 else dC c, fun c => if c = n then i0 else dI c, fun c hc => ?_⟩
    by_cases e : c = n
    · subst e
      simp only [if_true]
      exact h0
    · simp only [if_neg e]
      exact h c (by omega)
theorem arr_all {s : State} {av : Array Value} (hts : ∀ w ∈ zT, w.before av s = true) : ∃ cA : Nat → ClassId, ∀ t, t < 5 → ArrOfT s (cA t) (tyOf t) ∧ va_RA s (cA t) (tyOf t) := by
  have prim : ∀ t, t < 4 → ∃ c, ArrOfT s c (tyOf t) ∧ va_RA s c (tyOf t) := by
    intro t ht
    obtain ⟨c, k, comp, h1, h2, h3⟩ := Cond.arrayClass_spec (hts _ (w_ary t ht))
    refine ⟨c, fun n z => ⟨fun k h => (by cases h), k, h2, comp, h3⟩, ?_⟩
    match t, ht, h1 with
    | 0, _, h1 => exact h1
    | 1, _, h1 => exact h1
    | 2, _, h1 => exact h1
    | 3, _, h1 => exact h1
  obtain ⟨c0, h0⟩ := prim 0 (by omega)
  obtain ⟨c1, h1⟩ := prim 1 (by omega)
  obtain ⟨c2, h2⟩ := prim 2 (by omega)
  obtain ⟨c3, h3⟩ := prim 3 (by omega)
  obtain ⟨comp, c4, k, g1, g2, g3, g4, g5⟩ := Cond.arrayOver_spec (hts _ w_aro)
  refine ⟨fun t => match t with | 0 => c0 | 1 => c1 | 2 => c2 | 3 => c3 | _ => c4, fun t ht => ?_⟩
  match t, ht with
  | 0, _ => exact h0
  | 1, _ => exact h1
  | 2, _ => exact h2
  | 3, _ => exact h3
  | 4, _ => exact ⟨fun n z => ⟨fun k h => (by cases h), k, g3, comp, g4⟩, k, comp, g3, g4, g1, g5⟩
set_option maxHeartbeats 8000000 in
theorem zlaw {l : Launch} {D : va_G} {cA : Nat → ClassId} {b base : Nat} {E : zE} (hM : ∀ m, m < 126 → okM m = true) (hCW : ∀ m, m < 125 → okCb m = true ∧ okW m = true) : ∀ (n : Nat) (f : zF) (r : zR), axn E n 125 f = some r → r.1 = some (vI 1) →
    ∀ {p : Program} {e : Env} {s : State} {mi : MethodId} {below : List Frame} {meth : Method} {c : Code} {n0 : Nat}, zCx p room_1 s mi #[Value.ref b] meth c D cA b base n0 125 E → meth.locks = false → meth.sig.returnType = ret → base = s.heap.size → f.2.2.2.2.2.1.length = n0 + f.1 → zJ p l e room_1 s mi #[Value.ref b] below meth c (lw_Z below #[Value.ref b] s) D cA b base 125 f := by
  intro n
  induction n with
  | zero => intro f r h; cases h
  | succ n ih =>
    intro f r h h1
    rw [axn] at h
    cases hs : lstep E 125 f with
    | none => rw [hs] at h; cases h
    | some q =>
      rw [hs] at h
      match q, h, hs with
      | .inl f', h, hs =>
        obtain ⟨g1, g2⟩ := zgo (hM 125 (by omega)) hs
        intro p e s mi below meth c n0 hC hlk hrt hbase hn
        exact g2 hC hn (ih f' r h h1 hC hlk hrt hbase (by omega))
      | .inr (.inl cl), h, hs =>
        dsimp only at h
        cases hc : axn E n cl.1 (entF cl.2.1 cl.2.2.1) with
        | none => rw [hc] at h; cases h
        | some r' =>
          rw [hc] at h
          dsimp only at h
          obtain ⟨c1, -, c2, c3, c4, c5⟩ := zcall (hM 125 (by omega)) hCW hs
          obtain ⟨g1, g2⟩ := zmain (l := l) (D := D) (cA := cA) (b := b) (base := base) hM hCW n cl.1 _ r' c1 hc
          have g1 : r'.2.1.length + 0 = cl.2.2.1.1.length + (mtR cl.1).2.1 := g1
          have e1 := (c4 r').1
          have e2 := (c4 r').2
          rw [c2] at g1
          intro p e s mi below meth c n0 hC hlk hrt hbase hn
          have hMet : zMet E l D cA b base cl.1 cl.2.1 cl.2.2.1 r' := zmet_of (E := E) (hCW cl.1 c1).2 c1 c3 (fun hC' h1 h2 h3 => g2 hC' h1 h2 (by show cl.2.2.1.1.length = _ + 0; omega))
          exact c5 hC hn hMet (ih _ r h h1 hC hlk hrt hbase (by rw [e2, e1]; omega))
      | .inr (.inr r'), h, hs =>
        cases h
        obtain ⟨kc, ks, pc, ls, st, h⟩ := f
        obtain ⟨q, hk7, hd, hok⟩ := zret_inv (hM 125 (by omega)) hs
        obtain ⟨ins, len, a, k, cc, d⟩ := q
        dsimp only at hk7 hd
        obtain ⟨rfl, rfl, hr2, hr⟩ := rop_inv hk7
        intro p e s mi below meth c n0 hC hlk hrt hbase hn H locs lsA hP hS hl
        obtain ⟨hx, hb, hml, hown, hin, hts, hK, hz, hRc, hRs, hRf, hRl, hX⟩ := hC
        rcases hr with ⟨x, rfl, rfl, g1, h01⟩ | ⟨x, rfl, rfl, g1⟩ | ⟨rfl, rfl, g1⟩
        · rw [g1] at h1
          cases h1
          simp only [okA, Bool.and_eq_true, Bool.or_eq_true, decide_eq_true_eq] at hok
          have g3 := Nat.eq_of_beq_eq_true hok.1
          subst g3
          refine va_forget (fun q hq => by have := hS.2.2 q hq; rw [← hbase]; exact this) ?_
          refine W.widen (k := 600000) (n := 7302250) (Nat.le_of_ble_eq_true rfl) (Nat.le_of_ble_eq_true rfl) ?_
          exact lw_ret hx hb hrt hlk hd
        · rw [g1] at h1; cases h1
        · rw [g1] at h1; cases h1
/-- the claim out of a run of the small machine -/
theorem whole_of {p : Program} {e : Env} {s : State} {m : MethodId} {below : List Frame} {meth : Method} {c : Code} (hM : ∀ m, m < 126 → okM m = true) (hCW : ∀ m, m < 125 → okCb m = true ∧ okW m = true) (l : Launch) {b L : Nat} {xs : Nat → Int32} (hrun : ∃ h', Ax (L, fun i => (xs i).toInt) 125 (entF [vR (some 0)] zh0) = some (some (vI 1), h')) (C0 : lw_At p s m meth c b L xs) : W p l e room_1 s m #[Value.ref b] below meth c s.heap [] 0 0 (lw_Z below #[Value.ref b] s) (entryFrame m ([Value.ref b] : List Value).toArray 13) := by
  obtain ⟨hx, hb, hr, hml, hown, hts0, hX, hbl, hlocks, hgv⟩ := id C0
  have hts : ∀ w ∈ zT, w.before #[Value.ref b] s = true := fun w hw => hts0 w (List.mem_filter.mp hw).1
  obtain ⟨dC, dI, hu⟩ := u_all hts 10 (Nat.le_refl _)
  obtain ⟨cA, ha⟩ := arr_all hts
  have hK : va_K (dC, dI) classes (tysO cA) s := by
    refine ⟨fun ci q hq => ?_, fun t q hq => ?_⟩
    · have hlt : ci < 10 := (List.getElem?_eq_some_iff.mp hq).1
      rw [cls_at ci hlt] at hq
      cases hq
      exact hu ci hlt
    · have hlt : t < 5 := (List.getElem?_eq_some_iff.mp hq).1
      rw [tys_at cA hlt] at hq
      cases hq
      exact ha t hlt
  obtain ⟨h', hrun⟩ := hrun
  obtain ⟨n, hn⟩ := Ax_iff.mp hrun
  have hC : zCx p room_1 s m #[Value.ref b] meth c (dC, dI) cA b s.heap.size 0 125 (L, fun i => (xs i).toInt) :=
    ⟨hx, hb, hml, hown, fun q => absurd q (by decide), hts, hK, rfl, Nat.le_of_ble_eq_true rfl, Nat.le_of_ble_eq_true rfl, Nat.le_of_ble_eq_true rfl, Nat.le_of_ble_eq_true rfl, fun _ => ⟨L, xs, hX, hbl, hbl, rfl, fun i _ => rfl⟩⟩
  have hlv := lv_entry ([vR (some 0)].map (cv b s.heap.size)) (n := mtL 125) (by rw [lv_sl]; exact Nat.le_of_ble_eq_true rfl)
  rw [lv_args_eq] at hlv
  have main := zlaw (l := l) (e := e) (below := below) hM hCW n _ _ hn rfl hC hlocks hr rfl rfl s.heap [] _ (fun k q h => by simp [wsO, entF, zh0] at h) va_S.rf hlv
  have e : entryFrame m ([Value.ref b] : List Value).toArray 13 = F0 m 0 ((lg_sl ([vR (some 0)].map (cv b s.heap.size)) ++ List.replicate (mtL 125 - (lg_sl ([vR (some 0)].map (cv b s.heap.size))).length) Slot.unset).toArray) [] := lg_entry_eq m [Value.ref b] 13
  rw [e]
  exact main

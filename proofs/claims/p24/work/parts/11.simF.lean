/-! calls, returns, and the whole machine -/
/-- the script, for the two methods that have it -/
def zScr (E : zE) (b base : Nat) (U : State) : Prop := ∃ (L : Nat) (xs : Nat → Int32), va_X b L xs U U.heap ∧ b < base ∧ b < U.heap.size ∧ E.1 = L ∧ ∀ i, i < L → E.2 i = (xs i).toInt
def zPc (E : zE) (m : Nat) (D : va_G) (cA : Nat → ClassId) (b base : Nat) (args : List zV) (h : zH) : Array Value → State → Prop := va_Pc (args.map (cv b base)) (fun U => U.heap.size = base + h.1.length ∧ va_P D classes (wsO b base cA h) U.heap ∧ va_K D classes (tysO cA) U ∧ zNw U ∧ (124 ≤ m → zScr E b base U))
def zQc (D : va_G) (cA : Nat → ClassId) (b base : Nat) (r : zR) : Array Value → State → Outcome → State → Prop := fun _ st o t => o = .returned (r.1.map (cv b base)) ∧ va_P D classes (wsO b base cA r.2) t.heap ∧ va_F (fun q => base ≤ q) st t
def zws (m : Nat) : List Jvm.Cond := .code (mtY m) (mtC m) (mtL m) (mtr m) :: zgood
def zrm (m : Nat) : Room := { frames := (mtR m).1, cells := (mtR m).2.1, slots := (mtR m).2.2.1, locals := (mtR m).2.2.2 }
def zMet (E : zE) (l : Launch) (D : va_G) (cA : Nat → ClassId) (b base m : Nat) (args : List zV) (h : zH) (r : zR) : Prop := Met l (mtY m) (zws m) (zrm m) (zPc E m D cA b base args h) (zQc D cA b base r) (mtR m).2.1 (mtR m).2.2.1 (fun q => base ≤ q)
theorem zPc_blind {E : zE} {m : Nat} {D : va_G} {cA : Nat → ClassId} {b base : Nat} {args : List zV} {h : zH} : FrameBlind (zPc E m D cA b base args h) := fun a U g mk q => ⟨q.1, q.2.1, q.2.2.1, va_K.moved (u := U) (U := U.calling g mk a) (Vm.Alike.refl U.vm) q.2.2.2.1, zNw_vm (u := U) (U := U.calling g mk a) rfl q.2.2.2.2.1, fun hm => by
  obtain ⟨L, xs, x1, x2, x3, x4, x5⟩ := q.2.2.2.2.2 hm
  exact ⟨L, xs, va_X.moved (u := U) (U := U.calling g mk a) (Vm.Alike.refl U.vm) x1, x2, x3, x4, x5⟩⟩
section CAL
variable {p : Program} {l : Launch} {e : Env} {R : Room} {s : State} {m : MethodId} {args : Array Value} {below : List Frame} {meth : Method} {c : Code} {H : Heap} {locs : List Loc} {cells slots : Nat} {Q : State → Prop}
variable {D : va_G} {cA : Nat → ClassId} {mm m' b base n0 na fl k cc d len pc nL idx : Nat} {lsA : Array Slot} {ls ls' : zL} {st st' : List zV} {h h' : zH} {ins : Instr} {E : zE} {r : zR} {cl : List zV × zH × (zR → zF)}
theorem run_go {mc ms : Nat} {g : JFrame} {rest : List Value} {Qa : State → Outcome → State → Prop} (hr : va_Run p l e R s m args below meth c H locs cells slots mc ms g rest Qa (fun q => base ≤ q)) (hS : va_S (fun q => base ≤ q) s.heap H locs) (hF : ∀ st o t, Qa st o t → va_F (fun q => base ≤ q) st t)
    (kk : ∀ (v : Option Value) (st₀ t : State) (locs1 : List Loc), Qa st₀ (.returned v) t → va_S (fun q => base ≤ q) s.heap t.heap locs1 → W p l e R s m args below meth c t.heap locs1 (cells + mc) (slots + ms) Q { g with pc := g.pc + 3, stack := v.toList ++ rest }) : W p l e R s m args below meth c H locs cells slots Q g := by
  intro T hT X
  obtain ⟨v, st₀, t, T', L, h0, X', hL, e1, e2, hq, st⟩ := hr T hT X
  have hf := hF _ _ _ hq
  unfold va_F at hf
  rw [h0] at hf
  obtain ⟨hz, hk⟩ := hf
  obtain ⟨t2, a1, b1⟩ := kk v st₀ t (locs ++ L) hq ⟨Nat.le_trans hS.1 hz, fun q h1 h2 => by rw [hk q (Nat.lt_of_lt_of_le h1 hS.1) h2]; exact hS.2.1 q h1 h2, fun q hq => by
      rcases List.mem_append.mp hq with h | h
      · exact hS.2.2 q h
      · exact hL q h⟩ T' e1 X'
  exact ⟨t2, st t2 a1, b1⟩
theorem h_size (hz : s.heap.size = base + n0) (hn : h.1.length = n0 + cells) (hP : va_P D classes (wsO b base cA h) H) (hS : va_S (fun q => base ≤ q) s.heap H locs) (hu : H.size ≤ s.heap.size + cells) : H.size = base + h.1.length := by
  have h1 := hS.1
  rcases Nat.eq_zero_or_pos cells with h2 | h2
  · omega
  · have hl : h.1.length - 1 < h.1.length := by omega
    have hw : (wsO b base cA h)[h.1.length - 1]? = some (base + (h.1.length - 1), ceO b base cA h (h.1.length - 1 + 1) h.1[h.1.length - 1]) := by
      rw [wsO_get, List.getElem?_eq_getElem hl]
      rfl
    have h3 := (hP _ _ hw).lt
    have h3 : base + (h.1.length - 1) < H.size := h3
    omega
theorem take_succ_of {α : Type} : ∀ {l : List α} {n : Nat} {x : α} {r : List α}, l.drop n = x :: r → l.take (n + 1) = l.take n ++ [x] ∧ l.drop (n + 1) = r ∧ l = l.take n ++ x :: r := by
  intro l
  induction l with
  | nil => intro n x r h; simp at h
  | cons a l ih =>
    intro n x r h
    cases n with
    | zero => simp at h; simp [h.1, h.2]
    | succ n =>
      simp only [List.drop_succ_cons] at h
      obtain ⟨h1, h2, h3⟩ := ih h
      refine ⟨by rw [List.take_succ_cons, h1]; rfl, by simpa using h2, ?_⟩
      rw [List.take_succ_cons, List.cons_append, ← h3]
theorem lv_sl (b base : Nat) (vs : List zV) : (lg_sl (vs.map (cv b base))).length = lvN vs := by
  induction vs with
  | nil => rfl
  | cons v vs ih =>
    have e : lg_sl ((v :: vs).map (cv b base)) = lg_sl [cv b base v] ++ lg_sl (vs.map (cv b base)) := by simp [lg_sl]
    rw [e, List.length_append, ih]
    show _ = cond (isL v) 2 1 + lvN vs
    congr 1
    have := cv_cat b base v
    cases hv : isL v with
    | true => simp [lg_sl, this.1.mpr hv]
    | false =>
      have h2 := this.2.mpr hv
      simp [lg_sl, h2]
theorem lv_args_eq (b base : Nat) (vs : List zV) : ∀ i, lv_args i (vs.map (cv b base)) = cl1 b base (lvA i vs) := by
  induction vs with
  | nil => intro i; rfl
  | cons v vs ih =>
    intro i
    have := cv_cat b base v
    cases hv : isL v with
    | true => simp only [List.map_cons, lv_args, lvA, hv, this.1.mpr hv, ih]; rfl
    | false =>
      have h2 := this.2.mpr hv
      simp only [List.map_cons, lv_args, lvA, hv, h2, ih]
      rfl
theorem zgood_good : ∀ w ∈ zgood, ((w.onTables && w.keeps) = true ∨ ∃ ty, w = .arrayClass ty) := fun w hw => good_of_word (List.mem_filter.mp hw).2
theorem zws_good (hC : okCb m' = true) : GoodIn zT (zws m') := by
  intro w hw
  rcases List.mem_cons.mp hw with rfl | hw
  · refine ⟨zT_in (List.mem_of_getElem? (of_decide_eq_true hC)) rfl, good_of_word rfl⟩
  · exact ⟨(List.mem_filter.mp hw).1, zgood_good w hw⟩
theorem okW_inv (hW : okW m' = true) : Jvm.Cond.initialized (mtY m').cls ∈ zT ∧ plainName (mtY m').cls = true ∧ (mtS m' = 2 → Jvm.Cond.static (mtY m') ∈ zT) ∧ (mtS m' ≠ 2 → Jvm.Cond.instanceMethod (mtY m') ∈ zT) ∧ (mtS m' = 0 → Jvm.Cond.selects (mtY m').cls (mtY m') (mtY m') ∈ zT) ∧ (mtS m' = 1 → (mtY m').name = "<init>" ∧ mtr m' = none) ∧ ((mtY m').cls ≠ "java/lang/invoke/MethodHandle" ∧ (mtY m').cls ≠ "java/lang/invoke/VarHandle") ∧ (parseMethodDescriptor (mtY m').desc).map (fun d => d.parameters.length) = some (mtN m') := by
  unfold okW at hW
  simp only [Bool.and_eq_true, decide_eq_true_eq] at hW
  obtain ⟨⟨⟨⟨⟨⟨h1, h2⟩, h3⟩, h4⟩, h5⟩, h6⟩, h7⟩ := hW
  refine ⟨zT_in (List.mem_of_getElem? h1) rfl, h2, fun q => ?_, fun q => ?_, fun q => ?_, fun q => ?_, h6, h7⟩
  · rw [q] at h3
    exact zT_in (List.mem_of_getElem? h3) rfl
  · have e : Nat.beq (mtS m') 2 = false := by cases hb : Nat.beq (mtS m') 2 with
      | true => exact absurd (Nat.eq_of_beq_eq_true hb) q
      | false => rfl
    rw [e] at h3
    exact zT_in (List.mem_of_getElem? h3) rfl
  · rw [q] at h4
    exact zT_in (List.mem_of_getElem? (of_decide_eq_true h4)) rfl
  · rw [q] at h5
    have h5 : (decide ((mtY m').name = "<init>") && decide (mtr m' = none)) = true := h5
    simp only [Bool.and_eq_true, decide_eq_true_eq] at h5
    exact h5
theorem cnm_at {ci : Nat} {x : String} (h : cnm[ci]? = some x) : ci < 10 ∧ cnO ci = x := by
  have h1 : ci < 10 := (List.getElem?_eq_some_iff.mp h).1
  refine ⟨h1, ?_⟩
  unfold cnO
  rw [List.getD_eq_getElem?_getD, h]
  rfl
set_option maxHeartbeats 8000000 in
/-- a call of a method whose contract stands -/
theorem sim_cop (hx : p.tables.exec = Jvm.exec) (hb : c.code = mtC mm) (hml : c.maxLocals = mtL mm) (hown : s.vm.findClass (clsOf mm) = some m.cls) (hts : ∀ w ∈ zT, w.before args s = true) (hK : va_K D classes (tysO cA) s) (hP : va_P D classes (wsO b base cA h) H) (hS : va_S (fun q => base ≤ q) s.heap H locs)
    (hz : s.heap.size = base + n0) (hn : h.1.length = n0 + cells) (hRc : (mtR mm).2.1 ≤ R.cells) (hRs : (mtR mm).2.2.1 ≤ R.slots) (hRf : (mtR mm).1 ≤ R.frames) (hRl : (mtR mm).2.2.2 ≤ R.locals) (hl : lsA.size = mtL mm)
    (hC : okCb m' = true) (hW : okW m' = true) (hM : zMet E l D cA b base m' cl.1 cl.2.1 r) (hX : 124 ≤ mm → zScr E b base s)
    (hcall : okCall mm m' na fl d idx = true) (hins : (fl < 2 ∧ ins = .invokevirtual idx ∧ mtS m' = 0) ∨ (2 ≤ fl ∧ fl < 4 ∧ ins = .invokespecial idx ∧ mtS m' = 1) ∨ ((fl = 4 ∨ fl = 5) ∧ ins = .invokestatic idx ∧ mtS m' = 2))
    (hd : decode (mtC mm) pc = .ok (ins, 3)) (hk : cop mm m' na fl 3 cells slots pc ls st h = some (m', cl))
    (kk : ∀ (H1 : Heap) (locs1 : List Loc), va_P D classes (wsO b base cA r.2) H1 → va_S (fun q => base ≤ q) s.heap H1 locs1 → W p l e R s m args below meth c H1 locs1 (cl.2.2 r).1 (cl.2.2 r).2.1 Q (F0 m (cl.2.2 r).2.2.1 lsA ((cl.2.2 r).2.2.2.2.1.map (cv b base)))) : W p l e R s m args below meth c H locs cells slots Q (F0 m pc lsA (st.map (cv b base))) := by
  refine W_sz fun hu => ?_
  have hsz := h_size hz hn hP hS hu
  obtain ⟨w1, w2, w3, w4, w5, w6, w7, w8⟩ := okW_inv hW
  unfold okCall at hcall
  simp only [Bool.and_eq_true, decide_eq_true_eq] at hcall
  obtain ⟨⟨⟨⟨⟨c1, c2⟩, c3⟩, c4⟩, c5⟩, c6⟩ := hcall
  have hX' : ∀ U : State, U.heap = H → s.WarmedH U.vm → 124 ≤ m' → zScr E b base U := by
    intro U hU hW hm
    have h125 : mm = 125 := by
      rw [Bool.or_eq_true] at c6
      rcases c6 with c6 | c6
      · exact absurd (Nat.ble_eq.mp c6) (by omega)
      · exact Nat.eq_of_beq_eq_true c6
    obtain ⟨L, xs, x1, x2, x3, x4, x5⟩ := hX (by omega)
    refine ⟨L, xs, ?_, x2, ?_, x4, x5⟩
    · rw [hU]
      exact va_X.kept (va_X.moved hW.alike x1) (hS.2.1 b x3 (show ¬ base ≤ b by omega))
    · rw [hU]
      exact Nat.lt_of_lt_of_le x3 hS.1
  have c3 := Nat.ble_eq.mp c3
  have c4 := Nat.ble_eq.mp c4
  have c5 := Nat.eq_of_beq_eq_true c5
  have hG := zws_good hC
  have hRR : (zrm m').frames + 1 ≤ R.frames ∧ 8 + (mtL m' + 11) + (zrm m').locals ≤ R.locals := ⟨by show (mtR m').1 + 1 ≤ _; omega, by show 8 + (mtL m' + 11) + (mtR m').2.2.2 ≤ _; omega⟩
  unfold cop at hk
  cases hr1 : (Nat.ble (cells + (mtR m').2.1) (mtR mm).2.1 && Nat.ble (slots + (mtR m').2.2.1) (mtR mm).2.2.1) with
  | false => rw [hr1] at hk; cases hk
  | true =>
    rw [hr1] at hk
    rw [Bool.and_eq_true] at hr1
    have r1 := Nat.ble_eq.mp hr1.1
    have r2 := Nat.ble_eq.mp hr1.2
    have hS5 : CallFix p m c (mtC mm) (mtL mm) s args zT (clsOf mm) := ⟨hx, hb, hml, hown, hts⟩
    have hnw : zNw s := zNw_of hts
    have hQF : ∀ (ar : Array Value) st o t, zQc D cA b base r ar st o t → va_F (fun q => base ≤ q) st t := fun _ _ _ _ q => q.2.2
    dsimp only [cond] at hk
    cases hf : Nat.blt fl 4 with
    | true =>
      rw [hf] at hk
      dsimp only at hk
      cases hr2 : (Nat.ble (na + 1) st.length && Nat.ble (st.drop (na + 1)).length 4 && isRecv h m' (st.drop na) && Nat.ble (lvN (st.take (na + 1)).reverse) (mt_L.getD m' 0)) with
      | false => rw [hr2] at hk; cases hk
      | true =>
        rw [hr2] at hk
        cases hk
        simp only [Bool.and_eq_true] at hr2
        obtain ⟨⟨⟨q1, q2⟩, q3⟩, q4⟩ := hr2
        have q2 := Nat.ble_eq.mp q2
        unfold isRecv at q3
        split at q3
        · next o rest hdr =>
          split at q3
          · next ci hsh =>
            obtain ⟨hci, hcn⟩ := cnm_at (of_decide_eq_true q3)
            obtain ⟨t1, t2, t3⟩ := take_succ_of hdr
            obtain ⟨j, rfl, hj, hadr, hat⟩ := wsO_at (b := b) (base := base) (cA := cA) hsh
            have hrecv := va_recv hK hP (cls_at ci hci) hat
            rw [hcn] at hrecv
            have hlen : ((st.take na).reverse.map (cv b base)).length = mtN m' := by
              have := Nat.ble_eq.mp q1
              simp
              omega
            have hstk : (F0 m pc lsA (st.map (cv b base))).stack = ((st.take na).reverse.map (cv b base)).reverse ++ .ref (base + j) :: rest.map (cv b base) := by
              show st.map (cv b base) = _
              have e : (st.take na ++ vR (some (j + 1)) :: rest).map (cv b base) = ((st.take na).reverse.map (cv b base)).reverse ++ .ref (base + j) :: rest.map (cv b base) := by
                rw [List.map_append, List.map_reverse, List.reverse_reverse]
                congr 1
              rw [← t3] at e
              exact e
            have hargs : ((st.take (na + 1)).reverse.map (cv b base)).toArray = (Value.ref (base + j) :: (st.take na).reverse.map (cv b base)).toArray := by
              rw [t1, List.reverse_append]
              rfl
            have hPc : ∀ U : State, U.heap = H → s.WarmedH U.vm → zPc E m' D cA b base (st.take (na + 1)).reverse h (Value.ref (base + j) :: (st.take na).reverse.map (cv b base)).toArray U := fun U hU hW => ⟨hargs.symm, by rw [hU]; exact hsz, by rw [hU]; exact hP, va_K.moved hW.alike hK, zNw_warm hW hnw, hX' U hU hW⟩
            have hcat := lv_room (m := m) (pc := pc) (ls := lsA) (rest := st.map (cv b base)) (cats_le b base rest (by rw [← t2]; exact q2))
            have hend : ∀ (v : Option Value) (st₀ t : State) (locs1 : List Loc), zQc D cA b base r (Value.ref (base + j) :: (st.take na).reverse.map (cv b base)).toArray st₀ (.returned v) t → va_S (fun q => base ≤ q) s.heap t.heap locs1 → W p l e R s m args below meth c t.heap locs1 (cells + (mtR m').2.1) (slots + (mtR m').2.2.1) Q { F0 m pc lsA (st.map (cv b base)) with pc := (F0 m pc lsA (st.map (cv b base))).pc + 3, stack := v.toList ++ rest.map (cv b base) } := by
              intro v st₀ t locs1 hq hS1
              obtain ⟨g1, g2, g3⟩ := hq
              cases g1
              have := kk t.heap locs1 g2 hS1
              rw [t2, List.map_append] at this
              have e : (r.1.toList.map (cv b base)) = (r.1.map (cv b base)).toList := by cases r.1 <;> rfl
              rw [e] at this
              exact this
            rcases hins with ⟨i1, rfl, i3⟩ | ⟨i1, i2, rfl, i3⟩ | ⟨i1, -, -⟩
            · rcases (show fl = 0 ∨ fl = 1 by omega) with rfl | rfl
              · exact run_go (va_runV (As := (st.take na).reverse.map (cv b base)) (rest := rest.map (cv b base)) (n := mtN m') (C := (mtY m').cls) hS5 hM ⟨callB_of (mtN m') hts hG rfl rfl rfl (hts _ w1) (hts _ (tw_in c1 rfl)) ⟨w7.1, w7.2, w8⟩ hRR, hts _ (w4 (by omega)), hts _ (w5 i3)⟩ ⟨zPc_blind, hrecv, hPc⟩ rfl hlen hl hstk hcat hd ⟨by omega, by omega⟩) hS (fun st o t q => hQF _ st o t q) hend
              · exact run_go (va_runVN (As := (st.take na).reverse.map (cv b base)) (rest := rest.map (cv b base)) (n := mtN m') (C := (mtY m').cls) hS5 hM ⟨va_cnB (mtN m') hts hG rfl rfl rfl (va_Nw.of rfl (hts _ (tw_in c1 rfl))) (hts _ w1) ⟨w7.1, w7.2, w8⟩ hRR, hts _ (w4 (by omega)), hts _ (w5 i3)⟩ ⟨zPc_blind, hrecv, hPc⟩ rfl hlen hl hstk hcat hd ⟨by omega, by omega⟩) hS (fun st o t q => hQF _ st o t q) hend
            · have hM' : Met l (mtY m') (.code (mtY m') (mtC m') (mtL m') none :: zgood) (zrm m') (zPc E m' D cA b base (st.take (na + 1)).reverse h) (zQc D cA b base r) (mtR m').2.1 (mtR m').2.2.1 (fun q => base ≤ q) := by
                have := hM
                unfold zMet zws at this
                rw [(w6 i3).2] at this
                exact this
              have hG' : GoodIn zT (.code (mtY m') (mtC m') (mtL m') none :: zgood) := by
                have := hG
                unfold zws at this
                rw [(w6 i3).2] at this
                exact this
              rcases (show fl = 2 ∨ fl = 3 by omega) with rfl | rfl
              · exact run_go (va_runI (As := (st.take na).reverse.map (cv b base)) (rest := rest.map (cv b base)) (n := mtN m') hS5 hM' ⟨callB_of (mtN m') hts hG' rfl rfl rfl (hts _ w1) (hts _ (tw_in c1 rfl)) ⟨w7.1, w7.2, w8⟩ hRR, (w6 i3).1, hts _ (w4 (by omega))⟩ ⟨zPc_blind, hPc⟩ rfl hlen hl hstk hcat hd ⟨by omega, by omega⟩) hS (fun st o t q => hQF _ st o t q) hend
              · exact run_go (va_runIN (As := (st.take na).reverse.map (cv b base)) (rest := rest.map (cv b base)) (n := mtN m') hS5 hM' ⟨va_cnB (mtN m') hts hG' rfl rfl rfl (va_Nw.of rfl (hts _ (tw_in c1 rfl))) (hts _ w1) ⟨w7.1, w7.2, w8⟩ hRR, (w6 i3).1, hts _ (w4 (by omega))⟩ ⟨zPc_blind, hPc⟩ rfl hlen hl hstk hcat hd ⟨by omega, by omega⟩) hS (fun st o t q => hQF _ st o t q) hend
            · have := Nat.ble_eq.mp hf
              omega
          · cases q3
        · cases q3
    | false =>
      rw [hf] at hk
      dsimp only at hk
      cases hr2 : (Nat.ble na st.length && Nat.ble (st.drop na).length 4 && Nat.ble (lvN (st.take na).reverse) (mt_L.getD m' 0)) with
      | false => rw [hr2] at hk; cases hk
      | true =>
        rw [hr2] at hk
        cases hk
        simp only [Bool.and_eq_true] at hr2
        obtain ⟨⟨q1, q2⟩, q4⟩ := hr2
        have q2 := Nat.ble_eq.mp q2
        have hlen : ((st.take na).reverse.map (cv b base)).length = mtN m' := by
          have := Nat.ble_eq.mp q1
          simp
          omega
        have hstk : (F0 m pc lsA (st.map (cv b base))).stack = ((st.take na).reverse.map (cv b base)).reverse ++ (st.drop na).map (cv b base) := by
          show st.map (cv b base) = _
          rw [List.map_reverse, List.reverse_reverse, ← List.map_append, List.take_append_drop]
        have hPc : ∀ U : State, U.heap = H → s.WarmedH U.vm → zPc E m' D cA b base (st.take na).reverse h ((st.take na).reverse.map (cv b base)).toArray U := fun U hU hW => ⟨rfl, by rw [hU]; exact hsz, by rw [hU]; exact hP, va_K.moved hW.alike hK, zNw_warm hW hnw, hX' U hU hW⟩
        have hcat := lv_room (m := m) (pc := pc) (ls := lsA) (rest := st.map (cv b base)) (cats_le b base (st.drop na) q2)
        have hend : ∀ (v : Option Value) (st₀ t : State) (locs1 : List Loc), zQc D cA b base r ((st.take na).reverse.map (cv b base)).toArray st₀ (.returned v) t → va_S (fun q => base ≤ q) s.heap t.heap locs1 → W p l e R s m args below meth c t.heap locs1 (cells + (mtR m').2.1) (slots + (mtR m').2.2.1) Q { F0 m pc lsA (st.map (cv b base)) with pc := (F0 m pc lsA (st.map (cv b base))).pc + 3, stack := v.toList ++ (st.drop na).map (cv b base) } := by
          intro v st₀ t locs1 hq hS1
          obtain ⟨g1, g2, g3⟩ := hq
          cases g1
          have := kk t.heap locs1 g2 hS1
          rw [List.map_append] at this
          have e : (r.1.toList.map (cv b base)) = (r.1.map (cv b base)).toList := by cases r.1 <;> rfl
          rw [e] at this
          exact this
        rcases hins with ⟨i1, rfl, i3⟩ | ⟨i1, i2, rfl, i3⟩ | ⟨i1, rfl, i3⟩
        · have : Nat.blt fl 4 = true := Nat.ble_eq.mpr (by omega)
          rw [this] at hf; cases hf
        · have : Nat.blt fl 4 = true := Nat.ble_eq.mpr (by omega)
          rw [this] at hf; cases hf
        · rcases i1 with rfl | rfl
          · exact run_go (va_runS (As := (st.take na).reverse.map (cv b base)) (rest := (st.drop na).map (cv b base)) (n := mtN m') hS5 hM ⟨callB_of (mtN m') hts hG rfl rfl rfl (hts _ w1) (hts _ (tw_in c1 rfl)) ⟨w7.1, w7.2, w8⟩ hRR, hts _ (w3 i3)⟩ ⟨zPc_blind, hPc⟩ rfl hlen hl hstk hcat hd ⟨by omega, by omega⟩) hS (fun st o t q => hQF _ st o t q) hend
          · exact run_go (va_runSN (As := (st.take na).reverse.map (cv b base)) (rest := (st.drop na).map (cv b base)) (n := mtN m') hS5 hM ⟨va_cnB (mtN m') hts hG rfl rfl rfl (va_Nw.of rfl (hts _ (tw_in c1 rfl))) (hts _ w1) ⟨w7.1, w7.2, w8⟩ hRR, hts _ (w3 i3), trivial⟩ ⟨zPc_blind, hPc⟩ rfl hlen hl hstk hcat hd ⟨by omega, by omega⟩) hS (fun st o t q => hQF _ st o t q) hend
end CAL

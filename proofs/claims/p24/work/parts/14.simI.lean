/-! the whole machine: a run of the small machine is a contract of the JVM -/
theorem zmet_of {l : Launch} {D : va_G} {cA : Nat → ClassId} {b base m : Nat} {args : List zV} {h : zH} {r : zR} {E : zE} (hW : okW m = true) (hm : m < 125) (hl : lvN args ≤ mtL m)
    (hJ : ∀ {p : Program} {e : Env} {R : Room} {s : State} {mi : MethodId} {av : Array Value} {below : List Frame} {meth : Method} {c : Code} {n0 : Nat}, zCx p R s mi av meth c D cA b base n0 m E → meth.locks = false → meth.sig.returnType = mtr m → h.1.length = n0 → zJ p l e R s mi av below meth c (MQ below (zQc D cA b base r) av s (mtR m).2.1 (mtR m).2.2.1 (fun q => base ≤ q)) D cA b base m (entF args h)) : zMet E l D cA b base m args h r := by
  obtain ⟨w1, w2, w3, w4, w5, w6, w7, w8⟩ := okW_inv hW
  unfold zMet
  refine Met.ofW (cc := mtC m) (maxL := mtL m) (ret := mtr m) w2 rfl ?_
  intro p e s mi av below meth c s₁ B hml hv
  obtain ⟨rfl, hsz, hP, hK, hnw, hXs⟩ := hv
  have hts : ∀ w ∈ zT, w.before (args.map (cv b base)).toArray s = true := by
    intro w hw
    rcases zgood_in hw with hg | hg
    · exact atoms_spec (ws := zws m) B.pre w (List.mem_cons_of_mem _ hg)
    · exact zNw_use hnw hw hg
  have hC : zCx p (headSpec (zws m) (zrm m)).room s mi (args.map (cv b base)).toArray meth c D cA b base h.1.length m E :=
    ⟨B.exec, B.bytes, hml, findClass_of_methodNamed B.named, fun q => ((name_of_methodNamed B.named B.method).1).trans q, hts, hK, hsz, Nat.le_refl _, Nat.le_refl _, Nat.le_refl _, Nat.le_refl _, hXs⟩
  have hlv := lv_entry (args.map (cv b base)) (n := mtL m) (by rw [lv_sl]; exact hl)
  rw [lv_args_eq] at hlv
  rw [lg_entry_eq]
  exact hJ hC B.notSynchronized B.returns rfl s.heap [] _ hP va_S.rf hlv
theorem zret_inv {E : zE} {m kc ks pc : Nat} {ls : zL} {st : List zV} {h : zH} {r : zR} (hM : okM m = true) (hs : lstep E m (kc, ks, pc, ls, st, h) = some (.inr (.inr r))) : ∃ q : Instr × Nat × Nat × Nat × Nat × Nat, rop m q.1 kc ks st h = some r ∧ decode (mtC m) pc = .ok (q.1, q.2.1) ∧ okA m (pc, q) = true := by
  unfold lstep at hs
  dsimp only at hs
  cases hq : lkp (mt_k.getD m []) pc with
  | none => rw [hq] at hs; cases hs
  | some q =>
    rw [hq] at hs
    dsimp only at hs
    obtain ⟨hd, hok⟩ := okM_at hM hq
    obtain ⟨ins, len, a, k, cc, d⟩ := q
    dsimp only at hs hd
    refine ⟨(ins, len, a, k, cc, d), ?_, hd, hok⟩
    generalize kin ins cc = kk at hs
    match kk, hs with
    | 0, hs =>
      cases hk : lop ins a ls st <;> rw [hk] at hs <;> cases hs
    | 1, hs =>
      cases hk : (cond (Nat.ble 124 m) (sop E ins st h) (hop ins a k st h)) <;> rw [hk] at hs <;> cases hs
    | 2, hs =>
      cases hk : alop m ins a kc ks st h <;> rw [hk] at hs <;> cases hs
    | 3, hs =>
      cases hk : jop ins len a pc ls st <;> rw [hk] at hs <;> cases hs
    | 4, hs =>
      cases hk : cop m a k cc len kc ks pc ls st h <;> rw [hk] at hs <;> cases hs
    | 5, hs =>
      exfalso
      change (match st with | .inr (.inr (some _)) :: r => cond (Nat.ble r.length 4) (some (Sum.inl (kc, ks, pc + len, ls, r, h))) none | _ => none) = some (Sum.inr (Sum.inr r)) at hs
      split at hs
      · next v r heq =>
        cases h4 : Nat.ble r.length 4 <;> rw [h4] at hs <;> cases hs
      · cases hs
    | 6, hs =>
      exfalso
      cases hk : acop st h with
      | none => rw [hk] at hs; cases hs
      | some r =>
        rw [hk] at hs
        dsimp only at hs
        cases h4 : Nat.ble r.1.length 4 <;> rw [h4] at hs <;> cases hs
    | 8, hs =>
      exfalso
      cases hk : oI wmax ls st with
      | none => rw [hk] at hs; cases hs
      | some r =>
        rw [hk] at hs
        dsimp only at hs
        cases h4 : (Nat.ble r.2.length 5 && (Nat.ble kc (mtR m).2.1 && Nat.ble ks (mtR m).2.2.1)) <;> rw [h4] at hs <;> cases hs
    | 9, hs =>
      exfalso
      cases hk : oI wmin ls st with
      | none => rw [hk] at hs; cases hs
      | some r =>
        rw [hk] at hs
        dsimp only at hs
        cases h4 : (Nat.ble r.2.length 5 && (Nat.ble kc (mtR m).2.1 && Nat.ble ks (mtR m).2.2.1)) <;> rw [h4] at hs <;> cases hs
    | 7, hs =>
      change (match rop m ins kc ks st h with | some r => some (Sum.inr (Sum.inr r)) | none => none) = some (Sum.inr (Sum.inr r)) at hs
      cases hk : rop m ins kc ks st h with
      | none => rw [hk] at hs; cases hs
      | some r => rw [hk] at hs; cases hs; rfl
    | k + 10, hs =>
      change (match rop m ins kc ks st h with | some r => some (Sum.inr (Sum.inr r)) | none => none) = some (Sum.inr (Sum.inr r)) at hs
      cases hk : rop m ins kc ks st h with
      | none => rw [hk] at hs; cases hs
      | some r => rw [hk] at hs; cases hs; rfl
set_option maxHeartbeats 8000000 in
theorem zmain {l : Launch} {D : va_G} {cA : Nat → ClassId} {b base : Nat} {E : zE} (hM : ∀ m, m < 126 → okM m = true) (hCW : ∀ m, m < 125 → okCb m = true ∧ okW m = true) : ∀ (n m : Nat) (f : zF) (r : zR), m < 125 → axn E n m f = some r →
    (r.2.1.length + f.1 = f.2.2.2.2.2.1.length + (mtR m).2.1) ∧
    ∀ {p : Program} {e : Env} {R : Room} {s : State} {mi : MethodId} {av : Array Value} {below : List Frame} {meth : Method} {c : Code} {n0 : Nat}, zCx p R s mi av meth c D cA b base n0 m E → meth.locks = false → meth.sig.returnType = mtr m → f.2.2.2.2.2.1.length = n0 + f.1 → zJ p l e R s mi av below meth c (MQ below (zQc D cA b base r) av s (mtR m).2.1 (mtR m).2.2.1 (fun q => base ≤ q)) D cA b base m f := by
  intro n
  induction n with
  | zero => intro m f r hm h; cases h
  | succ n ih =>
    intro m f r hm h
    rw [axn] at h
    cases hs : lstep E m f with
    | none => rw [hs] at h; cases h
    | some q =>
      rw [hs] at h
      match q, h, hs with
      | .inl f', h, hs =>
        obtain ⟨g1, g2⟩ := zgo (hM m (by omega)) hs
        obtain ⟨g3, g4⟩ := ih m f' r hm h
        refine ⟨by omega, ?_⟩
        intro p e R s mi av below meth c n0 hC hlk hrt hn
        exact g2 hC hn (g4 hC hlk hrt (by omega))
      | .inr (.inl cl), h, hs =>
        dsimp only at h
        cases hc : axn E n cl.1 (entF cl.2.1 cl.2.2.1) with
        | none => rw [hc] at h; cases h
        | some r' =>
          rw [hc] at h
          dsimp only at h
          obtain ⟨c1, -, c2, c3, c4, c5⟩ := zcall (hM m (by omega)) hCW hs
          obtain ⟨g1, g2⟩ := ih cl.1 _ r' c1 hc
          obtain ⟨g3, g4⟩ := ih m _ r hm h
          have g1 : r'.2.1.length + 0 = cl.2.2.1.1.length + (mtR cl.1).2.1 := g1
          have e1 := (c4 r').1
          have e2 := (c4 r').2
          rw [c2] at g1
          rw [e2] at g3
          rw [e1] at g3
          refine ⟨by omega, ?_⟩
          intro p e R s mi av below meth c n0 hC hlk hrt hn
          have hMet : zMet E l D cA b base cl.1 cl.2.1 cl.2.2.1 r' := zmet_of (E := E) (hCW cl.1 c1).2 c1 c3 (fun hC' h1 h2 h3 => g2 hC' h1 h2 (by show cl.2.2.1.1.length = _ + 0; omega))
          exact c5 hC hn hMet (g4 hC hlk hrt (by rw [e2, e1]; omega))
      | .inr (.inr r'), h, hs =>
        cases h
        obtain ⟨kc, ks, pc, ls, st, h⟩ := f
        obtain ⟨q, hk7, hd, hok⟩ := zret_inv (hM m (by omega)) hs
        obtain ⟨ins, len, a, k, cc, d⟩ := q
        dsimp only at hk7 hd
        obtain ⟨rfl, rfl, hr2, hr⟩ := rop_inv hk7
        refine ⟨by rw [hr2], ?_⟩
        intro p e R s mi av below meth c n0 hC hlk hrt hn H locs lsA hP hS hl
        obtain ⟨hx, hb, hml, hown, hin, hts, hK, hz, hRc, hRs, hRf, hRl, hX⟩ := hC
        have hend : ∀ (v : Option Value), v = r.1.map (cv b base) → ∀ t : State, t.heap = H → s.WarmedH t.vm → zQc D cA b base r av s (.returned v) t := fun v hv t ht hW => ⟨by rw [hv], by rw [ht, hr2]; exact hP, hS.F ht⟩
        rcases hr with ⟨x, rfl, rfl, h1, h01⟩ | ⟨x, rfl, rfl, h1⟩ | ⟨rfl, rfl, h1⟩
        · simp only [okA, Bool.and_eq_true, Bool.or_eq_true, decide_eq_true_eq] at hok
          obtain ⟨g1, g2⟩ := hok
          have g1 := Nat.eq_of_beq_eq_true g1
          subst g1
          rcases g2 with g2 | g2
          · exact W.zret hx hb (hrt.trans g2) rfl (hend _ (by rw [h1]; rfl)) hS.2.2 hd hlk
          · exact W.zret hx hb (hrt.trans g2) (ofI_01 (h01 g2)).1 (hend _ (by rw [h1]; rfl)) hS.2.2 hd hlk
        · simp only [okA, Bool.and_eq_true, decide_eq_true_eq] at hok
          obtain ⟨g1, g2⟩ := hok
          have g1 := Nat.eq_of_beq_eq_true g1
          subst g1
          exact W.lret hx hb (hrt.trans g2) (hend _ (by rw [h1]; rfl)) hS.2.2 hd hlk
        · simp only [okA, Bool.and_eq_true, decide_eq_true_eq] at hok
          obtain ⟨g1, g2⟩ := hok
          have g1 := Nat.eq_of_beq_eq_true g1
          subst g1
          exact W.vret hx hb (hrt.trans g2) (hend _ (by rw [h1]; rfl)) hS.2.2 hd hlk

/-! natives, steps -/
section NAT
variable {p : Program} {l : Launch} {e : Env} {R : Room} {s : State} {m : MethodId} {args : Array Value} {below : List Frame} {meth : Method} {c : Code} {H : Heap} {locs : List Loc} {cells slots : Nat} {Q : State → Prop}
variable {D : va_G} {cA : Nat → ClassId} {mm b base n0 a k cc d len pc kc' ks' nL idx : Nat} {lsA : Array Slot} {ls ls' : zL} {st st' : List zV} {h h' : zH} {ins : Instr} {E : zE}
theorem cats_le (b base : Nat) (st : List zV) (h : st.length ≤ 4) : ((st.map (cv b base)).map fun v => v.category).sum ≤ 8 := by
  have key : ∀ st : List zV, ((st.map (cv b base)).map fun v => v.category).sum ≤ 2 * st.length := by
    intro st
    induction st with
    | nil => simp
    | cons v st ih =>
      simp only [List.map_cons, List.sum_cons, List.length_cons]
      have := (cv_cat b base v)
      cases hv : isL v with
      | true => rw [this.1.mpr hv]; omega
      | false => rw [this.2.mpr hv]; omega
  have := key st
  omega
theorem cpy_I (f : Nat → Nat → Int) (o d sp dp n : Nat) : (fun j => Int32.ofInt (cp2 f o sp d dp n d j)) = va_cpy (fun j => Int32.ofInt (f o j)) (fun j => Int32.ofInt (f d j)) sp dp n := by
  funext j
  unfold cp2 va_cpy
  by_cases h : dp ≤ j ∧ j < dp + n
  · rw [if_pos ⟨rfl, h⟩, if_pos h]
  · rw [if_neg (fun q => h q.2), if_neg h]
theorem cpy_L (f : Nat → Nat → Int64) (o d sp dp n : Nat) : (fun j => cp2 f o sp d dp n d j) = va_cpy (fun j => f o j) (fun j => f d j) sp dp n := by
  funext j
  unfold cp2 va_cpy
  by_cases h : dp ≤ j ∧ j < dp + n
  · rw [if_pos ⟨rfl, h⟩, if_pos h]
  · rw [if_neg (fun q => h q.2), if_neg h]
theorem cp2_ne {α : Type} (f : Nat → Nat → α) {o sp d dp n a' k : Nat} (h : a' ≠ d) : cp2 f o sp d dp n a' k = f a' k := by
  unfold cp2
  rw [if_neg (fun q => h q.1)]
theorem ofI_nn {x : Int} (h : 0 ≤ wrap x) : ¬ Int32.ofInt x < 0 ∧ (Int32.ofInt x).toNatClampNeg = (wrap x).toNat := by
  refine ⟨?_, ?_⟩
  · rw [Int32.lt_iff_toInt_lt, toInt_wrap]
    simp only [Int32.toInt_zero]
    omega
  · show (Int32.ofInt x).toInt.toNat = _
    rw [toInt_wrap]
set_option maxHeartbeats 8000000 in
theorem sim_acop (hx : p.tables.exec = Jvm.exec) (hb : c.code = mtC mm) (hml : c.maxLocals = lsA.size) (hown : s.vm.findClass (clsOf mm) = some m.cls) (hts : ∀ w ∈ zT, w.before args s = true) (hK : va_K D classes (tysO cA) s) (hP : va_P D classes (wsO b base cA h) H) (hS : va_S (fun q => base ≤ q) s.heap H locs)
    (hw : tw d = some (.methodLink (clsOf mm) idx arraycopyName)) (hf : 1 ≤ R.frames) (hlo : 8 + (nativeFrameWords "java/lang/System" "arraycopy" 5 + 11) ≤ R.locals) (hd : decode (mtC mm) pc = .ok (.invokestatic idx, 3)) (hk : acop st h = some (st', h')) (hst : st'.length ≤ 4)
    (kk : ∀ (H1 : Heap) (locs1 : List Loc), va_P D classes (wsO b base cA h') H1 → va_S (fun q => base ≤ q) s.heap H1 locs1 → h'.1 = h.1 → W p l e R s m args below meth c H1 locs1 cells slots Q (F0 m (pc + 3) lsA (st'.map (cv b base)))) : W p l e R s m args below meth c H locs cells slots Q (F0 m pc lsA (st.map (cv b base))) := by
  unfold acop at hk
  split at hk
  · next hz n dp dd sp o r =>
    split at hk
    · next n0 n1 h0 h1 =>
      split at hk
      · next hr =>
        cases hk
        obtain ⟨j, rfl, hj, hadr, hat⟩ := arr_get (b := b) (base := base) (cA := cA) (isA_inv h0)
        obtain ⟨j2, rfl, hj2, hadr2, hat2⟩ := arr_get (b := b) (base := base) (cA := cA) (isA_inv h1)
        obtain ⟨r1, r2, r3, r4, r5⟩ := hr
        obtain ⟨z1, z2⟩ := ofI_nn r1
        obtain ⟨z3, z4⟩ := ofI_nn r2
        obtain ⟨z5, z6⟩ := ofI_nn r3
        have hlo2 := cats_le b base st' hst
        refine W.eq (g2 := F0 m pc lsA (.int (Int32.ofInt n) :: .int (Int32.ofInt dp) :: .ref (base + j2) :: .int (Int32.ofInt sp) :: .ref (base + j) :: st'.map (cv b base))) (by rw [← hadr, ← hadr2]; rfl) ?_
        refine va_copyi hx hb hml hown (hts _ (tw_in hw rfl)) (hts _ w_cpN) (hts _ w_cpS) (hts _ w_cpI) hK hP wsO_D hS j j2 0 0 hat hat2 (tys_at cA (by decide)) (tys_at cA (by decide)) rfl z1 z3 z5 (by rw [z2, z6]; omega) (by rw [z4, z6]; omega) (fun i _ => rfl) hf (by omega) hd (fun H1 locs1 hP1 _ hS1 => kk H1 locs1 ?_ hS1 rfl)
        rw [z2, z4, z6, ← cpy_I h.2.1] at hP1
        have e : (wsO b base cA h).set j2 (base + j2, .inl (cA 0, n1, .inl (fun i => Int32.ofInt (cp2 h.2.1 (j + 1) (wrap sp).toNat (j2 + 1) (wrap dp).toNat (wrap n).toNat (j2 + 1) i)))) = wsO b base cA (h.1, cp2 h.2.1 (j + 1) (wrap sp).toNat (j2 + 1) (wrap dp).toNat (wrap n).toNat, h.2.2) := wsO_set rfl hj2 rfl (fun o k q => cp2_ne _ q) (fun o k q => rfl) (fun o k q => rfl)
        rw [← e]
        exact hP1
      · cases hk
    · split at hk
      · next n0 n1 h0 h1 =>
        split at hk
        · next hr =>
          cases hk
          obtain ⟨j, rfl, hj, hadr, hat⟩ := arr_get (b := b) (base := base) (cA := cA) (isA_inv h0)
          obtain ⟨j2, rfl, hj2, hadr2, hat2⟩ := arr_get (b := b) (base := base) (cA := cA) (isA_inv h1)
          obtain ⟨r1, r2, r3, r4, r5⟩ := hr
          obtain ⟨z1, z2⟩ := ofI_nn r1
          obtain ⟨z3, z4⟩ := ofI_nn r2
          obtain ⟨z5, z6⟩ := ofI_nn r3
          have hlo2 := cats_le b base st' hst
          refine W.eq (g2 := F0 m pc lsA (.int (Int32.ofInt n) :: .int (Int32.ofInt dp) :: .ref (base + j2) :: .int (Int32.ofInt sp) :: .ref (base + j) :: st'.map (cv b base))) (by rw [← hadr, ← hadr2]; rfl) ?_
          refine va_copyl hx hb hml hown (hts _ (tw_in hw rfl)) (hts _ w_cpN) (hts _ w_cpS) (hts _ w_cpI) hK hP wsO_D hS j j2 1 1 hat hat2 (tys_at cA (by decide)) (tys_at cA (by decide)) rfl z1 z3 z5 (by rw [z2, z6]; omega) (by rw [z4, z6]; omega) (fun i _ => rfl) hf (by omega) hd (fun H1 locs1 hP1 _ hS1 => kk H1 locs1 ?_ hS1 rfl)
          rw [z2, z4, z6, ← cpy_L h.2.2.1] at hP1
          have e : (wsO b base cA h).set j2 (base + j2, .inl (cA 1, n1, .inr (.inl (fun i => cp2 h.2.2.1 (j + 1) (wrap sp).toNat (j2 + 1) (wrap dp).toNat (wrap n).toNat (j2 + 1) i)))) = wsO b base cA (h.1, h.2.1, cp2 h.2.2.1 (j + 1) (wrap sp).toNat (j2 + 1) (wrap dp).toNat (wrap n).toNat, h.2.2.2) := wsO_set rfl hj2 rfl (fun o k q => rfl) (fun o k q => cp2_ne _ q) (fun o k q => rfl)
          rw [← e]
          exact hP1
        · cases hk
      · cases hk
  · cases hk
theorem sim_sop (hx : p.tables.exec = Jvm.exec) (hb : c.code = mtC mm) (hP : va_P D classes (wsO b base cA h) H) (hS : va_S (fun q => base ≤ q) s.heap H locs) {L : Nat} {xs : Nat → Int32} (hX : va_X b L xs s s.heap) (hbl : b < base) (hbs : b < s.heap.size) (hE : E.1 = L) (hE2 : ∀ i, i < L → E.2 i = (xs i).toInt)
    (hd : decode (mtC mm) pc = .ok (ins, len)) (hok : okA mm (pc, ins, len, a, k, cc, d) = true) (hk : sop E ins st h = some (st', h'))
    (kk : va_P D classes (wsO b base cA h') H → h'.1 = h.1 → W p l e R s m args below meth c H locs cells slots Q (F0 m (pc + len) lsA (st'.map (cv b base)))) : W p l e R s m args below meth c H locs cells slots Q (F0 m pc lsA (st.map (cv b base))) := by
  cases ins <;> try (exfalso; simp only [sop, reduceCtorEq] at hk; done)
  case iaload =>
    have h1 : len = 1 := Nat.eq_of_beq_eq_true hok
    subst h1
    simp only [sop] at hk
    split at hk
    · next i r =>
      split at hk
      · next hr =>
        cases hk
        rw [hE] at hr
        obtain ⟨z1, z2⟩ := zin_of hr
        refine va_sld hx hb hX hbs (show ¬ base ≤ b by omega) hS z1 hd ?_
        have kk := kk hP rfl
        rw [z2, ← ofI_wrap (xs _), ← hE2 _ (by omega)]
        exact kk
      · cases hk
    · cases hk
  case arraylength =>
    have h1 : len = 1 := Nat.eq_of_beq_eq_true hok
    subst h1
    simp only [sop] at hk
    split at hk
    · next r =>
      cases hk
      refine va_slen hx hb hX hbs (show ¬ base ≤ b by omega) hS hd ?_
      have kk := kk hP rfl
      rw [hE] at kk
      exact kk
    · cases hk
end NAT

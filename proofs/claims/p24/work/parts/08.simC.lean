/-! arrays -/
section ARR
variable {p : Program} {l : Launch} {e : Env} {R : Room} {s : State} {m : MethodId} {args : Array Value} {below : List Frame} {meth : Method} {c : Code} {H : Heap} {locs : List Loc} {cells slots : Nat} {Q : State → Prop}
variable {D : va_G} {cA : Nat → ClassId} {mm b base a k cc d len pc : Nat} {lsA : Array Slot} {st st' : List zV} {h h' : zH} {ins : Instr}
theorem arr_get {o t n : Nat} (ho : shp h o = some (.inr (t, n))) : ∃ i, o = i + 1 ∧ h.1[i]? = some (.inr (t, n)) ∧ adr b base o = base + i ∧ (wsO b base cA h)[i]? = some (base + i, .inl (cA t, n, arrC b base h o t)) := wsO_at (b := b) (base := base) (cA := cA) ho
theorem arr_setI {i t n k : Nat} {x : Int} (hi : h.1[i]? = some (.inr (t, n))) (ht : t = 0 ∨ t = 2 ∨ t = 3) : (wsO b base cA h).set i (base + i, .inl (cA t, n, .inl (upd (fun j => Int32.ofInt (h.2.1 (i + 1) j)) k (Int32.ofInt x)))) = wsO b base cA (sI h (i + 1) k x) := by
  refine wsO_set rfl hi ?_ (fun o j q => up2_ne _ _ (fun z => q z.1)) (fun o j q => rfl) (fun o j q => rfl)
  simp only [ceO]
  have e : arrC b base (sI h (i + 1) k x) (i + 1) t = .inl (fun j => Int32.ofInt (up2 h.2.1 (i + 1) k x (i + 1) j)) := by
    rcases ht with rfl | rfl | rfl <;> rfl
  rw [e, up2_arr]
theorem arr_I {i t : Nat} (ht : t = 0 ∨ t = 2 ∨ t = 3) : arrC b base h i t = .inl (fun j => Int32.ofInt (h.2.1 i j)) := by
  rcases ht with rfl | rfl | rfl <;> rfl
theorem arr_setL {i n k : Nat} {x : Int64} (hi : h.1[i]? = some (.inr (1, n))) : (wsO b base cA h).set i (base + i, .inl (cA 1, n, .inr (.inl (vp_updL (fun j => h.2.2.1 (i + 1) j) k x)))) = wsO b base cA (sL h (i + 1) k x) := by
  refine wsO_set rfl hi ?_ (fun o j q => rfl) (fun o j q => up2_ne _ _ (fun z => q z.1)) (fun o j q => rfl)
  simp only [ceO, arrC]
  congr 5
  funext j
  unfold vp_updL
  simp only [sL, up2]
  by_cases hj : j = k <;> simp [hj]
theorem arr_setR {i n k x : Nat} (hi : h.1[i]? = some (.inr (4, n))) (hbb : rfB h (i + 1) k = true) : (wsO b base cA h).set i (base + i, .inl (cA 4, n, .inr (.inr (.inr (.inr (va_up (fun j => (rfO h (i + 1) j).map (adr b base)) k (some (adr b base x)))))))) = wsO b base cA (sR h (i + 1) k (some x)) := by
  refine wsO_set rfl hi ?_ (fun o j q => rfl) (fun o j q => rfl) (fun o j q => by rw [rfO_sR hbb, if_neg (fun z => q z.1)])
  simp only [ceO, arrC]
  congr 8
  funext j
  unfold va_up
  rw [rfO_sR hbb]
  by_cases hj : j = k <;> simp [hj]
set_option maxHeartbeats 8000000 in
theorem sim_hop (hx : p.tables.exec = Jvm.exec) (hb : c.code = mtC mm) (hown : s.vm.findClass (clsOf mm) = some m.cls) (hin : (mtY mm).name = "<init>" → meth.name = "<init>") (hts : ∀ w ∈ zT, w.before args s = true) (hK : va_K D classes (tysO cA) s) (hP : va_P D classes (wsO b base cA h) H) (hS : va_S (fun q => base ≤ q) s.heap H locs)
    (hd : decode (mtC mm) pc = .ok (ins, len)) (hok : okA mm (pc, ins, len, a, k, cc, d) = true) (hk : hop ins a k st h = some (st', h'))
    (kk : ∀ (H1 : Heap) (locs1 : List Loc), va_P D classes (wsO b base cA h') H1 → va_S (fun q => base ≤ q) s.heap H1 locs1 → h'.1 = h.1 → W p l e R s m args below meth c H1 locs1 cells slots Q (F0 m (pc + len) lsA (st'.map (cv b base)))) : W p l e R s m args below meth c H locs cells slots Q (F0 m pc lsA (st.map (cv b base))) := by
  cases ins <;> try (exfalso; simp only [hop, reduceCtorEq] at hk; done)
  case getfield idx =>
    simp only [okA, Bool.and_eq_true, decide_eq_true_eq] at hok
    obtain ⟨⟨⟨h1, h2⟩, h3⟩, h4⟩ := hok
    have h1 := Nat.eq_of_beq_eq_true h1
    subst h1
    simp only [hop] at hk
    split at hk
    · next o r =>
      cases ho : isO (shp h o) a with
      | false => rw [ho] at hk; cases hk
      | true =>
        rw [ho] at hk; cases hk
        exact sim_get hx hb hown hts hK hP (isO_inv ho) h2 h3 h4 hd (kk H locs hP hS rfl)
    · cases hk
  case putfield idx =>
    simp only [okA, Bool.and_eq_true, decide_eq_true_eq] at hok
    obtain ⟨⟨⟨⟨⟨h1, h2⟩, h3⟩, h4⟩, h5⟩, h6⟩ := hok
    have h1 := Nat.eq_of_beq_eq_true h1
    subst h1
    simp only [hop] at hk
    split at hk
    · next v o r =>
      cases ho : isO (shp h o) a with
      | false => rw [ho] at hk; cases hk
      | true =>
        rw [ho] at hk
        dsimp only [cond] at hk
        split at hk
        · next h2' hp =>
          cases hk
          exact sim_put hx hb hown hin hts hK hP hS (isO_inv ho) hp h2 h3 h5 (by simpa using h6) hd kk
        · cases hk
    · cases hk
  case iaload =>
    have h1 : len = 1 := Nat.eq_of_beq_eq_true hok
    subst h1
    simp only [hop] at hk
    split at hk
    · next i o r =>
      split at hk
      · next n hn =>
        split at hk
        · next hr =>
          cases hk
          obtain ⟨j, rfl, hj, hadr, hat⟩ := arr_get (b := b) (base := base) (cA := cA) (isA_inv hn)
          obtain ⟨z1, z2⟩ := zin_of hr
          refine W.eq (g2 := F0 m pc lsA (.int (Int32.ofInt i) :: .ref (base + j) :: r.map (cv b base))) (by rw [← hadr]; rfl) ?_
          refine va_iald hx hb hK hP j 0 hat (tys_at cA (by decide)) z1 hd ?_
          rw [z2]
          exact kk H locs hP hS rfl
        · cases hk
      · cases hk
    · cases hk
  case baload =>
    have h1 : len = 1 := Nat.eq_of_beq_eq_true hok
    subst h1
    simp only [hop] at hk
    split at hk
    · next i o r =>
      split at hk
      · next n hn =>
        split at hk
        · next hr =>
          cases hk
          obtain ⟨j, rfl, hj, hadr, hat⟩ := arr_get (b := b) (base := base) (cA := cA) (isA_inv hn)
          obtain ⟨z1, z2⟩ := zin_of hr
          refine W.eq (g2 := F0 m pc lsA (.int (Int32.ofInt i) :: .ref (base + j) :: r.map (cv b base))) (by rw [← hadr]; rfl) ?_
          refine va_zald hx hb hK hP j 2 hat (tys_at cA (by decide)) z1 hd ?_
          rw [z2]
          exact kk H locs hP hS rfl
        · cases hk
      · cases hk
    · cases hk
  case laload =>
    have h1 : len = 1 := Nat.eq_of_beq_eq_true hok
    subst h1
    simp only [hop] at hk
    split at hk
    · next i o r =>
      split at hk
      · next n hn =>
        split at hk
        · next hr =>
          cases hk
          obtain ⟨j, rfl, hj, hadr, hat⟩ := arr_get (b := b) (base := base) (cA := cA) (isA_inv hn)
          obtain ⟨z1, z2⟩ := zin_of hr
          refine W.eq (g2 := F0 m pc lsA (.int (Int32.ofInt i) :: .ref (base + j) :: r.map (cv b base))) (by rw [← hadr]; rfl) ?_
          refine va_lald hx hb hK hP j 1 hat (tys_at cA (by decide)) z1 hd ?_
          rw [z2]
          exact kk H locs hP hS rfl
        · cases hk
      · cases hk
    · cases hk
  case aaload =>
    have h1 : len = 1 := Nat.eq_of_beq_eq_true hok
    subst h1
    simp only [hop] at hk
    split at hk
    · next i o r =>
      split at hk
      · next n hn =>
        split at hk
        · next hr =>
          cases hk
          obtain ⟨j, rfl, hj, hadr, hat⟩ := arr_get (b := b) (base := base) (cA := cA) (isA_inv hn)
          obtain ⟨z1, z2⟩ := zin_of hr
          refine W.eq (g2 := F0 m pc lsA (.int (Int32.ofInt i) :: .ref (base + j) :: r.map (cv b base))) (by rw [← hadr]; rfl) ?_
          refine va_aldq hx hb hK hP j 4 hat (tys_at cA (by decide)) z1 hd ?_
          rw [z2]
          exact kk H locs hP hS rfl
        · cases hk
      · cases hk
    · cases hk
  case iastore =>
    have h1 : len = 1 := Nat.eq_of_beq_eq_true hok
    subst h1
    simp only [hop] at hk
    split at hk
    · next x i o r =>
      split at hk
      · next n hn =>
        split at hk
        · next hr =>
          cases hk
          obtain ⟨j, rfl, hj, hadr, hat⟩ := arr_get (b := b) (base := base) (cA := cA) (isA_inv hn)
          obtain ⟨z1, z2⟩ := zin_of hr
          refine W.eq (g2 := F0 m pc lsA (.int (Int32.ofInt x) :: .int (Int32.ofInt i) :: .ref (base + j) :: st'.map (cv b base))) (by rw [← hadr]; rfl) ?_
          refine va_iast hx hb hK hP wsO_D hS j 0 hat (tys_at cA (by decide)) z1 hd (fun H1 locs1 hP1 _ hS1 => kk H1 locs1 ?_ hS1 rfl)
          rw [z2] at hP1
          rw [← arr_setI hj (Or.inl rfl)]
          exact hP1
        · cases hk
      · cases hk
    · cases hk
  case bastore =>
    have h1 : len = 1 := Nat.eq_of_beq_eq_true hok
    subst h1
    simp only [hop] at hk
    split at hk
    · next x i o r =>
      split at hk
      · next n hn =>
        split at hk
        · next hr =>
          cases hk
          obtain ⟨j, rfl, hj, hadr, hat⟩ := arr_get (b := b) (base := base) (cA := cA) (isA_inv hn)
          obtain ⟨z1, z2⟩ := zin_of hr
          refine W.eq (g2 := F0 m pc lsA (.int (Int32.ofInt x) :: .int (Int32.ofInt i) :: .ref (base + j) :: st'.map (cv b base))) (by rw [← hadr]; rfl) ?_
          refine va_zast hx hb hK hP wsO_D hS j 2 hat (tys_at cA (by decide)) z1 hd (fun H1 locs1 hP1 _ hS1 => kk H1 locs1 ?_ hS1 rfl)
          rw [z2, nar_bool] at hP1
          rw [← arr_setI hj (Or.inr (Or.inl rfl))]
          exact hP1
        · cases hk
      · cases hk
    · cases hk
  case lastore =>
    have h1 : len = 1 := Nat.eq_of_beq_eq_true hok
    subst h1
    simp only [hop] at hk
    split at hk
    · next x i o r =>
      split at hk
      · next n hn =>
        split at hk
        · next hr =>
          cases hk
          obtain ⟨j, rfl, hj, hadr, hat⟩ := arr_get (b := b) (base := base) (cA := cA) (isA_inv hn)
          obtain ⟨z1, z2⟩ := zin_of hr
          refine W.eq (g2 := F0 m pc lsA (.long x :: .int (Int32.ofInt i) :: .ref (base + j) :: st'.map (cv b base))) (by rw [← hadr]; rfl) ?_
          refine va_last hx hb hK hP wsO_D hS j 1 hat (tys_at cA (by decide)) z1 hd (fun H1 locs1 hP1 _ hS1 => kk H1 locs1 ?_ hS1 rfl)
          rw [z2] at hP1
          rw [← arr_setL hj]
          exact hP1
        · cases hk
      · cases hk
    · cases hk
  case aastore =>
    have h1 : len = 1 := Nat.eq_of_beq_eq_true hok
    subst h1
    simp only [hop] at hk
    split at hk
    · next x i o r =>
      split at hk
      · next n hn =>
        cases hx5 : isO (shp h x) 5 with
        | false => rw [hx5] at hk; cases hk
        | true =>
          rw [hx5] at hk
          dsimp only [cond] at hk
          split at hk
          · next hr =>
            cases hbb : rfB h o (wrap i).toNat with
            | false => rw [hbb] at hk; cases hk
            | true =>
            rw [hbb] at hk
            cases hk
            obtain ⟨j, rfl, hj, hadr, hat⟩ := arr_get (b := b) (base := base) (cA := cA) (isA_inv hn)
            obtain ⟨jx, rfl, hjx, hadrx, hatx⟩ := wsO_at (b := b) (base := base) (cA := cA) (isO_inv hx5)
            obtain ⟨z1, z2⟩ := zin_of hr
            refine W.eq (g2 := F0 m pc lsA (.ref (base + jx) :: .int (Int32.ofInt i) :: .ref (base + j) :: st'.map (cv b base))) (by rw [← hadr, ← hadrx]; rfl) ?_
            refine va_astq (ci := 5) hx hb hK hP wsO_D hS j 4 jx hat (tys_at cA (by decide)) hatx (cls_at 5 (by decide)) z1 hd (fun H1 locs1 hP1 _ hS1 => kk H1 locs1 ?_ hS1 rfl)
            rw [z2] at hP1
            rw [← arr_setR hj hbb]
            exact hP1
          · cases hk
      · cases hk
    · cases hk
  case arraylength =>
    have h1 : len = 1 := Nat.eq_of_beq_eq_true hok
    subst h1
    simp only [hop] at hk
    split at hk
    · next o r =>
      split at hk
      · next n hn =>
        cases hk
        obtain ⟨j, rfl, hj, hadr, hat⟩ := arr_get (b := b) (base := base) (cA := cA) (isA_inv hn)
        refine W.eq (g2 := F0 m pc lsA (.ref (base + j) :: r.map (cv b base))) (by rw [← hadr]; rfl) ?_
        exact va_alen hx hb hK hP j 0 hat (tys_at cA (by decide)) rfl hd (kk H locs hP hS rfl)
      · cases hk
    · cases hk
end ARR

/-! the cells of the small machine as the kit's world -/
theorem getD_set_self {α : Type} (l : List α) {a : Nat} (x d : α) (h : a < l.length) : (l.set a x).getD a d = x := by
  rw [List.getD_eq_getElem?_getD, List.getElem?_set_self h, Option.getD_some]
theorem getD_set_ne {α : Type} (l : List α) {a a' : Nat} (x d : α) (h : a' ≠ a) : (l.set a x).getD a' d = l.getD a' d := by
  rw [List.getD_eq_getElem?_getD, List.getElem?_set_ne (fun q => h q.symm), ← List.getD_eq_getElem?_getD]
theorem rfO_sR {h : zH} {a k : Nat} {v : Option Nat} (hb : rfB h a k = true) (a' k' : Nat) : rfO (sR h a k v) a' k' = if a' = a ∧ k' = k then v else rfO h a' k' := by
  have hk : k < (h.2.2.2.getD a []).length := Nat.ble_eq.mp hb
  have ha : a < h.2.2.2.length := by
    rcases Nat.lt_or_ge a h.2.2.2.length with q | q
    · exact q
    · rw [List.getD_eq_getElem?_getD, List.getElem?_eq_none q] at hk
      exact absurd hk (by simp)
  unfold rfO rfR sR
  dsimp only
  by_cases e : a' = a
  · subst e
    rw [getD_set_self _ _ _ ha]
    by_cases e2 : k' = k
    · subst e2
      rw [getD_set_self _ _ _ hk, if_pos ⟨rfl, rfl⟩]
    · rw [getD_set_ne _ _ _ e2, if_neg (fun q => e2 q.2)]
  · rw [getD_set_ne _ _ _ e, if_neg (fun q => e q.1)]
theorem rfO_out {h : zH} {a : Nat} (ha : h.2.2.2.length ≤ a) (k : Nat) : rfO h a k = none := by
  unfold rfO rfR
  rw [List.getD_eq_getElem?_getD (l := h.2.2.2), List.getElem?_eq_none ha]
  simp
theorem rfO_nu {h : zH} {s : zSh} (a k : Nat) : rfO (nuH h s) a k = rfO h a k := by
  rcases Nat.lt_or_ge a h.2.2.2.length with q | q
  · unfold rfO rfR nuH
    dsimp only
    rw [List.getD_eq_getElem?_getD (l := h.2.2.2 ++ _), List.getElem?_append_left q, ← List.getD_eq_getElem?_getD]
  · rw [rfO_out q]
    unfold rfO rfR nuH
    dsimp only
    rw [List.getD_eq_getElem?_getD (l := h.2.2.2 ++ _), List.getElem?_append_right q]
    generalize a - h.2.2.2.length = z
    match z with
    | 0 =>
      simp only [List.getElem?_cons_zero, Option.getD_some, List.getD_eq_getElem?_getD, List.getElem?_replicate]
      split <;> rfl
    | z + 1 => simp
def arrC (b base : Nat) (h : zH) (i : Nat) : Nat → ((Nat → Int32) ⊕ (Nat → Int64) ⊕ (Nat → UInt32) ⊕ (Nat → UInt64) ⊕ (Nat → Option Nat))
  | 1 => .inr (.inl (fun k => h.2.2.1 i k))
  | 4 => .inr (.inr (.inr (.inr (fun k => (rfO h i k).map (adr b base)))))
  | _ => .inl (fun k => Int32.ofInt (h.2.1 i k))
def ceO (b base : Nat) (cA : Nat → ClassId) (h : zH) (i : Nat) : zSh → va_E
  | .inl ci => .inr (ci, (List.range (fnum ci)).map (fun k => cv b base (gfv h i k (fkdOf ci k))))
  | .inr q => .inl (cA q.1, q.2, arrC b base h i q.1)
def wsO (b base : Nat) (cA : Nat → ClassId) (h : zH) : va_W := h.1.mapIdx (fun i s => (base + i, ceO b base cA h (i + 1) s))
def tysO (cA : Nat → ClassId) : List (ClassId × FieldType) := [(cA 0, tyOf 0), (cA 1, tyOf 1), (cA 2, tyOf 2), (cA 3, tyOf 3), (cA 4, tyOf 4)]
theorem tys_at (cA : Nat → ClassId) {t : Nat} (ht : t < 5) : (tysO cA)[t]? = some (cA t, tyOf t) := by
  match t, ht with
  | 0, _ => rfl
  | 1, _ => rfl
  | 2, _ => rfl
  | 3, _ => rfl
  | 4, _ => rfl
  | t + 5, h => exact absurd h (by omega)
theorem wsO_get (b base : Nat) (cA : Nat → ClassId) (h : zH) (i : Nat) : (wsO b base cA h)[i]? = (h.1[i]?).map (fun s => (base + i, ceO b base cA h (i + 1) s)) := by
  unfold wsO
  rw [List.getElem?_mapIdx]
theorem wsO_at {b base : Nat} {cA : Nat → ClassId} {h : zH} {o : Nat} {sh : zSh} (hs : shp h o = some sh) : ∃ i, o = i + 1 ∧ h.1[i]? = some sh ∧ adr b base o = base + i ∧ (wsO b base cA h)[i]? = some (base + i, ceO b base cA h o sh) := by
  match o, hs with
  | i + 1, hs => exact ⟨i, rfl, hs, rfl, by rw [wsO_get, show h.1[i]? = some sh from hs]; rfl⟩
theorem wsO_D {b base : Nat} {cA : Nat → ClassId} {h : zH} : va_D (fun q => base ≤ q) (wsO b base cA h) := by
  have key : ∀ (k : Nat) (q : Nat × va_E), (wsO b base cA h)[k]? = some q → q.1 = base + k := by
    intro k q hq
    rw [wsO_get] at hq
    cases hk : h.1[k]? with
    | none => rw [hk] at hq; cases hq
    | some s => rw [hk] at hq; cases hq; rfl
  refine ⟨fun i j p q hi hj hpq => ?_, fun k q hk => ?_⟩
  · have h1 := key i p hi
    have h2 := key j q hj
    omega
  · have h1 := key k q hk
    show base ≤ q.1
    omega
theorem gfv_ne {h h' : zH} {o : Nat} (hI : ∀ k, h'.2.1 o k = h.2.1 o k) (hL : ∀ k, h'.2.2.1 o k = h.2.2.1 o k) (hR : ∀ k, rfO h' o k = rfO h o k) (k t : Nat) : gfv h' o k t = gfv h o k t := by
  match t with
  | 0 => simp [gfv, hI]
  | 1 => simp [gfv, hL]
  | 2 => simp [gfv, hR]
  | t + 3 => simp [gfv, hI]
theorem ceO_ne {b base : Nat} {cA : Nat → ClassId} {h h' : zH} {o : Nat} (hI : ∀ k, h'.2.1 o k = h.2.1 o k) (hL : ∀ k, h'.2.2.1 o k = h.2.2.1 o k) (hR : ∀ k, rfO h' o k = rfO h o k) (s : zSh) : ceO b base cA h' o s = ceO b base cA h o s := by
  match s with
  | .inl ci => simp only [ceO, gfv_ne hI hL hR]
  | .inr q =>
    simp only [ceO]
    congr 3
    unfold arrC
    split
    · simp only [hL]
    · simp only [hR]
    · simp only [hI]
theorem wsO_set {b base : Nat} {cA : Nat → ClassId} {h h' : zH} {i : Nat} {sh : zSh} {e : va_E} (h1 : h'.1 = h.1) (hs : h.1[i]? = some sh) (he : ceO b base cA h' (i + 1) sh = e)
    (hI : ∀ o k, o ≠ i + 1 → h'.2.1 o k = h.2.1 o k) (hL : ∀ o k, o ≠ i + 1 → h'.2.2.1 o k = h.2.2.1 o k) (hR : ∀ o k, o ≠ i + 1 → rfO h' o k = rfO h o k) : (wsO b base cA h).set i (base + i, e) = wsO b base cA h' := by
  apply List.ext_getElem?
  intro j
  rw [wsO_get, h1]
  by_cases hj : i = j
  · subst hj
    have hl : i < (wsO b base cA h).length := by
      have h3 : (wsO b base cA h)[i]? = some (base + i, ceO b base cA h (i + 1) sh) := by rw [wsO_get, hs]; rfl
      exact (List.getElem?_eq_some_iff.mp h3).1
    rw [List.getElem?_set_self hl, hs, Option.map_some, he]
  · rw [List.getElem?_set_ne hj, wsO_get]
    congr 1
    funext s
    rw [ceO_ne (fun k => hI _ k (by omega)) (fun k => hL _ k (by omega)) (fun k => hR _ k (by omega))]
theorem fs_at {b base : Nat} {h : zH} {o ci k : Nat} (hk : k < fnum ci) : ((List.range (fnum ci)).map (fun k => cv b base (gfv h o k (fkdOf ci k))))[k]? = some (cv b base (gfv h o k (fkdOf ci k))) := by
  rw [List.getElem?_map, List.getElem?_range hk]
  rfl
theorem fs_set {b base : Nat} {h h' : zH} {o ci k : Nat} {v : Value} (hk : k < fnum ci) (hv : cv b base (gfv h' o k (fkdOf ci k)) = v) (hn : ∀ j, j ≠ k → gfv h' o j (fkdOf ci j) = gfv h o j (fkdOf ci j)) :
    (List.range (fnum ci)).map (fun k => cv b base (gfv h' o k (fkdOf ci k))) = ((List.range (fnum ci)).map (fun k => cv b base (gfv h o k (fkdOf ci k)))).set k v := by
  apply List.ext_getElem?
  intro j
  by_cases hj : k = j
  · subst hj
    rw [List.getElem?_set_self (by simp; exact hk), fs_at hk, hv]
  · rw [List.getElem?_set_ne hj]
    rcases Nat.lt_or_ge j (fnum ci) with hl | hl
    · rw [fs_at hl, fs_at hl, hn j (fun q => hj q.symm)]
    · rw [List.getElem?_eq_none (by simp; exact hl), List.getElem?_eq_none (by simp; exact hl)]
theorem zin_of {i : Int} {n : Nat} (h : 0 ≤ wrap i ∧ wrap i < (n : Int)) : vp_in (Int32.ofInt i) n ∧ (Int32.ofInt i).toNatClampNeg = (wrap i).toNat := by
  have e : (Int32.ofInt i).toNatClampNeg = (wrap i).toNat := by
    show (Int32.ofInt i).toInt.toNat = _
    rw [toInt_wrap]
  refine ⟨?_, e⟩
  unfold vp_in
  rw [e, Int32.lt_iff_toInt_lt, toInt_wrap]
  simp only [Int32.toInt_zero]
  omega
theorem isO_inv {s : Option zSh} {c : Nat} (h : isO s c = true) : s = some (.inl c) := by
  unfold isO at h
  split at h
  · rw [Nat.eq_of_beq_eq_true h]
  · cases h
theorem isA_inv {s : Option zSh} {t n : Nat} (h : isA s t = some n) : s = some (.inr (t, n)) := by
  unfold isA at h
  split at h
  · next q =>
    cases hb : Nat.beq q.1 t with
    | true => rw [hb] at h; cases h; rw [← Nat.eq_of_beq_eq_true hb]
    | false => rw [hb] at h; cases h
  · cases h
theorem up2_self {α : Type} (f : Nat → Nat → α) (a k : Nat) (v : α) : up2 f a k v a k = v := by simp [up2]
theorem up2_ne {α : Type} (f : Nat → Nat → α) {a k a' k' : Nat} (v : α) (h : ¬ (a' = a ∧ k' = k)) : up2 f a k v a' k' = f a' k' := by simp [up2, h]
theorem up2_arr {f : Nat → Nat → Int} {a k : Nat} {v : Int} : (fun j => Int32.ofInt (up2 f a k v a j)) = upd (fun j => Int32.ofInt (f a j)) k (Int32.ofInt v) := by
  funext j
  unfold upd up2
  by_cases h : j = k
  · simp [h]
  · simp [h]
theorem nar_bool (x : Int) : vp_nar .boolean (Int32.ofInt x) = Int32.ofInt (x % 2) := by
  show Int32.ofInt x &&& 1 = _
  apply Int32.toBitVec_inj.mp
  show BitVec.ofInt 32 x &&& 1#32 = BitVec.ofInt 32 (x % 2)
  apply BitVec.eq_of_toNat_eq
  rw [BitVec.toNat_and, BitVec.toNat_ofInt, BitVec.toNat_ofInt]
  show (x % 4294967296).toNat &&& 1 = (x % 2 % 4294967296).toNat
  rw [Nat.and_one_is_mod]
  omega
theorem nar_char (x : Int) : vp_nar .char (Int32.ofInt x) = Int32.ofInt (x % 65536) := by
  rw [← i2c_eq]
  rfl
theorem ofI_01 {x : Int} (h : wrap x = 0 ∨ wrap x = 1) : narrow .boolean (.int (Int32.ofInt x)) = .int (Int32.ofInt x) ∧ fits .boolean (.int (Int32.ofInt x)) = true := by
  have h2 : Int32.ofInt x = 0 ∨ Int32.ofInt x = 1 := by
    rcases h with h | h
    · exact Or.inl (Int32.toInt_inj.mp (by rw [toInt_wrap, h]; rfl))
    · exact Or.inr (Int32.toInt_inj.mp (by rw [toInt_wrap, h]; rfl))
  rcases h2 with h | h <;> rw [h] <;> exact ⟨by decide, by decide⟩
section HOP
variable {p : Program} {l : Launch} {e : Env} {R : Room} {s : State} {m : MethodId} {args : Array Value} {below : List Frame} {meth : Method} {c : Code} {H : Heap} {locs : List Loc} {cells slots : Nat} {Q : State → Prop}
variable {D : va_G} {cA : Nat → ClassId} {mm b base a k cc d len pc : Nat} {lsA : Array Slot} {st st' : List zV} {h h' : zH} {ins : Instr}
set_option maxHeartbeats 4000000 in
theorem sim_get (hx : p.tables.exec = Jvm.exec) (hb : c.code = mtC mm) (hown : s.vm.findClass (clsOf mm) = some m.cls) (hts : ∀ w ∈ zT, w.before args s = true) (hK : va_K D classes (tysO cA) s) (hP : va_P D classes (wsO b base cA h) H)
    {o idx : Nat} {rest : List Value} (ho : shp h o = some (.inl a)) (ha : a < 10) (hk : k < fnum a) (hw : tw d = some (cond (Nat.beq cc 0) (.fieldLink (clsOf mm) idx (cnO a) (flO a k).2.1 (flO a k).2.2.1) (.fieldLinkNest (clsOf mm) idx (cnO a) (flO a k).2.1 (flO a k).2.2.1 "EdgeVerses"))) (hd : decode (mtC mm) pc = .ok (.getfield idx, 3))
    (kk : W p l e R s m args below meth c H locs cells slots Q (F0 m (pc + 3) lsA (cv b base (gfv h o k (fkdOf a k)) :: rest))) : W p l e R s m args below meth c H locs cells slots Q (F0 m pc lsA (.ref (adr b base o) :: rest)) := by
  obtain ⟨i, rfl, hi, hadr, hat⟩ := wsO_at (b := b) (base := base) (cA := cA) ho
  rw [hadr]
  have hsame : ∀ x, s.fieldFound? ((flT (fls.getD a [])) k).1 ((flT (fls.getD a [])) k).2.1 ((flT (fls.getD a [])) k).2.2.1 = some x → s.fieldFound? (cnO a) ((flT (fls.getD a [])) k).2.1 ((flT (fls.getD a [])) k).2.2.1 = some x := by
    intro x hx
    have := (fldF ha hk).2.1
    unfold flO at this
    rw [← this]
    exact hx
  cases hc : Nat.beq cc 0 with
  | true =>
    rw [hc] at hw
    exact va_get hx hb hts (fldU ha) hown hK hP i hat (cls_at a ha) k hk (hts _ (tw_in hw rfl)) hsame (fs_at hk) hd kk
  | false =>
    rw [hc] at hw
    exact va_getN hx hb hts (fldU ha) hown hK hP i hat (cls_at a ha) k hk (hts _ (tw_in hw rfl)) hsame (fs_at hk) hd kk
set_option maxHeartbeats 4000000 in
theorem sim_put (hx : p.tables.exec = Jvm.exec) (hb : c.code = mtC mm) (hown : s.vm.findClass (clsOf mm) = some m.cls) (hin : (mtY mm).name = "<init>" → meth.name = "<init>") (hts : ∀ w ∈ zT, w.before args s = true) (hK : va_K D classes (tysO cA) s) (hP : va_P D classes (wsO b base cA h) H) (hS : va_S (fun q => base ≤ q) s.heap H locs)
    {o idx : Nat} {rest : List Value} {v : zV} (ho : shp h o = some (.inl a)) (hp : pfv h o k v (fkdOf a k) = some h') (ha : a < 10) (hk : k < fnum a) (hw : tw d = some (.fieldLink (clsOf mm) idx (cnO a) (flO a k).2.1 (flO a k).2.2.1)) (hfin : (!(flO a k).2.2.2 || (decide (clsOf mm = cnO a) && decide ((mtY mm).name = "<init>"))) = true) (hd : decode (mtC mm) pc = .ok (.putfield idx, 3))
    (kk : ∀ (H1 : Heap) (locs1 : List Loc), va_P D classes (wsO b base cA h') H1 → va_S (fun q => base ≤ q) s.heap H1 locs1 → h'.1 = h.1 → W p l e R s m args below meth c H1 locs1 cells slots Q (F0 m (pc + 3) lsA rest)) : W p l e R s m args below meth c H locs cells slots Q (F0 m pc lsA (cv b base v :: .ref (adr b base o) :: rest)) := by
  obtain ⟨i, rfl, hi, hadr, hat⟩ := wsO_at (b := b) (base := base) (cA := cA) ho
  rw [hadr]
  obtain ⟨f1, f2, f3, f4⟩ := fldF ha hk
  have hsame : ∀ x, s.fieldFound? ((flT (fls.getD a [])) k).1 ((flT (fls.getD a [])) k).2.1 ((flT (fls.getD a [])) k).2.2.1 = some x → s.fieldFound? (cnO a) ((flT (fls.getD a [])) k).2.1 ((flT (fls.getD a [])) k).2.2.1 = some x := by
    intro x hx
    unfold flO at f2
    rw [← f2]
    exact hx
  have facts : h'.1 = h.1 ∧ narrow (tyF a k) (cv b base v) = cv b base v ∧ fits (tyF a k) (cv b base v) = true ∧ (wsO b base cA h).set i (base + i, .inr (a, ((List.range (fnum a)).map (fun k => cv b base (gfv h (i + 1) k (fkdOf a k)))).set k (cv b base v))) = wsO b base cA h' := by
    unfold okT at f3
    generalize hkd : fkdOf a k = kd at hp f3 f4
    have step : ∀ {h' : zH}, h'.1 = h.1 → cv b base (gfv h' (i + 1) k (fkdOf a k)) = cv b base v → (∀ o j, ¬ (o = i + 1 ∧ j = k) → h'.2.1 o j = h.2.1 o j) → (∀ o j, ¬ (o = i + 1 ∧ j = k) → h'.2.2.1 o j = h.2.2.1 o j) → (∀ o j, ¬ (o = i + 1 ∧ j = k) → rfO h' o j = rfO h o j) → (wsO b base cA h).set i (base + i, .inr (a, ((List.range (fnum a)).map (fun k => cv b base (gfv h (i + 1) k (fkdOf a k)))).set k (cv b base v))) = wsO b base cA h' := by
      intro h' e1 e2 e3 e4 e5
      refine wsO_set e1 hi ?_ (fun o j q => e3 o j (fun z => q z.1)) (fun o j q => e4 o j (fun z => q z.1)) (fun o j q => e5 o j (fun z => q z.1))
      simp only [ceO]
      rw [fs_set hk e2]
      intro j hj
      have n1 := e3 (i + 1) j (fun z => hj z.2)
      have n2 := e4 (i + 1) j (fun z => hj z.2)
      have n3 := e5 (i + 1) j (fun z => hj z.2)
      generalize fkdOf a j = t
      match t with
      | 0 => simp [gfv, n1]
      | 1 => simp [gfv, n2]
      | 2 => simp [gfv, n3]
      | t + 3 => simp [gfv, n1]
    match kd, hp, f3, f4 with
    | 0, hp, f3, _ =>
      match v, hp with
      | .inl x, hp =>
        cases hp
        have f3 : tyF a k = .int := of_decide_eq_true f3
        rw [f3]
        refine ⟨rfl, rfl, rfl, step rfl ?_ (fun o j q => up2_ne _ _ q) (fun o j q => rfl) (fun o j q => rfl)⟩
        rw [hkd]
        simp [gfv, sI, up2_self]
    | 1, hp, f3, _ =>
      match v, hp with
      | .inr (.inl x), hp =>
        cases hp
        have f3 : tyF a k = .long := of_decide_eq_true f3
        rw [f3]
        refine ⟨rfl, rfl, rfl, step rfl ?_ (fun o j q => rfl) (fun o j q => up2_ne _ _ q) (fun o j q => rfl)⟩
        rw [hkd]
        simp [gfv, sL, up2_self]
    | 2, hp, f3, _ =>
      match v, hp with
      | .inr (.inr x), hp =>
        have hp : cond (rfB h (i + 1) k) (some (sR h (i + 1) k x)) none = some h' := hp
        cases hbb : rfB h (i + 1) k with
        | false => rw [hbb] at hp; cases hp
        | true =>
        rw [hbb] at hp
        cases hp
        have f3 : refKind (tyF a k) = true := f3
        refine ⟨rfl, ?_, ?_, step rfl ?_ (fun o j q => rfl) (fun o j q => rfl) (fun o j q => by rw [rfO_sR hbb, if_neg q])⟩
        · cases ht : tyF a k <;> first | rfl | (rw [ht] at f3; cases f3)
        · cases ht : tyF a k <;> cases x <;> first | rfl | (rw [ht] at f3; cases f3)
        · rw [hkd]
          show cv b base (vR (rfO (sR h (i + 1) k x) (i + 1) k)) = _
          rw [rfO_sR hbb, if_pos ⟨rfl, rfl⟩]
    | 3, hp, f3, _ =>
      match v, hp with
      | .inl x, hp =>
        simp only [pfv] at hp
        split at hp
        · next h01 =>
          cases hp
          have f3 : tyF a k = .boolean := of_decide_eq_true f3
          rw [f3]
          refine ⟨rfl, (ofI_01 h01).1, (ofI_01 h01).2, step rfl ?_ (fun o j q => up2_ne _ _ q) (fun o j q => rfl) (fun o j q => rfl)⟩
          rw [hkd]
          simp [gfv, sI, up2_self]
        · cases hp
    | t + 4, _, _, f4 => exact absurd f4 (by omega)
  obtain ⟨g1, g2, g3, g4⟩ := facts
  have hlen : k < ((List.range (fnum a)).map (fun k => cv b base (gfv h (i + 1) k (fkdOf a k)))).length := by simp; exact hk
  have hty : ∀ k, k < fnum a → parseFieldDescriptor ((flT (fls.getD a [])) k).2.2.1 = some (tyF a k) := fun k hk => (fldF ha hk).1
  cases hf : (flO a k).2.2.2 with
  | false => exact va_put hx hb hts (fldU ha) (tyF a) hty (fldN ha) hown hK hP wsO_D hS i hat (cls_at a ha) k hk (hts _ (tw_in hw rfl)) hsame hf f1 g2 g3 hlen hd (fun H1 locs1 hP1 _ hS1 => kk H1 locs1 (g4 ▸ hP1) hS1 g1)
  | true =>
    rw [hf] at hfin
    simp only [Bool.not_true, Bool.false_or, Bool.and_eq_true, decide_eq_true_eq] at hfin
    exact va_putF hx hb hts (fldU ha) (tyF a) hty (fldN ha) hown hK hP wsO_D hS i hat (cls_at a ha) k hk (hts _ (tw_in hw rfl)) hsame hf (hin hfin.2) (by unfold flO at f2; rw [f2]; exact hfin.1.symm) f1 g2 g3 hlen hd (fun H1 locs1 hP1 _ hS1 => kk H1 locs1 (g4 ▸ hP1) hS1 g1)
end HOP

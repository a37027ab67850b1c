/-! the small machine's runs are the JVM's -/
theorem lkp_mem : ∀ {l : List Ent} {pc : Nat} {q : Instr × Nat × Nat × Nat × Nat × Nat}, lkp l pc = some q → (pc, q) ∈ l := by
  intro l
  induction l with
  | nil => intro pc q h; cases h
  | cons w l ih =>
    intro pc q h
    rw [lkp] at h
    cases hb : Nat.beq w.1 pc with
    | true =>
      rw [hb] at h
      have := Nat.eq_of_beq_eq_true hb
      cases h
      subst this
      exact List.mem_cons_self
    | false => rw [hb] at h; exact List.mem_cons_of_mem _ (ih h)
theorem pfv_len {h h' : zH} {o k t : Nat} {v : zV} (hp : pfv h o k v t = some h') : h'.1 = h.1 := by
  unfold pfv at hp
  split at hp
  all_goals (repeat' split at hp)
  all_goals (first | (cases hp; rfl) | (cases hp; done) | (cases hbb : rfB h o k <;> rw [hbb] at hp <;> cases hp; rfl))
theorem hop_len {ins : Instr} {a k : Nat} {st st' : List zV} {h h' : zH} (hk : hop ins a k st h = some (st', h')) : h'.1 = h.1 := by
  cases ins <;> try (exfalso; simp only [hop, reduceCtorEq] at hk; done)
  case putfield idx =>
    simp only [hop] at hk
    split at hk
    · next v o r =>
      cases ho : isO (shp h o) a with
      | false => rw [ho] at hk; cases hk
      | true =>
        rw [ho] at hk
        dsimp only [cond] at hk
        split at hk
        · next h2 hp => cases hk; exact pfv_len hp
        · cases hk
    · cases hk
  case getfield idx =>
    simp only [hop] at hk
    split at hk
    · next o r =>
      cases ho : isO (shp h o) a with
      | false => rw [ho] at hk; cases hk
      | true => rw [ho] at hk; cases hk; rfl
    · cases hk
  case aastore =>
    simp only [hop] at hk
    split at hk
    · next x i o r =>
      split at hk
      · next n hn =>
        cases hx5 : isO (shp h x) 5 with
        | false => rw [hx5] at hk; cases hk
        | true =>
          rw [hx5] at hk
          dsimp only [cond] at hk
          split at hk
          · cases hbb : rfB h o (wrap i).toNat <;> rw [hbb] at hk <;> cases hk
            rfl
          · cases hk
      · cases hk
    · cases hk
  all_goals
    simp only [hop] at hk
    (repeat' split at hk)
    all_goals (first | (cases hk; rfl) | cases hk)
theorem sop_len {E : zE} {ins : Instr} {st st' : List zV} {h h' : zH} (hk : sop E ins st h = some (st', h')) : h'.1 = h.1 := by
  cases ins <;> try (exfalso; simp only [sop, reduceCtorEq] at hk; done)
  all_goals
    simp only [sop] at hk
    (repeat' split at hk)
    all_goals (first | (cases hk; rfl) | cases hk)
theorem acop_len {st st' : List zV} {h h' : zH} (hk : acop st h = some (st', h')) : h'.1 = h.1 := by
  unfold acop at hk
  (repeat' split at hk)
  all_goals (first | (cases hk; rfl) | cases hk)
theorem alop_len {m kc ks kc' ks' a : Nat} {ins : Instr} {st st' : List zV} {h h' : zH} (hk : alop m ins a kc ks st h = some (kc', ks', st', h')) : h'.1.length + kc = h.1.length + kc' := by
  cases ins <;> try (exfalso; simp only [alop, reduceCtorEq] at hk; done)
  case new idx =>
    obtain ⟨-, -, rfl, -, -, rfl, -⟩ := newop_inv hk
    show (h.1 ++ _).length + kc = _
    simp
    omega
  case newarray ty =>
    simp only [alop] at hk
    split at hk
    · split at hk
      · obtain ⟨-, -, rfl, -, -, rfl, -⟩ := newop_inv hk
        show (h.1 ++ _).length + kc = _
        simp
        omega
      · cases hk
    · cases hk
  case anewarray idx =>
    simp only [alop] at hk
    split at hk
    · split at hk
      · obtain ⟨-, -, rfl, -, -, rfl, -⟩ := newop_inv hk
        show (h.1 ++ _).length + kc = _
        simp
        omega
      · cases hk
    · cases hk
theorem cop_inv {m m' na fl len kc ks pc : Nat} {ls : zL} {st : List zV} {h : zH} {q : Nat × List zV × zH × (zR → zF)} (hk : cop m m' na fl len kc ks pc ls st h = some q) : q.1 = m' ∧ q.2.2.1 = h ∧ (∀ r, (q.2.2.2 r).1 = kc + (mtR m').2.1 ∧ (q.2.2.2 r).2.2.2.1 = ls ∧ (q.2.2.2 r).2.2.2.2.2 = r.2) ∧ lvN q.2.1 ≤ mtL m' := by
  unfold cop at hk
  cases hr1 : (Nat.ble (kc + (mtR m').2.1) (mtR m).2.1 && Nat.ble (ks + (mtR m').2.2.1) (mtR m).2.2.1) with
  | false => rw [hr1] at hk; cases hk
  | true =>
    rw [hr1] at hk
    dsimp only [cond] at hk
    cases hf : Nat.blt fl 4 with
    | true =>
      rw [hf] at hk
      dsimp only at hk
      cases hr2 : (Nat.ble (na + 1) st.length && Nat.ble (st.drop (na + 1)).length 4 && isRecv h m' (st.drop na) && Nat.ble (lvN (st.take (na + 1)).reverse) (mt_L.getD m' 0)) with
      | false => rw [hr2] at hk; cases hk
      | true =>
        rw [hr2] at hk
        cases hk
        simp only [Bool.and_eq_true] at hr2
        exact ⟨rfl, rfl, fun r => ⟨rfl, rfl, rfl⟩, Nat.ble_eq.mp hr2.2⟩
    | false =>
      rw [hf] at hk
      dsimp only at hk
      cases hr2 : (Nat.ble na st.length && Nat.ble (st.drop na).length 4 && Nat.ble (lvN (st.take na).reverse) (mt_L.getD m' 0)) with
      | false => rw [hr2] at hk; cases hk
      | true =>
        rw [hr2] at hk
        cases hk
        simp only [Bool.and_eq_true] at hr2
        exact ⟨rfl, rfl, fun r => ⟨rfl, rfl, rfl⟩, Nat.ble_eq.mp hr2.2⟩
theorem rop_inv {m kc ks : Nat} {ins : Instr} {st : List zV} {h : zH} {r : zR} (hk : rop m ins kc ks st h = some r) : kc = (mtR m).2.1 ∧ ks = (mtR m).2.2.1 ∧ r.2 = h ∧ ((∃ x, ins = .ireturn ∧ st = [.inl x] ∧ r.1 = some (vI x) ∧ (mtr m = some .boolean → wrap x = 0 ∨ wrap x = 1)) ∨ (∃ x, ins = .lreturn ∧ st = [.inr (.inl x)] ∧ r.1 = some (vL x)) ∨ (ins = .return_ ∧ st = [] ∧ r.1 = none)) := by
  unfold rop at hk
  cases hc : (Nat.beq kc (mtR m).2.1 && Nat.beq ks (mtR m).2.2.1) with
  | false => rw [hc] at hk; cases hk
  | true =>
    rw [hc] at hk
    rw [Bool.and_eq_true] at hc
    refine ⟨Nat.eq_of_beq_eq_true hc.1, Nat.eq_of_beq_eq_true hc.2, ?_⟩
    dsimp only [cond] at hk
    split at hk
    · split at hk
      · next x =>
        split at hk
        · next hbo =>
          split at hk
          · next h01 => cases hk; exact ⟨rfl, Or.inl ⟨x, rfl, rfl, rfl, fun _ => h01⟩⟩
          · cases hk
        · next hbo =>
          cases hk
          refine ⟨rfl, Or.inl ⟨x, rfl, rfl, rfl, fun q => ?_⟩⟩
          have hbo : isBool (mtr m) = false := hbo
          rw [q] at hbo
          cases hbo
      · cases hk
    · split at hk
      · next x => cases hk; exact ⟨rfl, Or.inr (Or.inl ⟨x, rfl, rfl, rfl⟩)⟩
      · cases hk
    · split at hk
      · cases hk; exact ⟨rfl, Or.inr (Or.inr ⟨rfl, rfl, rfl⟩)⟩
      · cases hk
    · cases hk

/-! addWord: the class reads the word -/
def zWX (q : zM) (σ : zW) : Prop := q.1 4 0 = σ.1 ∧ q.1 4 2 = σ.2.1 ∧ q.1 4 3 = σ.2.2.1 ∧ q.1 4 4 = σ.2.2.2.1 ∧ q.1 4 5 = σ.2.2.2.2.1 ∧ q.2 4 1 = pkL σ.2.2.2.2.2 σ.2.1
def zF4 (q q' : zM) : Prop := ∀ a, a ≠ 4 → q'.1 a = q.1 a ∧ q'.2 a = q.2 a
theorem zF4_refl (q : zM) : zF4 q q := fun _ _ => ⟨rfl, rfl⟩
theorem zF4_trans {q q1 q2 : zM} (h1 : zF4 q q1) (h2 : zF4 q1 q2) : zF4 q q2 := fun a ha => ⟨(h2 a ha).1.trans (h1 a ha).1, (h2 a ha).2.trans (h1 a ha).2⟩
section WX
variable {q : zM} {p m y s t c : Nat} {g : Nat → Nat}
theorem Wr_takesLetter_eq (hI : wI (p, m, y, s, t, g)) (hX : zWX q (p, m, y, s, t, g)) (hc : c < 65536) (hp : p = 0 ∨ p = 1 ∨ p = 2) : (wLet p m y s t g c = none ∧ Wr_takesLetter q (c : Int) = some (0, q)) ∨ ∃ σ' q', wLet p m y s t g c = some σ' ∧ Wr_takesLetter q (c : Int) = some (1, q') ∧ zWX q' σ' ∧ zF4 q q' := by
  obtain ⟨h1, h2, h3, -⟩ := hI
  dsimp only at h1 h2 h3
  obtain ⟨x1, x2, x3, x4, x5, x6⟩ := hX
  dsimp only at x1 x2 x3 x4 x5 x6
  have pk : q.2 4 1 ||| wlshl (wi2l (c : Int)) ((8 : Int) * (m : Int)) = pkL (upG g m c) (m + 1) := by
    rw [x6]
    show _ = pkL (upG g m c) m ||| wlshl (wi2l (upG g m c m : Int)) ((8 : Int) * (m : Int))
    rw [show upG g m c m = c from if_pos rfl, pkL_cong (f := upG g m c) (g := g) (fun k hk => if_neg (Nat.ne_of_lt hk))]
  unfold Wr_takesLetter wLet
  rw [Ev_isLetter_eq hc, Option.bind_some]
  cases hl : isLt c with
  | false =>
    rw [if_neg (c := false = true) (by simp), if_pos zero_eq, if_neg (fun g => by cases g.1)]
    exact Or.inl ⟨rfl, rfl⟩
  | true =>
    rw [if_pos rfl, if_neg one_ne, x2, wrap_n (n := m) (by omega)]
    by_cases c8 : m < 8
    · rw [if_pos (c := (m : Int) < 8) (by omega), if_pos (c := true = true ∧ m < 8) ⟨rfl, c8⟩, x1, wrap_n (n := p) (by omega)]
      refine Or.inr ⟨(2, m + 1, (if p = 2 then y else y + 1), s, t, upG g m c), ?_⟩
      by_cases c2 : p = 2
      · rw [if_pos c2, if_pos (c := (p : Int) = 2) (by omega)]
        unfold Ev_packed Wr_takesLetter_b58
        rw [Option.bind_some, pk]
        have e2 : (ql q 4 1 (pkL (upG g m c) (m + 1))).1 4 2 = m := x2
        refine ⟨_, rfl, rfl, ⟨?_, ?_, ?_, ?_, ?_, ?_⟩, fun a ha => ⟨funext fun k => by rw [qs_at, if_neg (by omega)]; rfl, funext fun k => by rw [qs_at2, ql_at2, if_neg (by omega)]⟩⟩
        · rw [qs_at, if_neg (by omega)]
          show q.1 4 0 = ((2 : Nat) : Int)
          rw [x1, c2]
        · rw [qs_at, if_pos ⟨rfl, rfl⟩, e2]
          show (m : Int) + 1 = ((m + 1 : Nat) : Int)
          omega
        · rw [qs_at, if_neg (by omega)]; exact x3
        · rw [qs_at, if_neg (by omega)]; exact x4
        · rw [qs_at, if_neg (by omega)]; exact x5
        · rw [qs_at2, ql_at2, if_pos ⟨rfl, rfl⟩]
      · rw [if_neg c2, if_neg (c := (p : Int) = 2) (by omega)]
        unfold Wr_takesLetter_b36 Wr_takesLetter_b41 Ev_packed Wr_takesLetter_b58
        have e2 : (qs (qs q 4 3 (q.1 4 3 + 1)) 4 0 2).1 4 2 = m := by rw [qs_at, if_neg (by omega), qs_at, if_neg (by omega)]; exact x2
        have e1 : (qs (qs q 4 3 (q.1 4 3 + 1)) 4 0 2).2 4 1 = q.2 4 1 := rfl
        rw [Option.bind_some, e2, e1, pk]
        have e3 : (ql (qs (qs q 4 3 (q.1 4 3 + 1)) 4 0 2) 4 1 (pkL (upG g m c) (m + 1))).1 4 2 = m := e2
        refine ⟨_, rfl, rfl, ⟨?_, ?_, ?_, ?_, ?_, ?_⟩, fun a ha => ⟨funext fun k => by rw [qs_at, if_neg (by omega), ql_at1, qs_at, if_neg (by omega), qs_at, if_neg (by omega)], funext fun k => by rw [qs_at2, ql_at2, if_neg (by omega), qs_at2, qs_at2]⟩⟩
        · rw [qs_at, if_neg (by omega), ql_at1, qs_at, if_pos ⟨rfl, rfl⟩]; rfl
        · rw [qs_at, if_pos ⟨rfl, rfl⟩, e3]
          show (m : Int) + 1 = ((m + 1 : Nat) : Int)
          omega
        · rw [qs_at, if_neg (by omega), ql_at1, qs_at, if_neg (by omega), qs_at, if_pos ⟨rfl, rfl⟩, x3]
          show (y : Int) + 1 = ((y + 1 : Nat) : Int)
          omega
        · rw [qs_at, if_neg (by omega), ql_at1, qs_at, if_neg (by omega), qs_at, if_neg (by omega)]; exact x4
        · rw [qs_at, if_neg (by omega), ql_at1, qs_at, if_neg (by omega), qs_at, if_neg (by omega)]; exact x5
        · rw [qs_at2, ql_at2, if_pos ⟨rfl, rfl⟩]
    · rw [if_neg (c := (m : Int) < 8) (by omega), if_neg (c := true = true ∧ m < 8) (fun g => c8 g.2)]
      exact Or.inl ⟨rfl, rfl⟩
theorem Wr_takes_eq (hI : wI (p, m, y, s, t, g)) (hX : zWX q (p, m, y, s, t, g)) (hc : c < 65536) : (wst p m y s t g c = none ∧ Wr_takes q (c : Int) = some (0, q)) ∨ ∃ σ' q', wst p m y s t g c = some σ' ∧ Wr_takes q (c : Int) = some (1, q') ∧ zWX q' σ' ∧ zF4 q q' := by
  have tl := Wr_takesLetter_eq hI hX hc
  obtain ⟨h1, h2, h3, h4, h5, h6, -⟩ := hI
  dsimp only at h1 h2 h3 h4 h5 h6
  obtain ⟨x1, x2, x3, x4, x5, x6⟩ := hX
  dsimp only at x1 x2 x3 x4 x5 x6
  unfold Wr_takes wst
  rw [x1, wrap_n (n := p) (by omega)]
  by_cases p0 : p = 0
  · subst p0
    rw [if_pos (c := ((0 : Nat) : Int) = 0) rfl, if_pos rfl]
    unfold Wr_takesStress
    rw [wrap_n (n := c) (by omega)]
    by_cases c1 : c = 39
    · rw [if_pos (c := (c : Int) = 39) (by omega), if_pos c1]
      unfold Wr_takesStress_b23
      obtain ⟨a, b⟩ := h4 rfl
      rw [Option.bind_some, if_neg one_ne, x4, x3, wor_bit b h3]
      refine Or.inr ⟨_, _, rfl, rfl, ⟨?_, ?_, ?_, ?_, ?_, ?_⟩, fun a ha => ⟨funext fun k => by rw [qs_at, if_neg (by omega), qs_at, if_neg (by omega)], rfl⟩⟩
      · rw [qs_at, if_pos ⟨rfl, rfl⟩]; rfl
      · rw [qs_at, if_neg (by omega), qs_at, if_neg (by omega)]; exact x2
      · rw [qs_at, if_neg (by omega), qs_at, if_neg (by omega)]; exact x3
      · rw [qs_at, if_neg (by omega), qs_at, if_pos ⟨rfl, rfl⟩]
      · rw [qs_at, if_neg (by omega), qs_at, if_neg (by omega)]; exact x5
      · exact x6
    · rw [if_neg (c := (c : Int) = 39) (by omega), if_neg c1, Option.bind_some, if_pos zero_eq]
      rcases tl (Or.inl rfl) with ⟨t1, t2⟩ | ⟨σ', q', t1, t2, t3, t4⟩
      · rw [t2, Option.bind_some, if_pos zero_eq]
        exact Or.inl ⟨t1, rfl⟩
      · rw [t2, Option.bind_some, if_neg one_ne]
        exact Or.inr ⟨σ', q', t1, rfl, t3, t4⟩
  rw [if_neg (c := (p : Int) = 0) (by omega), if_neg p0]
  by_cases p1 : p = 1
  · subst p1
    rw [if_pos (c := ((1 : Nat) : Int) = 1) rfl, if_pos rfl]
    rcases tl (Or.inr (Or.inl rfl)) with ⟨t1, t2⟩ | ⟨σ', q', t1, t2, t3, t4⟩
    · rw [t2, Option.bind_some, if_pos (Or.inl zero_eq)]
      exact Or.inl ⟨t1, rfl⟩
    · rw [t2, Option.bind_some, if_pos (Or.inr wl_1)]
      exact Or.inr ⟨σ', q', t1, rfl, t3, t4⟩
  rw [if_neg (c := (p : Int) = 1) (by omega), if_neg p1]
  by_cases p2 : p = 2
  · subst p2
    rw [if_pos (c := ((2 : Nat) : Int) = 2) rfl, if_pos rfl]
    rcases tl (Or.inr (Or.inr rfl)) with ⟨t1, t2⟩ | ⟨σ', q', t1, t2, t3, t4⟩
    · have cl : ¬ (isLt c = true ∧ m < 8) := fun g => by unfold wLet at t1; rw [if_pos g] at t1; cases t1
      rw [t2, Option.bind_some, if_pos zero_eq, if_neg cl]
      unfold Wr_takesHyphen Wr_takesStar
      rw [wrap_n (n := c) (by omega), x3, wrap_n (n := y) (by omega)]
      by_cases c2 : c = 45
      · rw [if_pos (c := (c : Int) = 45) (by omega)]
        by_cases cy : y < 4
        · rw [if_pos (c := (y : Int) < 4) (by omega), Option.bind_some, if_neg one_ne, if_pos ⟨c2, cy⟩]
          refine Or.inr ⟨_, _, rfl, rfl, ⟨?_, ?_, ?_, ?_, ?_, ?_⟩, fun a ha => ⟨funext fun k => by rw [qs_at, if_neg (by omega)], rfl⟩⟩
          · rw [qs_at, if_pos ⟨rfl, rfl⟩]; rfl
          · rw [qs_at, if_neg (by omega)]; exact x2
          · rw [qs_at, if_neg (by omega)]; exact x3
          · rw [qs_at, if_neg (by omega)]; exact x4
          · rw [qs_at, if_neg (by omega)]; exact x5
          · exact x6
        · rw [if_neg (c := (y : Int) < 4) (by omega), Option.bind_some, if_pos zero_eq, if_neg (fun g => cy g.2), if_neg (c := c = 42) (by omega), if_neg (c := (c : Int) = 42) (by omega), Option.bind_some, if_pos zero_eq]
          exact Or.inl ⟨rfl, rfl⟩
      · rw [if_neg (c := (c : Int) = 45) (by omega), Option.bind_some, if_pos zero_eq, if_neg (fun g => c2 g.1)]
        by_cases c3 : c = 42
        · rw [if_pos (c := (c : Int) = 42) (by omega), if_pos c3, Option.bind_some, if_neg one_ne]
          refine Or.inr ⟨_, _, rfl, rfl, ⟨?_, ?_, ?_, ?_, ?_, ?_⟩, fun a ha => ⟨funext fun k => by rw [qs_at, if_neg (by omega)], rfl⟩⟩
          · rw [qs_at, if_pos ⟨rfl, rfl⟩]; rfl
          · rw [qs_at, if_neg (by omega)]; exact x2
          · rw [qs_at, if_neg (by omega)]; exact x3
          · rw [qs_at, if_neg (by omega)]; exact x4
          · rw [qs_at, if_neg (by omega)]; exact x5
          · exact x6
        · rw [if_neg (c := (c : Int) = 42) (by omega), if_neg c3, Option.bind_some, if_pos zero_eq]
          exact Or.inl ⟨rfl, rfl⟩
    · have cl : isLt c = true ∧ m < 8 := by
        unfold wLet at t1
        by_cases g : isLt c = true ∧ m < 8
        · exact g
        · rw [if_neg g] at t1; cases t1
      rw [t2, Option.bind_some, if_neg one_ne, if_pos cl]
      exact Or.inr ⟨σ', q', t1, rfl, t3, t4⟩
  rw [if_neg (c := (p : Int) = 2) (by omega), if_neg p2]
  by_cases p3 : p = 3
  · subst p3
    rw [if_pos (c := ((3 : Nat) : Int) = 3) rfl, if_pos rfl]
    unfold Wr_takesDigit
    rw [wrap_n (n := c) (by omega)]
    by_cases c1 : c < 49
    · rw [if_pos (c := (c : Int) < 49) (by omega), Option.bind_some, if_pos (Or.inl zero_eq), if_neg (by omega)]
      exact Or.inl ⟨rfl, rfl⟩
    · rw [if_neg (c := (c : Int) < 49) (by omega)]
      by_cases c2 : 57 < c
      · rw [if_pos (c := (57 : Int) < (c : Int)) (by omega), Option.bind_some, if_pos (Or.inl zero_eq), if_neg (by omega)]
        exact Or.inl ⟨rfl, rfl⟩
      · rw [if_neg (c := (57 : Int) < (c : Int)) (by omega), if_pos (by omega)]
        unfold Wr_takesDigit_b22
        rw [Option.bind_some, if_pos (Or.inr wl_1)]
        refine Or.inr ⟨_, _, rfl, rfl, ⟨?_, ?_, ?_, ?_, ?_, ?_⟩, fun a ha => ⟨funext fun k => by rw [qs_at, if_neg (by omega), qs_at, if_neg (by omega)], rfl⟩⟩
        · rw [qs_at, if_pos ⟨rfl, rfl⟩]; rfl
        · rw [qs_at, if_neg (by omega), qs_at, if_neg (by omega)]; exact x2
        · rw [qs_at, if_neg (by omega), qs_at, if_neg (by omega)]; exact x3
        · rw [qs_at, if_neg (by omega), qs_at, if_neg (by omega)]; exact x4
        · rw [qs_at, if_neg (by omega), qs_at, if_pos ⟨rfl, rfl⟩]
          show (c : Int) - 48 = ((c - 48 : Nat) : Int)
          omega
        · exact x6
  rw [if_neg (c := (p : Int) = 3) (by omega), if_neg p3]
  exact Or.inl ⟨rfl, rfl⟩
end WX
section WX2
variable {q : zM} {A : zT9} {hs : List zT9} {sn : Nat → Option zT9} {tx : List Nat}
theorem readWord_L32 (hl : tx.length ≤ 40) (hr : ∀ i, tx.getD i 0 < 65536) (K : Int → zM → Option (Int × zM)) : ∀ (d i n : Nat) (q : zM) (σ : zW), i + d = tx.length → d < n → wI σ → zWX q σ → q.1 2 1 = tx.length → (∀ i, i < tx.length → q.1 3 i = tx.getD i 0) → ∃ q', zF4 q q' ∧ ((∃ j : Nat, wrn (fun i => tx.getD i 0) d i σ = .inl j ∧ Wr_readWord_L32 K n (i : Int) q = some ((j : Int), q')) ∨ ∃ σ', wrn (fun i => tx.getD i 0) d i σ = .inr σ' ∧ zWX q' σ' ∧ Wr_readWord_L32 K n (i : Int) q = K (tx.length : Int) q') := by
  intro d
  induction d with
  | zero =>
    intro i n q σ hi hn hI hX ht hc
    obtain ⟨n, rfl⟩ : ∃ m, n = m + 1 := ⟨n - 1, by omega⟩
    refine ⟨q, zF4_refl q, Or.inr ⟨σ, rfl, hX, ?_⟩⟩
    rw [Wr_readWord_L32]
    unfold Te_size
    rw [Option.bind_some, ht, show i = tx.length by omega, if_neg (Int.lt_irrefl _)]
  | succ d ih =>
    intro i n q σ hi hn hI hX ht hc
    obtain ⟨n, rfl⟩ : ∃ m, n = m + 1 := ⟨n - 1, by omega⟩
    obtain ⟨p, m, y, s, t, g⟩ := σ
    have ec := Te_codeAt_eq ht hc hl (i := i) (by omega)
    have e0 : Wr_readWord_L32 K (n + 1) (i : Int) q = (Wr_takes q (tx.getD i 0 : Int)).bind fun r_4 => if wrap r_4.1 = (0 : Int) then some ((i : Int), r_4.2) else Wr_readWord_L32 K n ((i : Int) + 1) r_4.2 := by
      rw [Wr_readWord_L32]
      unfold Te_size
      rw [Option.bind_some, ht]
      clear ht hc
      rw [wrap_n (n := i) (by omega), wrap_n (n := tx.length) (by omega), if_pos (by omega), ec, Option.bind_some]
    rw [e0, wrn]
    dsimp only
    rcases Wr_takes_eq hI hX (hr i) with ⟨t1, t2⟩ | ⟨σ', q', t1, t2, t3, t4⟩
    · rw [t1, t2, Option.bind_some, if_pos zero_eq]
      exact ⟨q, zF4_refl q, Or.inl ⟨i, rfl, rfl⟩⟩
    · rw [t1, t2, Option.bind_some, if_neg one_ne]
      obtain ⟨q2, f2, r2⟩ := ih (i + 1) n q' σ' (by omega) (by omega) (wst_I hI t1) t3 (by rw [(t4 2 (by omega)).1]; exact ht) (fun i hi => by rw [(t4 3 (by omega)).1]; exact hc i hi)
      exact ⟨q2, zF4_trans t4 f2, r2⟩
theorem Wr_readWord_eq (hl : tx.length ≤ 40) (hr : ∀ i, tx.getD i 0 < 65536) (ht : q.1 2 1 = tx.length) (hc : ∀ i, i < tx.length → q.1 3 i = tx.getD i 0) : ∃ q', zF4 q q' ∧ ((∃ j : Nat, wres (fun i => tx.getD i 0) tx.length 0 zW0 = .inl j ∧ Wr_readWord q = some ((j : Int), q')) ∨ ∃ σ', wres (fun i => tx.getD i 0) tx.length 0 zW0 = .inr σ' ∧ zWX q' σ' ∧ Wr_readWord q = some (-1, q')) := by
  unfold Wr_readWord Wr_readWord_b5 Wr_readWord_b10 Wr_readWord_b15 Wr_readWord_b20 Wr_readWord_b25 Wr_readWord_b30
  have f1 : zF4 q (qs (qs (qs (qs (ql (qs q 4 0 0) 4 1 (Int64.ofNat 0)) 4 2 0) 4 3 0) 4 4 0) 4 5 1) := fun a ha => ⟨funext fun k => by rw [qs_at, if_neg (by omega), qs_at, if_neg (by omega), qs_at, if_neg (by omega), qs_at, if_neg (by omega), ql_at1, qs_at, if_neg (by omega)], funext fun k => by rw [qs_at2, qs_at2, qs_at2, qs_at2, ql_at2, if_neg (by omega), qs_at2]⟩
  have x1 : zWX (qs (qs (qs (qs (ql (qs q 4 0 0) 4 1 (Int64.ofNat 0)) 4 2 0) 4 3 0) 4 4 0) 4 5 1) zW0 := ⟨rfl, rfl, rfl, rfl, rfl, rfl⟩
  generalize qs (qs (qs (qs (ql (qs q 4 0 0) 4 1 (Int64.ofNat 0)) 4 2 0) 4 3 0) 4 4 0) 4 5 1 = q1 at f1 x1
  obtain ⟨q2, f2, r2⟩ := readWord_L32 hl hr (fun v2_6 q_7 => if wrap (q_7.1 4 0) = (2 : Int) then some ((-1 : Int), q_7) else if wrap (q_7.1 4 0) = (4 : Int) then some ((-1 : Int), q_7) else (Te_size q_7 ).bind fun r_10 => some (r_10, q_7)) tx.length 0 5000 q1 zW0 (by omega) (by omega) wI0 x1 (by rw [(f1 2 (by omega)).1]; exact ht) (fun i hi => by rw [(f1 3 (by omega)).1]; exact hc i hi)
  refine ⟨q2, zF4_trans f1 f2, ?_⟩
  unfold wres
  rw [Nat.sub_zero]
  rcases r2 with ⟨j, r3, r4⟩ | ⟨σ', r3, r4, r5⟩
  · rw [r3]
    exact Or.inl ⟨j, rfl, r4⟩
  · have hI := wrn_I _ _ wI0 r3
    have h4 : σ'.1 ≤ 4 := hI.1
    have t2 : q2.1 2 1 = tx.length := by rw [(f2 2 (by omega)).1, (f1 2 (by omega)).1]; exact ht
    have r5 : Wr_readWord_L32 (fun v2_6 q_7 => if wrap (q_7.1 4 0) = (2 : Int) then some ((-1 : Int), q_7) else if wrap (q_7.1 4 0) = (4 : Int) then some ((-1 : Int), q_7) else (Te_size q_7 ).bind fun r_10 => some (r_10, q_7)) 5000 0 q1 = _ := r5
    rw [r3, r5, r4.1, wrap_n (n := σ'.1) (by omega)]
    unfold wfin
    dsimp only
    by_cases c2 : σ'.1 = 2
    · rw [if_pos (c := (σ'.1 : Int) = 2) (by omega), if_pos (Or.inl c2)]
      exact Or.inr ⟨σ', rfl, r4, rfl⟩
    · rw [if_neg (c := (σ'.1 : Int) = 2) (by omega)]
      by_cases c4 : σ'.1 = 4
      · rw [if_pos (c := (σ'.1 : Int) = 4) (by omega), if_pos (Or.inr c4)]
        exact Or.inr ⟨σ', rfl, r4, rfl⟩
      · rw [if_neg (c := (σ'.1 : Int) = 4) (by omega), if_neg (by omega)]
        unfold Te_size
        rw [Option.bind_some, t2]
        exact Or.inl ⟨tx.length, rfl, rfl⟩
end WX2

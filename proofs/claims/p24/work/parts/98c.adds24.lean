/-! p24: adds() and finds() -/
/-- the whole text can be read so far, and this is what is read -/
def rd (tx : List Nat) (σ : zW) : Prop := wrn (fun i => tx.getD i 0) tx.length 0 zW0 = .inr σ
theorem rd_nil : rd [] zW0 := rfl
theorem wrn_app (f : Nat → Nat) (m : Nat) : ∀ (n i : Nat) (σ σ' : zW), wrn f n i σ = .inr σ' → wrn f (n + m) i σ = wrn f m (i + n) σ' := by
  intro n
  induction n with
  | zero =>
    intro i σ σ' h
    cases h
    rw [Nat.zero_add, Nat.add_zero]
  | succ n ih =>
    intro i σ σ' h
    rw [show n + 1 + m = n + m + 1 by omega]
    rw [wrn] at h ⊢
    cases hw : wst σ.1 σ.2.1 σ.2.2.1 σ.2.2.2.1 σ.2.2.2.2.1 σ.2.2.2.2.2 (f i) with
    | none => rw [hw] at h; cases h
    | some σ1 =>
      rw [hw] at h
      dsimp only at h ⊢
      rw [ih (i + 1) σ1 σ' h, show i + 1 + n = i + (n + 1) by omega]
theorem wrn_congr {f g : Nat → Nat} : ∀ (n i : Nat) (σ : zW), (∀ j, i ≤ j → j < i + n → f j = g j) → wrn f n i σ = wrn g n i σ := by
  intro n
  induction n with
  | zero => intro i σ _; rfl
  | succ n ih =>
    intro i σ h
    unfold wrn
    rw [h i (Nat.le_refl _) (by omega)]
    cases wst σ.1 σ.2.1 σ.2.2.1 σ.2.2.2.1 σ.2.2.2.2.1 σ.2.2.2.2.2 (g i) with
    | none => rfl
    | some σ1 =>
      dsimp only
      exact ih (i + 1) σ1 (fun j h1 h2 => h j (by omega) (by omega))
theorem rd_pre {tx : List Nat} {σ : zW} (h : rd tx σ) (c : Nat) : wrn (fun i => (tx ++ [c]).getD i 0) (tx ++ [c]).length 0 zW0 = wrn (fun i => (tx ++ [c]).getD i 0) 1 tx.length σ ∧ (tx ++ [c]).getD tx.length 0 = c := by
  have hl : (tx ++ [c]).length = tx.length + 1 := by rw [List.length_append]; rfl
  have e : wrn (fun i => (tx ++ [c]).getD i 0) tx.length 0 zW0 = .inr σ := by
    rw [← h]
    refine wrn_congr _ _ _ (fun j _ h2 => ?_)
    rw [getD_snoc tx c (by rw [hl]; omega), if_neg (by omega)]
  refine ⟨?_, ?_⟩
  · rw [hl, wrn_app _ 1 _ _ _ _ e, Nat.zero_add]
  · rw [getD_snoc tx c (by rw [hl]; omega), if_pos rfl]
theorem rd_snoc {tx : List Nat} {σ σ' : zW} (h : rd tx σ) {c : Nat} (hw : wst σ.1 σ.2.1 σ.2.2.1 σ.2.2.2.1 σ.2.2.2.2.1 σ.2.2.2.2.2 c = some σ') : rd (tx ++ [c]) σ' := by
  obtain ⟨h1, h2⟩ := rd_pre h c
  unfold rd
  rw [h1]
  unfold wrn
  dsimp only
  rw [h2, hw]
  rfl
theorem rd_bad {tx : List Nat} {σ : zW} (h : rd tx σ) {c : Nat} (hw : wst σ.1 σ.2.1 σ.2.2.1 σ.2.2.2.1 σ.2.2.2.2.1 σ.2.2.2.2.2 c = none) : wrn (fun i => (tx ++ [c]).getD i 0) (tx ++ [c]).length 0 zW0 = .inl tx.length := by
  obtain ⟨h1, h2⟩ := rd_pre h c
  rw [h1]
  unfold wrn
  dsimp only
  rw [h2, hw]
section WS
variable {m y s t c : Nat} {g : Nat → Nat}
theorem wst_hyphen (hy : y < 4) : wst 2 m y s t g 45 = some (0, m, y, s, t, g) := by
  unfold wst
  rw [if_neg (by decide), if_neg (by decide), if_pos rfl, if_neg (fun q => absurd q.1 (by decide)), if_pos ⟨rfl, hy⟩]
theorem wst_stress : wst 0 m y s t g 39 = some (1, m, y, s + 2 ^ y, t, g) := by
  unfold wst
  rw [if_pos rfl, if_pos rfl]
theorem wst_letter {p : Nat} (hp : p = 0 ∨ p = 1 ∨ p = 2) (hm : m < 8) (hc : 97 ≤ c ∧ c ≤ 122) : wst p m y s t g c = some (2, m + 1, (if p = 2 then y else y + 1), s, t, upG g m c) := by
  have hl : isLt c = true := isLt_iff.mpr hc
  have hw : ∀ p, wLet p m y s t g c = some (2, m + 1, (if p = 2 then y else y + 1), s, t, upG g m c) := fun p => by
    unfold wLet
    rw [if_pos ⟨hl, hm⟩]
  unfold wst
  rcases hp with rfl | rfl | rfl
  · rw [if_pos rfl, if_neg (by omega), hw]
  · rw [if_neg (by decide), if_pos rfl, hw]
  · rw [if_neg (by decide), if_neg (by decide), if_pos rfl, if_pos ⟨hl, hm⟩, hw]
theorem wst_star : wst 2 m y s t g 42 = some (3, m, y, s, t, g) := by
  unfold wst
  rw [if_neg (by decide), if_neg (by decide), if_pos rfl, if_neg (fun q => absurd q.1 (by decide)), if_neg (fun q => absurd q.1 (by decide)), if_pos rfl]
theorem wst_digit (hc : 49 ≤ c ∧ c ≤ 57) : wst 3 m y s t g c = some (4, m, y, s, c - 48, g) := by
  unfold wst
  rw [if_neg (by decide), if_neg (by decide), if_neg (by decide), if_pos rfl, if_pos hc]
theorem wst_dot {p : Nat} (hp : p = 2 ∨ p = 4) : wst p m y s t g 46 = none := by
  unfold wst
  rcases hp with rfl | rfl
  · rw [if_neg (by decide), if_neg (by decide), if_pos rfl, if_neg (fun q => absurd q.1 (by decide)), if_neg (fun q => absurd q.1 (by decide)), if_neg (by decide)]
  · rw [if_neg (by decide), if_neg (by decide), if_neg (by decide), if_neg (by decide)]
end WS
section AD
variable {q : zM} {A B : zT9} {tx : List Nat}
theorem wres_rd (tx : List Nat) : wres (fun i => tx.getD i 0) tx.length 0 zW0 = wfin tx.length (wrn (fun i => tx.getD i 0) tx.length 0 zW0) := rfl
/-- addWord() in the midst of a word -/
theorem add_mid (h : zSt q A tx) {σ : zW} (hr : rd tx σ) (h2 : σ.1 ≠ 2) (h4 : σ.1 ≠ 4) : ∃ q', Ev_addWord q = some (-100 - (tx.length : Int), q') ∧ zSt q' A tx := by
  obtain ⟨q', a1, a2⟩ := s_add h
  have e : awP A tx = (-100 - (tx.length : Int), A) := by
    unfold awP
    rw [wres_rd, hr]
    unfold wfin
    dsimp only
    rw [if_neg (by rintro (g | g); exact h2 g; exact h4 g)]
  rw [e] at a1 a2
  exact ⟨q', a1, a2⟩
theorem add_dot {c : Nat} (h : zSt q A (tx ++ [c])) {σ : zW} (hr : rd tx σ) (hw : wst σ.1 σ.2.1 σ.2.2.1 σ.2.2.2.1 σ.2.2.2.2.1 σ.2.2.2.2.2 c = none) : ∃ q', Ev_addWord q = some (-100 - (tx.length : Int), q') ∧ zSt q' A (tx ++ [c]) := by
  obtain ⟨q', a1, a2⟩ := s_add h
  have e : awP A (tx ++ [c]) = (-100 - (tx.length : Int), A) := by
    unfold awP
    rw [wres_rd, rd_bad hr hw]
    rfl
  rw [e] at a1 a2
  exact ⟨q', a1, a2⟩
theorem add_done (h : zSt q A tx) {σ : zW} (hr : rd tx σ) (hp : σ.1 = 2 ∨ σ.1 = 4) : (Ev_addWord q).map (fun r => r.1) = some (-4) ∧ (∃ q', Ev_addWord q = some (-4, q') ∧ zSt q' A tx) ∨ (∃ q', Ev_addWord q = some (-3, q') ∧ zSt q' A tx) ∨ (wI σ ∧ aN A < 40 ∧ fstTo (isW A σ.2.1 σ.2.2.2.2.2) (aN A) = aN A ∧ ∃ q', Ev_addWord q = some ((aN A : Int), q') ∧ zSt q' (aAdd A σ) tx) := by
  obtain ⟨q', a1, a2⟩ := s_add h
  have hW := zSt_wf h
  have e0 : wres (fun i => tx.getD i 0) tx.length 0 zW0 = .inr σ := by
    rw [wres_rd, hr]
    unfold wfin
    dsimp only
    rw [if_pos hp]
  have hI := (wres_I wI0 e0).1
  have e : awP A tx = if fstTo (isW A σ.2.1 σ.2.2.2.2.2) (aN A) < aN A then (-4, A) else if aN A = 40 then (-3, A) else ((aN A : Int), aAdd A σ) := by
    unfold awP
    rw [e0]
  by_cases c1 : fstTo (isW A σ.2.1 σ.2.2.2.2.2) (aN A) < aN A
  · rw [if_pos c1] at e
    rw [e] at a1 a2
    exact Or.inl ⟨by rw [a1]; rfl, q', a1, a2⟩
  · rw [if_neg c1] at e
    by_cases c2 : aN A = 40
    · rw [if_pos c2] at e
      rw [e] at a1 a2
      exact Or.inr (Or.inl ⟨q', a1, a2⟩)
    · rw [if_neg c2] at e
      rw [e] at a1 a2
      have := fstTo_le (isW A σ.2.1 σ.2.2.2.2.2) (aN A)
      have := hW.1
      exact Or.inr (Or.inr ⟨hI, by omega, by omega, q', a1, a2⟩)
/-! finds() -/
def lTx (A : zT9) (w : Nat) : Nat → List Nat
  | 0 => []
  | k + 1 => lTx A w k ++ [aLt A w k]
theorem lTx_len (A : zT9) (w : Nat) : ∀ k, (lTx A w k).length = k := by
  intro k
  induction k with
  | zero => rfl
  | succ k ih =>
    show (lTx A w k ++ [aLt A w k]).length = k + 1
    rw [List.length_append, ih]
    rfl
theorem lTx_get (A : zT9) (w : Nat) : ∀ k i, i < k → (lTx A w k).getD i 0 = aLt A w i := by
  intro k
  induction k with
  | zero => intro i hi; exact absurd hi (Nat.not_lt_zero _)
  | succ k ih =>
    intro i hi
    have hl := lTx_len A w k
    show (lTx A w k ++ [aLt A w k]).getD i 0 = _
    rw [getD_snoc _ _ (by rw [List.length_append, hl]; exact hi), hl]
    by_cases e : i = k
    · rw [if_pos e, e]
    · rw [if_neg e]
      exact ih i (by omega)
theorem isW_congr {m : Nat} {g g' : Nat → Nat} (h : ∀ k, k < m → g k = g' k) (w : Nat) : isW A m g w = isW A m g' w := by
  rw [Bool.eq_iff_iff, isW_iff, isW_iff]
  constructor
  · rintro ⟨a, b⟩; exact ⟨a, fun k hk => (b k hk).trans (h k hk)⟩
  · rintro ⟨a, b⟩; exact ⟨a, fun k hk => (b k hk).trans (h k hk).symm⟩
theorem finds_L22 {w : Nat} (hw : w < aN A) (v2 : Int) (K : Int → zM → Option (Int × zM)) : ∀ (d k m : Nat) (q : zM), k + d = aNl A w → d < m → zSt q A (lTx A w k) → ∃ q', Lw_finds_L22 (w : Int) v2 K m (k : Int) q = K (aNl A w : Int) q' ∧ zSt q' A (lTx A w (aNl A w)) := by
  intro d
  induction d with
  | zero =>
    intro k m q hk hm hS
    obtain ⟨m, rfl⟩ : ∃ x, m = x + 1 := ⟨m - 1, by omega⟩
    have e : k = aNl A w := by omega
    subst e
    refine ⟨q, ?_, hS⟩
    rw [Lw_finds_L22, x_word0 (zSt_rx hS) (zSt_wf hS) hw, Option.bind_some, if_neg (Int.lt_irrefl _)]
  | succ d ih =>
    intro k m q hk hm hS
    obtain ⟨m, rfl⟩ : ∃ x, m = x + 1 := ⟨m - 1, by omega⟩
    have hW := zSt_wf hS
    have h8 := (hW.2.2.2.2.2.2.1 w hw).2.1
    have hkl : k < aNl A w := by omega
    have hlt := lt_rng hW hw hkl
    have hm' : d < m := by omega
    have hk' : k + 1 + d = aNl A w := by omega
    have e3 : (aLt A w k : Int) % 65536 = (aLt A w k : Int) := by omega
    obtain ⟨q1, t1, t2⟩ := s_type hS (c := aLt A w k) (by rw [lTx_len]; omega) (by omega)
    obtain ⟨q', r1, r2⟩ := ih (k + 1) m q1 hk' hm' t2
    refine ⟨q', ?_, r2⟩
    obtain ⟨a1, a2, a3, a4⟩ := ar_w1 hkl (Nat.le_trans h8 (by decide))
    rw [Lw_finds_L22, x_word0 (zSt_rx hS) hW hw, Option.bind_some, a1, a2, if_pos a3, x_letter (zSt_rx hS) hW hw hkl, Option.bind_some, e3, t1, Option.bind_some, a4, ← r1]
theorem Lw_finds_eq (h : zSt q A tx) {w : Nat} (hw : w < aN A) (hf : fstTo (isW A (aNl A w) (aLt A w)) (aN A) = w) : ∃ q' tx', Lw_finds q (w : Int) = some (1, q') ∧ zSt q' A tx' := by
  have hW := zSt_wf h
  obtain ⟨b1, b2, -⟩ := hW.2.2.2.2.2.2.1 w hw
  obtain ⟨q1, c1, c2⟩ := s_clear h
  have f0 : Ev_find q1 = some (-5) := by
    rw [s_find_yes c2 ⟨Nat.zero_le _, fun i hi => absurd hi (Nat.not_lt_zero _)⟩, if_neg (fun g => absurd g.1 (by decide))]
  obtain ⟨q2, d1, d2⟩ := finds_L22 hw 1 (fun v3_8 q_9 => 
    (Ev_find q_9 ).bind fun r_10 =>
      if wrap r_10 = wrap (w : Int) then
        Lw_finds_j63 q_9 (w : Int) 1 v3_8 (1 : Int)
      else
        Lw_finds_j63 q_9 (w : Int) 1 v3_8 (0 : Int)) (aNl A w) 0 5000 q1 (Nat.zero_add _) (by omega) c2
  have hg : ∀ k, k < aNl A w → (lTx A w (aNl A w)).getD k 0 = aLt A w k := fun k hk => lTx_get A w _ k hk
  have f1 : Ev_find q2 = some (w : Int) := by
    have hpl : tPl (lTx A w (aNl A w)) := ⟨by rw [lTx_len]; exact b2, fun i hi => by
      rw [lTx_len] at hi
      rw [hg i hi]
      exact isLt_iff.mpr (lt_rng hW hw hi)⟩
    have e : fstTo (isW A (aNl A w) (fun i => (lTx A w (aNl A w)).getD i 0)) (aN A) = w := by
      have ef : isW A (aNl A w) (fun i => (lTx A w (aNl A w)).getD i 0) = isW A (aNl A w) (aLt A w) := funext fun x => isW_congr hg x
      rw [ef, hf]
    rw [s_find_yes d2 hpl, lTx_len, e, if_pos ⟨b1, hw⟩]
  have hl := lTx_len A w (aNl A w)
  obtain ⟨q3, t1, t2⟩ := s_type d2 (c := 39) (by rw [hl]; omega) (by decide)
  have f2 : Ev_find q3 = some (-5) := by
    refine s_find_no t2 (fun g => ?_)
    have := g.2 (lTx A w (aNl A w)).length (by rw [List.length_append]; exact Nat.lt_succ_self _)
    rw [getD_snoc _ _ (by rw [List.length_append]; exact Nat.lt_succ_self _), if_pos rfl] at this
    exact absurd this (by decide)
  refine ⟨q3, _, ?_, t2⟩
  unfold Lw_finds
  rw [c1, Option.bind_some]
  dsimp only
  rw [f0, Option.bind_some, if_pos (by decide)]
  unfold Lw_finds_j19
  refine Eq.trans d1 ?_
  rw [f1, Option.bind_some, if_pos rfl]
  unfold Lw_finds_j63
  have t1 : Ev_type q2 39 = _ := t1
  rw [t1, Option.bind_some]
  dsimp only
  rw [if_neg one_ne, if_neg one_ne, f2, Option.bind_some, if_pos (by decide)]
end AD

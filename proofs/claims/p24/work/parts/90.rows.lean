/-! line(.., 5): how many rows there are; the class -/
section RW
/-- the numbers of rows from each beat on, capped -/
def eqW (A : zT9) (S : Nat → Nat → Bool) (d : Nat) (g : Nat → Nat) : Prop := g (aB A) = 1 ∧ ∀ b, d ≤ b → b < aB A → g b = min 1000 (sumTo (fun w => if S w b = true then g (b + aSy A w) else 0) (aN A))
theorem sumTo_congr {f f' : Nat → Nat} {n : Nat} (h : ∀ i, i < n → f i = f' i) : sumTo f n = sumTo f' n := by
  induction n with
  | zero => rfl
  | succ n ih =>
    unfold sumTo
    rw [ih (fun i hi => h i (by omega)), h n (by omega)]
theorem eqW_unique {A : zT9} {S : Nat → Nat → Bool} (hW : zWF A) (hS : gOK A S) {g g' : Nat → Nat} (h : eqW A S 0 g) (h' : eqW A S 0 g') : ∀ (d b : Nat), b + d = aB A → g b = g' b := by
  intro d
  induction d using Nat.strongRecOn with
  | _ d ih =>
    intro b hb
    by_cases c : b = aB A
    · rw [c, h.1, h'.1]
    · rw [h.2 b (Nat.zero_le _) (by omega), h'.2 b (Nat.zero_le _) (by omega)]
      refine congrArg (min 1000) (sumTo_congr (fun w hw => ?_))
      by_cases s : S w b = true
      · obtain ⟨f1, f2, f3⟩ := gOK_fit hW hS hw s
        rw [if_pos s, if_pos s, ih (aB A - (b + aSy A w)) (by omega) (b + aSy A w) (by omega)]
      · rw [if_neg s, if_neg s]
theorem eqW_le {A : zT9} {S : Nat → Nat → Bool} {d : Nat} {g : Nat → Nat} (h : eqW A S d g) {b : Nat} (h1 : d ≤ b) (h2 : b ≤ aB A) : g b ≤ 1000 := by
  by_cases c : b = aB A
  · rw [c, h.1]; decide
  · rw [h.2 b h1 (by omega)]
    exact Nat.min_le_left _ _
def nxW (A : zT9) (S : Nat → Nat → Bool) (g : Nat → Nat) (d : Nat) : Nat → Nat := fun j => if j = d then min 1000 (sumTo (fun w => if S w d = true then g (d + aSy A w) else 0) (aN A)) else g j
theorem eqW_next {A : zT9} {S : Nat → Nat → Bool} (hW : zWF A) (hS : gOK A S) {d : Nat} (hd : d < aB A) {g : Nat → Nat} (h : eqW A S (d + 1) g) : eqW A S d (nxW A S g d) := by
  have same : ∀ j, d < j → nxW A S g d j = g j := fun j hj => if_neg (by omega)
  refine ⟨(same _ hd).trans h.1, fun b h1 h2 => ?_⟩
  have e : sumTo (fun w => if S w b = true then nxW A S g d (b + aSy A w) else 0) (aN A) = sumTo (fun w => if S w b = true then g (b + aSy A w) else 0) (aN A) := sumTo_congr (fun w hw => by
    by_cases s : S w b = true
    · obtain ⟨f1, f2, f3⟩ := gOK_fit hW hS hw s
      rw [if_pos s, if_pos s, same _ (by omega)]
    · rw [if_neg s, if_neg s])
  rw [e]
  by_cases c : b = d
  · subst c
    exact if_pos rfl
  · rw [same b (by omega)]
    exact h.2 b (by omega) h2
section CR
variable {q : zM} {A : zT9} {l : Nat}
theorem ar_cr {i n b s c : Nat} (h1 : i < n) (h2 : n ≤ 40) (h3 : b < 13) (h4 : b + s ≤ 12) : wrap (i : Int) = i ∧ wrap (n : Int) = n ∧ (i : Int) < (n : Int) ∧ wrap ((b : Int) + (s : Int)) = ((b + s : Nat) : Int) ∧ ((0 : Int) ≤ ((b + s : Nat) : Int) ∧ ((b + s : Nat) : Int) < 13) ∧ (c : Int) + 0 = (c : Int) := ⟨wrap_n (by omega), wrap_n (by omega), by omega, wrap_n (n := b + s) (by omega), by omega, by omega⟩
theorem count_L39 (hX : zRX q 5 A) (hW : zWF A) (hP : zP_114 q A l true true) (hl : l < aL A) {d : Nat} (hd : d < aB A) {g : Nat → Nat} (hg : eqW A (sS A l true true) (d + 1) g) (hq : ∀ j, d + 1 ≤ j → j ≤ aB A → q.1 118 j = g j) (v2 v3 : Int) (K : Int → Int → Option (Int × zM)) : Ls_countRows_L39 q v2 v3 (d : Int) K 5000 0 0 = K (sumTo (fun w => if sS A l true true w d = true then g (d + aSy A w) else 0) (aN A) : Int) (aN A : Int) := by
  have wN := hW.1
  have wB := hW.2.2.1
  have s0 : Ws_size q = some (aN A : Int) := congrArg some hX.1
  refine for_all (G := fun n i => Ls_countRows_L39 q v2 v3 (d : Int) K n (sumTo (fun w => if sS A l true true w d = true then g (d + aSy A w) else 0) i : Int) (i : Int)) (N := aN A) (by omega) (fun n i hi => ?_) (fun n => ?_)
  · show Ls_countRows_L39 _ _ _ _ _ (n + 1) _ _ = Ls_countRows_L39 _ _ _ _ _ n ((sumTo _ (i + 1) : Nat) : Int) ((i + 1 : Nat) : Int)
    have d13 : d < 13 := by omega
    have cs := stand_114 hX hW hP hl hi (b := d) d13
    have sy := Ws_syllablesOf_eq hX hW hi
    have e1 : sumTo (fun w => if sS A l true true w d = true then g (d + aSy A w) else 0) (i + 1) = sumTo (fun w => if sS A l true true w d = true then g (d + aSy A w) else 0) i + (if sS A l true true i d = true then g (d + aSy A i) else 0) := rfl
    rw [e1]
    generalize sumTo (fun w => if sS A l true true w d = true then g (d + aSy A w) else 0) i = c
    cases hs : sS A l true true i d with
    | false =>
      obtain ⟨a1, a2, a3, -, -, -⟩ := ar_cr (s := 0) (c := c) (b := d) hi wN d13 (by omega)
      rw [hs] at cs
      rw [Ls_countRows_L39, s0, Option.bind_some, a1, a2, if_pos a3, cs, Option.bind_some, if_pos (show wrap (zb false) = 0 by decide), if_neg (c := false = true) (by simp)]
      rfl
    | true =>
      obtain ⟨f1, f2, f3⟩ := gOK_fit hW (sS_ok A l true true) hi hs
      obtain ⟨a1, a2, a3, a4, a5, -⟩ := ar_cr (s := aSy A i) (c := c) (b := d) hi wN d13 (by omega)
      rw [hs] at cs
      rw [Ls_countRows_L39, s0, Option.bind_some, a1, a2, if_pos a3, cs, Option.bind_some, if_neg (show ¬ wrap (zb true) = 0 by decide), sy, Option.bind_some, a4, ck_in a5, Int.toNat_natCast, hq _ (by clear a1 a2 a4; omega) f1, if_pos rfl]
      rfl
  · show Ls_countRows_L39 _ _ _ _ _ (n + 1) _ _ = _
    rw [Ls_countRows_L39, s0, Option.bind_some, if_neg (Int.lt_irrefl _)]
theorem min_eq {c : Nat} (h : c ≤ 40000) : wmin (c : Int) (1000 : Int) = ((min 1000 c : Nat) : Int) := by
  unfold wmin
  rw [wrap_n (by omega), show wrap (1000 : Int) = 1000 by decide]
  by_cases h1 : c ≤ 1000
  · rw [Nat.min_eq_right h1]
    (first | (rw [if_pos (by omega)]; done) | (rw [if_neg (by omega)]; done) | (split <;> omega))
  · rw [Nat.min_eq_left (by omega)]
    (first | (rw [if_neg (by omega)]; rfl) | (rw [if_pos (by omega)]; rfl) | (split <;> omega))
theorem count_L28 (hW : zWF A) (hl : l < aL A) (v2 v3 : Int) (K : Int → zM → Option (Int × zM)) : ∀ (d n : Nat) (q : zM) (g : Nat → Nat), d ≤ aB A → d < n → zRX q 5 A → zP_114 q A l true true → eqW A (sS A l true true) d g → (∀ j, d ≤ j → j ≤ aB A → q.1 118 j = g j) → ∃ (q' : zM) (g' : Nat → Nat), Ls_countRows_L28 v2 v3 K n ((d : Int) - 1) q = K (-1) q' ∧ (∀ a, a ≠ 118 → q'.1 a = q.1 a) ∧ q'.2 = q.2 ∧ eqW A (sS A l true true) 0 g' ∧ q'.1 118 0 = g' 0 := by
  have wB := hW.2.2.1
  intro d
  induction d with
  | zero =>
    intro n q g _ hn _ _ hg hq
    obtain ⟨n, rfl⟩ : ∃ m, n = m + 1 := ⟨n - 1, by omega⟩
    refine ⟨q, g, ?_, fun a _ => rfl, rfl, hg, hq 0 (Nat.le_refl _) (Nat.zero_le _)⟩
    rw [Ls_countRows_L28, if_pos (by decide)]
    rfl
  | succ d ih =>
    intro n q g hd hn hX hP hg hq
    obtain ⟨n, rfl⟩ : ∃ m, n = m + 1 := ⟨n - 1, by omega⟩
    obtain ⟨a1, a2, a3, a4⟩ := ar_f31 hd wB
    have d13 : ((0 : Int) ≤ (d : Int) ∧ (d : Int) < 13) := by clear a2 a4; omega
    have hb : sumTo (fun w => if sS A l true true w d = true then g (d + aSy A w) else 0) (aN A) ≤ 40000 := by
      have wN := hW.1
      have := sumTo_le (f := fun w => if sS A l true true w d = true then g (d + aSy A w) else 0) (n := aN A) (m := 1000) (fun w hw => by
        by_cases s : sS A l true true w d = true
        · obtain ⟨f1, f2, f3⟩ := gOK_fit hW (sS_ok A l true true) hw s
          rw [if_pos s]
          exact eqW_le hg (by clear a1 a2 a4; omega) f1
        · rw [if_neg s]
          exact Nat.zero_le _)
      clear a1 a2 a4
      omega
    have mn := min_eq hb
    rw [a1, Ls_countRows_L28, a2, if_neg a3, count_L39 hX hW hP hl (Nat.lt_of_succ_le hd) hg hq v2 v3, ck_in d13, Int.toNat_natCast, mn]
    have e0 : min 1000 (sumTo (fun w => if sS A l true true w d = true then g (d + aSy A w) else 0) (aN A)) = nxW A (sS A l true true) g d d := (if_pos rfl).symm
    rw [e0]
    clear mn e0 hb
    have hX1 : zRX (qs q 118 d (nxW A (sS A l true true) g d d : Int)) 5 A := zRX5 (fun a ha => funext fun j => qs_na (Nat.ne_of_lt (Nat.lt_trans ha (by decide))) j) rfl hX
    have hP1 : zP_114 (qs q 118 d (nxW A (sS A l true true) g d d : Int)) A l true true := zP_114_fr (funext fun j => qs_na (by decide) j) (funext fun j => qs_na (by decide) j) hP
    obtain ⟨q', g', r1, r2, r3, r4, r5⟩ := ih n (qs q 118 d (nxW A (sS A l true true) g d d : Int)) (nxW A (sS A l true true) g d) (Nat.le_of_succ_le hd) (Nat.lt_of_succ_lt_succ hn) hX1 hP1 (eqW_next hW (sS_ok A l true true) (Nat.lt_of_succ_le hd) hg) (fun j h1 h2 => by
      rw [qs_at]
      by_cases e : j = d
      · rw [if_pos ⟨rfl, e⟩, e]
      · rw [if_neg (fun g => e g.2), hq j (Nat.lt_of_le_of_ne h1 (Ne.symm e)) h2]
        unfold nxW
        rw [if_neg e])
    exact ⟨q', g', r1, fun a ha => (r2 a ha).trans (funext fun j => qs_na ha j), r3, r4, r5⟩
theorem Ls_countRows_eq (hX : zRX q 5 A) (hW : zWF A) (hl : l < aL A) : ∃ (q' : zM) (g : Nat → Nat), Ls_countRows q (l : Int) = some ((g 0 : Int), q') ∧ (∀ a, a < 114 ∨ 119 < a → q'.1 a = q.1 a) ∧ q'.2 = q.2 ∧ eqW A (sS A l true true) 0 g := by
  have wB := hW.2.2.1
  obtain ⟨q1, p1, p2, p3, p4⟩ := prep_114 hX hW hl true true
  have p1 : Ls_prepare_114_5 q (l : Int) 1 1 = some q1 := p1
  have hX1 : zRX q1 5 A := zRX5 (fun a ha => p3 a (Nat.ne_of_lt ha) (Nat.ne_of_lt (Nat.lt_trans ha (by decide)))) p4 hX
  have e12 : q1.1 12 0 = aB A := hX1.2.1
  have b1 : wrap (aB A : Int) = aB A := wrap_n (by clear e12; omega)
  have b2 : (0 : Int) ≤ (aB A : Int) ∧ (aB A : Int) < 13 := by clear e12 b1; omega
  unfold Ls_countRows
  rw [p1, Option.bind_some, e12, b1, ck_in b2, Int.toNat_natCast]
  unfold Ls_countRows_b23
  clear e12 b1
  have hX2 : zRX (qs q1 118 (aB A) 1) 5 A := zRX5 (fun a ha => funext fun j => qs_na (Nat.ne_of_lt (Nat.lt_trans ha (by decide))) j) rfl hX1
  have hP2 : zP_114 (qs q1 118 (aB A) 1) A l true true := zP_114_fr (funext fun j => qs_na (by decide) j) (funext fun j => qs_na (by decide) j) p2
  obtain ⟨q2, g, s1, s2, s3, s4, s5⟩ := count_L28 hW hl (l : Int) (aB A : Int) (fun v4_13 q_14 => some (q_14.1 118 0, q_14)) (aB A) 5000 (qs q1 118 (aB A) 1) (fun _ => 1) (Nat.le_refl _) (Nat.lt_of_le_of_lt wB (by decide)) hX2 hP2 ⟨rfl, fun b h1 h2 => absurd h2 (Nat.not_lt.mpr h1)⟩ (fun j h1 h2 => by
    have e : j = aB A := Nat.le_antisymm h2 h1
    rw [qs_at, if_pos ⟨rfl, e⟩]
    rfl)
  rw [s1, s5]
  refine ⟨q2, g, rfl, fun a ha => ?_, s3.trans p4, s4⟩
  rw [s2 a (by omega), ← p3 a (by omega) (by omega)]
  exact funext fun j => qs_na (by omega) j
end CR
end RW

/-! line(.., 5): the reference; both together -/
section RM
variable {q : zM} {A : zT9} {hs : List zT9} {sn : Nat → Option zT9} {tx : List Nat} {l : Nat}
theorem ar_mr {i n b s B : Nat} (h1 : i < n) (h2 : n ≤ 40) (h3 : b < B) (h4 : B ≤ 12) (h5 : b + s ≤ B) : wrap (i : Int) = i ∧ wrap (n : Int) = n ∧ (i : Int) < (n : Int) ∧ ((0 : Int) ≤ (i : Int) ∧ (i : Int) < 40) ∧ wrap ((b : Int) + (s : Int)) = ((b + s : Nat) : Int) ∧ ((0 : Int) ≤ ((b + s : Nat) : Int) ∧ ((b + s : Nat) : Int) < 13) ∧ wrap (B : Int) = B ∧ wrap (b : Int) = b ∧ ((0 : Int) ≤ (b : Int) ∧ (b : Int) < 13) ∧ (0 < (b : Int) ↔ b ≠ 0) := ⟨wrap_n (by omega), wrap_n (by omega), by omega, by omega, wrap_n (n := b + s) (by omega), by omega, wrap_n (by omega), wrap_n (by omega), by omega, by omega⟩
theorem rowsBy_eq (hM : zRM (q.1 127) A) (hW : zWF A) (hP : zPM q A l true true) (hl : l < aL A) {d w : Nat} (hd : d < aB A) (hw : w < aN A) {g : Nat → Nat} (hg : g (aB A) = 1) (hq : ∀ j, d + 1 ≤ j → j < aB A → q.1 138 j = g j) : Mo_rowsBy q (w : Int) (d : Int) = some ((if sN A l true w d = true then g (d + aSy A w) else 0 : Nat) : Int) := by
  have wB := hW.2.2.1
  have sy := (aSt_lt hW hw).2
  have e1 := Mo_bendsAt_eq hM hW hw (b := d) (Nat.lt_trans hd (Nat.lt_of_le_of_lt wB (by decide)))
  have e2 := Mo_syllables_eq hM hW hw
  have e3 := Mo_ends_eq hM hW hP hl hw
  have e4 : q.1 127 1 = aB A := hM.2.1
  have e5 := hP.1 w hw
  have bl := aBd_le A w d
  have c0 : ¬ wrap (aBd A w d : Int) < 0 := by
    rw [wrap_n (by clear e4 e5; omega)]
    clear e4 e5
    omega
  unfold Mo_rowsBy sN
  cases hu : sU A l w with
  | false =>
    obtain ⟨a1, a2, a3, a4, -⟩ := ar_mr (b := d) (s := 0) hw hW.1 hd wB (Nat.le_of_lt hd)
    rw [hu] at e5
    rw [a1, ck_in a4, Int.toNat_natCast, e5, if_pos (show wrap (zb false) = 0 by decide)]
    rfl
  | true =>
    cases hf : aFitB A w d with
    | false =>
      obtain ⟨a1, a2, a3, a4, -⟩ := ar_mr (b := d) (s := 0) hw hW.1 hd wB (Nat.le_of_lt hd)
      rw [hu] at e5
      rw [hf, if_neg (c := false = true) (by simp)] at e1
      rw [a1, ck_in a4, Int.toNat_natCast, e5, if_neg (show ¬ wrap (zb true) = 0 by decide), e1, Option.bind_some, if_pos (by decide)]
      rfl
    | true =>
      have fit := ((aFitB_iff A w d).mp hf).1
      obtain ⟨a1, a2, a3, a4, a5, a6, a7, a8, -⟩ := ar_mr (b := d) (s := aSy A w) hw hW.1 hd wB fit
      rw [hu] at e5
      rw [hf, if_pos rfl] at e1
      rw [a1, ck_in a4, Int.toNat_natCast, e5, if_neg (show ¬ wrap (zb true) = 0 by decide), e1, Option.bind_some, if_neg c0, e2, Option.bind_some, a5, e4, a7]
      by_cases cb : d + aSy A w = aB A
      · rw [if_pos (by rw [cb]), e3, Option.bind_some, cb, hg, wrap_zb, show decide (aB A ≠ aB A) = false from decide_eq_false (fun h => h rfl)]
        cases (decide (aLt A w (aNl A w - 1) = aLe A l) == true) <;> rfl
      · rw [if_neg (fun h => cb (Int.natCast_inj.mp h)), ck_in a6, Int.toNat_natCast, hq _ (by clear e4 e5 a1 a2 a5 a7 a8; omega) (Nat.lt_of_le_of_ne fit cb), show decide (d + aSy A w ≠ aB A) = true from decide_eq_true cb]
        rfl
theorem atMost_eq {c x : Nat} (h : c ≤ 1000) (hx : x ≤ 1000) : Mo_atMost q ((c : Int) + (x : Int)) = some ((min 1000 (c + x) : Nat) : Int) := by
  unfold Mo_atMost
  rw [show (c : Int) + (x : Int) = ((c + x : Nat) : Int) by omega, wrap_n (by omega)]
  by_cases h1 : c + x ≤ 1000
  · rw [Nat.min_eq_right h1, if_neg (by omega)]
  · rw [Nat.min_eq_left (by omega), if_pos (by omega)]
    rfl
theorem qs_qs (q : zM) (o k : Nat) (x y : Int) : qs (qs q o k x) o k y = qs q o k y := by
  refine zM_ext (fun a j => ?_) (fun a j => rfl)
  rw [qs_at, qs_at, qs_at]
  by_cases c : a = o ∧ j = k
  · rw [if_pos c, if_pos c]
  · rw [if_neg c, if_neg c, if_neg c]
theorem min_min {a b : Nat} : min 1000 (min 1000 a + b) = min 1000 (a + b) := by omega
theorem many_L29 (hM : zRM (q.1 127) A) (hW : zWF A) (hP : zPM q A l true true) (hl : l < aL A) {d : Nat} (hd : d < aB A) {g : Nat → Nat} (hg : eqW A (sS A l true true) (d + 1) g) (hq : ∀ j, d + 1 ≤ j → j < aB A → q.1 138 j = g j) (v1 : Int) (K : Int → zM → Option (Int × zM)) : Mo_manyRows_L29 v1 (d : Int) K 5000 0 (qs q 138 d 0) = K (aN A : Int) (qs q 138 d (nxW A (sS A l true true) g d d : Int)) := by
  have wN := hW.1
  have wB := hW.2.2.1
  have en : nxW A (sS A l true true) g d d = min 1000 (sumTo (fun w => if sS A l true true w d = true then g (d + aSy A w) else 0) (aN A)) := if_pos rfl
  rw [en]
  clear en
  refine for_all (G := fun n i => Mo_manyRows_L29 v1 (d : Int) K n (i : Int) (qs q 138 d ((min 1000 (sumTo (fun w => if sS A l true true w d = true then g (d + aSy A w) else 0) i) : Nat) : Int))) (N := aN A) (by omega) (fun n i hi => ?_) (fun n => ?_)
  · show Mo_manyRows_L29 _ _ _ (n + 1) _ _ = Mo_manyRows_L29 _ _ _ n ((i + 1 : Nat) : Int) _
    have e1 : sumTo (fun w => if sS A l true true w d = true then g (d + aSy A w) else 0) (i + 1) = sumTo (fun w => if sS A l true true w d = true then g (d + aSy A w) else 0) i + (if sS A l true true i d = true then g (d + aSy A i) else 0) := rfl
    have xle : (if sN A l true i d = true then g (d + aSy A i) else 0) ≤ 1000 := by
      by_cases s : sN A l true i d = true
      · rw [if_pos s]
        unfold sN at s
        rw [Bool.and_eq_true, Bool.and_eq_true] at s
        have fit := ((aFitB_iff A i d).mp s.1.2).1
        have := (aSt_lt hW hi).2
        exact eqW_le hg (by omega) fit
      · rw [if_neg s]
        exact Nat.zero_le _
    have sx : (if sS A l true true i d = true then g (d + aSy A i) else 0) = if (decide (d ≠ 0) || sB A l true i) = true then (if sN A l true i d = true then g (d + aSy A i) else 0) else 0 := by
      rw [sS_eq]
      cases sN A l true i d <;> cases (decide (d ≠ 0) || sB A l true i) <;> rfl
    rw [e1, ← min_min, sx]
    clear e1 sx
    have cle : min 1000 (sumTo (fun w => if sS A l true true w d = true then g (d + aSy A w) else 0) i) ≤ 1000 := Nat.min_le_left _ _
    generalize min 1000 (sumTo (fun w => if sS A l true true w d = true then g (d + aSy A w) else 0) i) = c at cle
    have hM1 : zRM ((qs q 138 d (c : Int)).1 127) A := by rw [show (qs q 138 d (c : Int)).1 127 = q.1 127 from funext fun j => qs_na (by decide) j]; exact hM
    have hP1 : zPM (qs q 138 d (c : Int)) A l true true := zPM_fr (funext fun j => qs_na (by decide) j) (funext fun j => qs_na (by decide) j) hP
    have rb := rowsBy_eq hM1 hW hP1 hl hd hi hg.1 (fun j h1 h2 => by
      rw [qs_at, if_neg (fun g => by omega)]
      exact hq j h1 h2)
    have bg := Mo_begins_eq hM1 hW hP1 hl hi
    have e0 : (qs q 138 d (c : Int)).1 127 0 = aN A := hM1.1
    have ed : (qs q 138 d (c : Int)).1 138 d = c := by rw [qs_at, if_pos ⟨rfl, rfl⟩]
    obtain ⟨a1, a2, a3, -, -, -, -, a8, a9, a10⟩ := ar_mr (b := d) (s := 0) hi wN hd wB (Nat.le_of_lt hd)
    have am := fun x (hx : x ≤ 1000) => atMost_eq (q := qs q 138 d (c : Int)) cle hx
    generalize hx : (if sN A l true i d = true then g (d + aSy A i) else 0) = x at xle rb
    rw [Mo_manyRows_L29, e0, a1, a2, if_pos a3, a8, ck_in a9]
    by_cases cd : d = 0
    · rw [if_neg (fun h => (a10.mp h) cd), bg, Option.bind_some, show decide (d ≠ 0) = false from decide_eq_false (fun h => h cd), Bool.false_or, wrap_zb]
      unfold sB
      cases hb : (decide (aLt A i 0 = aFe A l) == true) with
      | false =>
        have am0 := am 0 (by decide)
        have am0 : Mo_atMost (qs q 138 d (c : Int)) ((c : Int) + 0) = some ((min 1000 (c + 0) : Nat) : Int) := am0
        rw [if_pos (show zb false = 0 from rfl), Int.toNat_natCast, ed, am0, Option.bind_some, ck_in a9, qs_qs, if_neg (c := false = true) (by simp)]
        rfl
      | true =>
        rw [if_neg (show ¬ zb true = 0 by decide), rb, Option.bind_some, Int.toNat_natCast, ed, am x xle, Option.bind_some, ck_in a9, qs_qs, if_pos rfl]
        rfl
    · rw [if_pos (a10.mpr cd), rb, Option.bind_some, Int.toNat_natCast, ed, am x xle, Option.bind_some, ck_in a9, qs_qs, show decide (d ≠ 0) = true from decide_eq_true cd, Bool.true_or, if_pos rfl]
      rfl
  · show Mo_manyRows_L29 _ _ _ (n + 1) _ _ = _
    have e0 : ∀ x, (qs q 138 d x).1 127 0 = aN A := fun x => (qs_na (by decide) 0).trans hM.1
    rw [Mo_manyRows_L29, e0, if_neg (Int.lt_irrefl _)]
theorem many_L16 (hW : zWF A) (hl : l < aL A) (v1 : Int) (K : Int → zM → Option (Int × zM)) : ∀ (d n : Nat) (q : zM) (g : Nat → Nat), d ≤ aB A → d < n → zRM (q.1 127) A → zPM q A l true true → eqW A (sS A l true true) d g → (∀ j, d ≤ j → j < aB A → q.1 138 j = g j) → ∃ (q' : zM) (g' : Nat → Nat), Mo_manyRows_L16 v1 K n ((d : Int) - 1) q = K (-1) q' ∧ (∀ a, a ≠ 138 → q'.1 a = q.1 a) ∧ q'.2 = q.2 ∧ eqW A (sS A l true true) 0 g' ∧ q'.1 138 0 = g' 0 := by
  have wB := hW.2.2.1
  have wB2 := hW.2.1
  intro d
  induction d with
  | zero =>
    intro n q g _ hn _ _ hg hq
    obtain ⟨n, rfl⟩ : ∃ m, n = m + 1 := ⟨n - 1, by omega⟩
    refine ⟨q, g, ?_, fun a _ => rfl, rfl, hg, hq 0 (Nat.le_refl _) (Nat.lt_of_lt_of_le (by decide) wB2)⟩
    rw [Mo_manyRows_L16, if_pos (by decide)]
    rfl
  | succ d ih =>
    intro n q g hd hn hM hP hg hq
    obtain ⟨n, rfl⟩ : ∃ m, n = m + 1 := ⟨n - 1, by omega⟩
    obtain ⟨a1, a2, a3, a4⟩ := ar_f31 hd wB
    have d13 : ((0 : Int) ≤ (d : Int) ∧ (d : Int) < 13) := by clear a2 a4; omega
    rw [a1, Mo_manyRows_L16, a2, if_neg a3, ck_in d13, Int.toNat_natCast, many_L29 hM hW hP hl (Nat.lt_of_succ_le hd) hg hq]
    have hM1 : zRM ((qs q 138 d (nxW A (sS A l true true) g d d : Int)).1 127) A := by rw [show (qs q 138 d (nxW A (sS A l true true) g d d : Int)).1 127 = q.1 127 from funext fun j => qs_na (by decide) j]; exact hM
    have hP1 : zPM (qs q 138 d (nxW A (sS A l true true) g d d : Int)) A l true true := zPM_fr (funext fun j => qs_na (by decide) j) (funext fun j => qs_na (by decide) j) hP
    obtain ⟨q', g', r1, r2, r3, r4, r5⟩ := ih n (qs q 138 d (nxW A (sS A l true true) g d d : Int)) (nxW A (sS A l true true) g d) (Nat.le_of_succ_le hd) (Nat.lt_of_succ_lt_succ hn) hM1 hP1 (eqW_next hW (sS_ok A l true true) (Nat.lt_of_succ_le hd) hg) (fun j h1 h2 => by
      rw [qs_at]
      by_cases e : j = d
      · rw [if_pos ⟨rfl, e⟩, e]
      · rw [if_neg (fun g => e g.2), hq j (Nat.lt_of_le_of_ne h1 (Ne.symm e)) h2]
        unfold nxW
        rw [if_neg e])
    exact ⟨q', g', r1, fun a ha => (r2 a ha).trans (funext fun j => qs_na ha j), r3, r4, r5⟩
theorem Mo_manyRows_eq (hM : zRM (q.1 127) A) (hW : zWF A) (hl : l < aL A) : ∃ (q' : zM) (g : Nat → Nat), Mo_manyRows q (l : Int) = some ((g 0 : Int), q') ∧ (∀ a, a ≠ 126 → a ≠ 134 → a ≠ 138 → q'.1 a = q.1 a) ∧ q'.2 = q.2 ∧ (∀ k, k < 14 → q'.1 126 k = q.1 126 k) ∧ eqW A (sS A l true true) 0 g := by
  have wB := hW.2.2.1
  obtain ⟨q1, p1, p2, p3, p4, p5⟩ := Mo_look_eq hM hW hl true true
  have p1 : Mo_look q (l : Int) 0 0 = some q1 := p1
  have hM1 : zRM (q1.1 127) A := by rw [p3 127 (by decide) (by decide)]; exact hM
  have e1 : q1.1 127 1 = aB A := hM1.2.1
  unfold Mo_manyRows
  rw [p1, Option.bind_some, e1]
  clear e1
  obtain ⟨q2, g, s1, s2, s3, s4, s5⟩ := many_L16 hW hl (l : Int) (fun v2_21 q_22 => some (q_22.1 138 0, q_22)) (aB A) 5000 q1 (fun _ => 1) (Nat.le_refl _) (Nat.lt_of_le_of_lt wB (by decide)) hM1 p2 ⟨rfl, fun b h1 h2 => absurd h2 (Nat.not_lt.mpr h1)⟩ (fun j h1 h2 => absurd h2 (Nat.not_lt.mpr h1))
  rw [s1, s5]
  exact ⟨q2, g, rfl, fun a h1 h2 h3 => (s2 a h3).trans (p3 a h1 h2), s3.trans p4, fun k hk => by rw [s2 126 (by decide)]; exact p5 k hk, s4⟩
theorem line5_both {qx qm : zM} (hX : zGX qx A hs sn tx) (hM : zGM qm A hs sn tx) (hk : zOK A hs sn tx) (hl : l < aL A) : ∃ (r : Int) (qx' qm' : zM), Ev_line qx (l : Int) 5 = some (r, qx') ∧ zGX qx' A hs sn tx ∧ zFX qx qx' ∧ Mo_line qm (l : Int) 5 = some (r, qm') ∧ zGM qm' A hs sn tx ∧ zFM qm qm' := by
  have hW := hk.1
  have wL := hW.2.2.2.2.2.1
  obtain ⟨q1, g1, a1, a2, a3, a4⟩ := Ls_countRows_eq hX.1 hW hl
  obtain ⟨q2, g2, b1, b2, b3, b4, b5⟩ := Mo_manyRows_eq hM.1 hW hl
  have ge : g1 0 = g2 0 := eqW_unique hW (sS_ok A l true true) a4 b5 (aB A) 0 (Nat.zero_add _)
  refine ⟨(g1 0 : Int), q1, q2, ?_, zGX_sk hX a2 a3, zFX_sk a2, ?_, zGM_cells hM (fun a ha => b2 a (by omega) (by omega) (by omega)) (b4 3 (by decide)) (b4 6 (by decide)), fun a ha => b2 a (by omega) (by omega) (by omega), b3⟩
  · unfold Ev_line
    rw [Po_has_in hX.1 hW hl, Option.bind_some, if_neg one_ne, if_neg (by decide), if_neg (by decide), if_neg (by decide), if_neg (by decide), if_neg (by decide), if_pos (by decide), a1]
    rfl
  · unfold Mo_line
    rw [Mo_noLine_eq hM.1 hW (by omega), Option.bind_some, if_pos (c := (0 : Int) ≤ (l : Int) ∧ (l : Int) < (aL A : Int)) (by omega), if_pos zero_eq, if_neg (by decide), if_neg (by decide), if_neg (by decide), if_neg (by decide), if_neg (by decide), if_pos (by decide), b1, ge]
    rfl
end RM

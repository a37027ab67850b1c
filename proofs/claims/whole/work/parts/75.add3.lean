/-! addWord: the reference -/
def qw (q : zM) (p : Nat) (g : Nat → Nat) (i : Nat) : zM := (fun a k => if a = 127 ∧ k = p then (pk4 g (min 4 i) : Int) else if a = 127 ∧ k = p + 1 then (pk4 (fun k => g (4 + k)) (i - 4) : Int) else q.1 a k, q.2)
theorem qw_at (q : zM) (p : Nat) (g : Nat → Nat) (i a k : Nat) : (qw q p g i).1 a k = if a = 127 ∧ k = p then (pk4 g (min 4 i) : Int) else if a = 127 ∧ k = p + 1 then (pk4 (fun k => g (4 + k)) (i - 4) : Int) else q.1 a k := rfl
theorem qw_zero (q : zM) (p : Nat) (g : Nat → Nat) : qs (qs q 127 p 0) 127 (p + 1) 0 = qw q p g 0 := by
  refine zM_ext (fun a k => ?_) (fun a k => rfl)
  rw [qs_at, qs_at, qw_at]
  by_cases h1 : a = 127 ∧ k = p
  · rw [if_neg (by omega), if_pos h1, if_pos h1]; rfl
  · rw [if_neg h1, if_neg h1]
    by_cases h2 : a = 127 ∧ k = p + 1
    · rw [if_pos h2, if_pos h2]; rfl
    · rw [if_neg h2, if_neg h2]
theorem por {f : Nat → Nat} {n : Nat} (hn : n < 4) (h : ∀ i, i ≤ n → f i ≤ 122) : wor (pk4 f n : Int) (wshl (f n : Int) ((8 * n : Nat) : Int)) = (pk4 f (n + 1) : Int) := by
  have h1 := h n (Nat.le_refl _)
  have h2 : (2 : Nat) ^ (8 * n) ≤ 2 ^ 24 := Nat.pow_le_pow_right (by decide) (by omega)
  have h3 : f n * 2 ^ (8 * n) ≤ 122 * 2 ^ 24 := Nat.mul_le_mul h1 h2
  have h4 := pk4_lt (f := f) (n := n) (fun i hi => by have := h i (by omega); omega)
  have h5 : pk4 f n ||| f n * 2 ^ (8 * n) = pk4 f (n + 1) := by
    rw [Nat.or_comm, Nat.mul_comm (f n), ← Nat.two_pow_add_eq_or_of_lt h4, Nat.mul_comm _ (f n), Nat.add_comm]
    rfl
  have h6 := pk4_lt31 (f := f) (n := n + 1) (by omega) (fun i hi => by have := h i (by omega); omega)
  rw [wshl_n _ _ (by omega) (by omega), wor_n _ _ (by rw [h5]; exact h6), h5]
theorem qw_step (q : zM) (p : Nat) {g : Nat → Nat} {i m : Nat} (hi : i < m) (hm : m ≤ 8) (hg : ∀ k, k < m → g k ≤ 122) : qs (qw q p g i) 127 (p + i / 4) (wor ((qw q p g i).1 127 (p + i / 4)) (wshl (g i : Int) ((8 * (i % 4) : Nat) : Int))) = qw q p g (i + 1) := by
  have hv : wor ((qw q p g i).1 127 (p + i / 4)) (wshl (g i : Int) ((8 * (i % 4) : Nat) : Int)) = if i < 4 then (pk4 g (i + 1) : Int) else (pk4 (fun k => g (4 + k)) (i + 1 - 4) : Int) := by
    rw [qw_at]
    by_cases c : i < 4
    · rw [if_pos (by omega), if_pos c, show min 4 i = i by omega, show i % 4 = i by omega, por c (fun k hk => hg k (by omega))]
    · have e := por (f := fun k => g (4 + k)) (n := i - 4) (by omega) (fun k hk => hg (4 + k) (by omega))
      rw [show 4 + (i - 4) = i by omega] at e
      rw [if_neg (by omega), if_pos (by omega), if_neg c, show i % 4 = i - 4 by omega, e, show i - 4 + 1 = i + 1 - 4 by omega]
  rw [hv]
  clear hv
  refine zM_ext (fun a k => ?_) (fun a k => rfl)
  rw [qs_at, qw_at, qw_at]
  by_cases c : i < 4
  · rw [if_pos c]
    by_cases h1 : a = 127 ∧ k = p
    · rw [if_pos (by omega), if_pos h1, show min 4 (i + 1) = i + 1 by omega]
    · rw [if_neg (by omega), if_neg h1, if_neg h1, show i - 4 = 0 by omega, show i + 1 - 4 = 0 by omega]
  · rw [if_neg c]
    by_cases h1 : a = 127 ∧ k = p
    · rw [if_neg (by omega), if_pos h1, if_pos h1, show min 4 i = 4 by omega, show min 4 (i + 1) = 4 by omega]
    · by_cases h2 : a = 127 ∧ k = p + 1
      · rw [if_pos (by omega), if_neg h1, if_pos h2]
      · rw [if_neg (by omega), if_neg h1, if_neg h2, if_neg h1, if_neg h2]
theorem or4 {m y s t : Nat} (hm : m < 16) (hy : y < 16) (hs : s < 16) (ht : t < 10) : wor (wor (wor (m : Int) (wshl (y : Int) (4 : Int))) (wshl (s : Int) (8 : Int))) (wshl (t : Int) (12 : Int)) = ((m + 16 * y + 256 * s + 4096 * t : Nat) : Int) := by
  have o1 : m ||| y * 2 ^ 4 = m + 16 * y := by
    rw [Nat.or_comm, Nat.mul_comm y, ← Nat.two_pow_add_eq_or_of_lt (by omega)]
    omega
  have o2 : (m + 16 * y) ||| s * 2 ^ 8 = m + 16 * y + 256 * s := by
    rw [Nat.or_comm, Nat.mul_comm s, ← Nat.two_pow_add_eq_or_of_lt (by omega)]
    omega
  have o3 : (m + 16 * y + 256 * s) ||| t * 2 ^ 12 = m + 16 * y + 256 * s + 4096 * t := by
    rw [Nat.or_comm, Nat.mul_comm t, ← Nat.two_pow_add_eq_or_of_lt (by omega)]
    omega
  rw [show (4 : Int) = ((4 : Nat) : Int) from rfl, show (8 : Int) = ((8 : Nat) : Int) from rfl, show (12 : Int) = ((12 : Nat) : Int) from rfl, wshl_n y 4 (by omega) (by omega), wshl_n s 8 (by omega) (by omega), wshl_n t 12 (by omega) (by omega), wor_n _ _ (by rw [o1]; omega), o1, wor_n _ _ (by rw [o2]; omega), o2, wor_n _ _ (by rw [o3]; omega), o3]
section AM
variable {q : zM} {A : zT9} {hs : List zT9} {sn : Nat → Option zT9} {tx : List Nat}
theorem add_L79 {p m : Nat} {g : Nat → Nat} (hp : p < 200) (hm : m ≤ 8) (hg : ∀ k, k < m → g k ≤ 122) (h9 : q.1 126 9 = m) (hc : ∀ k, k < m → q.1 133 k = g k) (v1 v2 : Int) (K : Int → zM → Option (Int × zM)) : Mo_addWord_L79 v1 v2 (p : Int) K 5000 0 (qw q p g 0) = K (m : Int) (qw q p g m) := by
  refine for_all (G := fun n i => Mo_addWord_L79 v1 v2 (p : Int) K n (i : Int) (qw q p g i)) (N := m) (by clear h9; omega) (fun n i hi => ?_) (fun n => ?_)
  · show Mo_addWord_L79 _ _ _ _ (n + 1) _ _ = Mo_addWord_L79 _ _ _ _ n ((i + 1 : Nat) : Int) _
    have e9 : (qw q p g i).1 126 9 = m := h9
    have ec : (qw q p g i).1 133 i = g i := hc i hi
    have e := qw_step q p hi hm hg
    clear h9 hc
    have i8 : i < 8 := Nat.lt_of_lt_of_le hi hm
    obtain ⟨d1, d2⟩ := wdiv4 ⟨i, i8⟩
    dsimp only at d1 d2
    have w1 : wrap ((p : Int) + ((i / 4 : Nat) : Int)) = ((p + i / 4 : Nat) : Int) := by
      rw [show ((p : Int) + ((i / 4 : Nat) : Int)) = ((p + i / 4 : Nat) : Int) by clear e9 ec e; omega]
      exact wrap_n (by clear e9 ec e; omega)
    have w2 : (0 : Int) ≤ ((p + i / 4 : Nat) : Int) ∧ ((p + i / 4 : Nat) : Int) < 244 := by clear e9 ec e; omega
    have w3 : wrap (i : Int) = i := wrap_n (by clear e9 ec e; omega)
    have w4 : (0 : Int) ≤ (i : Int) ∧ (i : Int) < 9 := by clear e9 ec e; omega
    have w5 : wrap (m : Int) = m := wrap_n (by clear e9 ec e; omega)
    have w6 : (i : Int) < (m : Int) := by clear e9 ec e; omega
    have w7 : (8 : Int) * ((i % 4 : Nat) : Int) = ((8 * (i % 4) : Nat) : Int) := by clear e9 ec e; omega
    rw [Mo_addWord_L79, e9, w3, w5, if_pos w6, d1, d2, w1, ck_in w2, ck_in w4, ck_in w2, Int.toNat_natCast, Int.toNat_natCast, ec, w7, e]
    rfl
  · show Mo_addWord_L79 _ _ _ _ (n + 1) _ _ = _
    have e9 : (qw q p g m).1 126 9 = m := h9
    rw [Mo_addWord_L79, e9, if_neg (Int.lt_irrefl _)]
theorem Mo_addWord_new {σ : zW} (h : zGM q A hs sn tx) (hk : zOK A hs sn tx) (hN : aN A < 40) (hI : wI σ) (hp2 : 2 ≤ σ.1) (hx : zWM q σ.2.1 σ.2.2.1 σ.2.2.2.1 σ.2.2.2.2.2) (h12 : q.1 126 12 = σ.2.2.2.2.1) (v1 : Int) : ∃ q', ((Mo_begin q ).bind fun r_7 => ck (wrap ((20 : Int) + ((3 : Int) * (r_7.1 127 0)))) 244 (Mo_addWord_b67 (qs r_7 127 (wrap ((20 : Int) + ((3 : Int) * (r_7.1 127 0)))).toNat (0 : Int)) v1 (r_7.1 127 0) ((20 : Int) + ((3 : Int) * (r_7.1 127 0))))) = some ((aN A : Int), q') ∧ zGM q' (aAdd A σ) (pushH hs A) sn tx ∧ zFM q q' := by
  have hW := hk.1
  have hg := h.1
  have hwf := aAdd_wf hW hN hI hp2
  obtain ⟨-, i2, i3, -, -, i6, i7, i8, i9⟩ := hI
  obtain ⟨-, -, i6⟩ := i6 hp2
  have s16 : σ.2.2.2.1 < 16 := Nat.lt_of_lt_of_le i6 (Nat.pow_le_pow_right (by decide) i3)
  generalize hm : σ.2.1 = m at *
  generalize hy : σ.2.2.1 = y at *
  generalize hs' : σ.2.2.2.1 = s at *
  generalize ht : σ.2.2.2.2.1 = t at *
  generalize hgg : σ.2.2.2.2.2 = g at *
  obtain ⟨y1, y2, y3, y4⟩ := hx
  have c127 : (qc q 127 0 128 0 244).1 127 0 = aN A := by rw [qc_at, if_neg (fun g => absurd g.1 (by decide))]; exact hg.1
  have k9 : (qc q 127 0 128 0 244).1 126 9 = m := by rw [qc_at, if_neg (fun g => absurd g.1 (by decide))]; exact y1
  have k10 : (qc q 127 0 128 0 244).1 126 10 = y := by rw [qc_at, if_neg (fun g => absurd g.1 (by decide))]; exact y2
  have k11 : (qc q 127 0 128 0 244).1 126 11 = s := by rw [qc_at, if_neg (fun g => absurd g.1 (by decide))]; exact y3
  have k12 : (qc q 127 0 128 0 244).1 126 12 = t := by rw [qc_at, if_neg (fun g => absurd g.1 (by decide))]; exact h12
  have k133 : ∀ k, k < m → (qc q 127 0 128 0 244).1 133 k = g k := fun k hk => by rw [qc_at, if_neg (fun g => absurd g.1 (by decide))]; exact y4 k hk
  have n1 : (20 : Int) + 3 * (aN A : Int) = ((20 + 3 * aN A : Nat) : Int) := by clear c127 k9 k10 k11 k12 y1 y2 y3 h12; omega
  have n2 : wrap ((20 + 3 * aN A : Nat) : Int) = ((20 + 3 * aN A : Nat) : Int) := wrap_n (by clear c127 k9 k10 k11 k12 y1 y2 y3 h12 n1; omega)
  have n3 : (0 : Int) ≤ ((20 + 3 * aN A : Nat) : Int) ∧ ((20 + 3 * aN A : Nat) : Int) < 244 := by clear c127 k9 k10 k11 k12 y1 y2 y3 h12 n1; omega
  have n4 : wrap (((20 + 3 * aN A : Nat) : Int) + 1) = ((20 + 3 * aN A + 1 : Nat) : Int) := wrap_n (n := 20 + 3 * aN A + 1) (by clear c127 k9 k10 k11 k12 y1 y2 y3 h12 n1; omega)
  have n5 : (0 : Int) ≤ ((20 + 3 * aN A + 1 : Nat) : Int) ∧ ((20 + 3 * aN A + 1 : Nat) : Int) < 244 := by clear c127 k9 k10 k11 k12 y1 y2 y3 h12 n1; omega
  have n6 : wrap (((20 + 3 * aN A : Nat) : Int) + 2) = ((20 + 3 * aN A + 2 : Nat) : Int) := wrap_n (n := 20 + 3 * aN A + 2) (by clear c127 k9 k10 k11 k12 y1 y2 y3 h12 n1; omega)
  have n7 : (0 : Int) ≤ ((20 + 3 * aN A + 2 : Nat) : Int) ∧ ((20 + 3 * aN A + 2 : Nat) : Int) < 244 := by clear c127 k9 k10 k11 k12 y1 y2 y3 h12 n1; omega
  have p200 : 20 + 3 * aN A < 200 := by clear c127 k9 k10 k11 k12 y1 y2 y3 h12 n1; omega
  have p140 : 20 + 3 * aN A + 2 < 140 := by clear c127 k9 k10 k11 k12 y1 y2 y3 h12 n1; omega
  have vv := or4 (m := m) (y := y) (s := s) (t := t) (by clear c127 k9 k10 k11 k12 y1 y2 y3 h12 n1; omega) (by clear c127 k9 k10 k11 k12 y1 y2 y3 h12 n1; omega) s16 (by clear c127 k9 k10 k11 k12 y1 y2 y3 h12 n1; omega)
  have lp := fun K v2 => add_L79 (q := qc q 127 0 128 0 244) (p := 20 + 3 * aN A) (m := m) (g := g) p200 i2 (fun k hk => (i9 k hk).2) k9 k133 v1 v2 K
  rw [Mo_begin_eq, Option.bind_some, c127, n1, n2, ck_in n3, Int.toNat_natCast]
  unfold Mo_addWord_b67 Mo_addWord_b76
  rw [n4, ck_in n5, Int.toNat_natCast, qw_zero, lp]
  have e0 : (qw (qc q 127 0 128 0 244) (20 + 3 * aN A) g m).1 127 0 = aN A := by rw [qw_at, if_neg (fun g => absurd g.2 (by clear c127 k9 k10 k11 k12 y1 y2 y3 h12 n1; omega)), if_neg (fun g => absurd g.2 (by clear c127 k9 k10 k11 k12 y1 y2 y3 h12 n1; omega))]; exact c127
  have e9 : (qw (qc q 127 0 128 0 244) (20 + 3 * aN A) g m).1 126 9 = m := k9
  have e10 : (qw (qc q 127 0 128 0 244) (20 + 3 * aN A) g m).1 126 10 = y := k10
  have e11 : (qw (qc q 127 0 128 0 244) (20 + 3 * aN A) g m).1 126 11 = s := k11
  have e12 : (qw (qc q 127 0 128 0 244) (20 + 3 * aN A) g m).1 126 12 = t := k12
  rw [n6, ck_in n7, Int.toNat_natCast, e9, e10, e11, e12, vv]
  unfold Mo_addWord_b158 Mo_addWord_b168
  have e00 : (qs (qw (qc q 127 0 128 0 244) (20 + 3 * aN A) g m) 127 (20 + 3 * aN A + 2) ((m + 16 * y + 256 * s + 4096 * t : Nat) : Int)).1 127 0 = aN A := by rw [qs_at, if_neg (fun g => absurd g.2 (by clear c127 k9 k10 k11 k12 y1 y2 y3 h12 n1 e0 e9 e10 e11 e12; omega))]; exact e0
  rw [e00]
  have hat : ∀ a k, (qs (qs (qw (qc q 127 0 128 0 244) (20 + 3 * aN A) g m) 127 (20 + 3 * aN A + 2) ((m + 16 * y + 256 * s + 4096 * t : Nat) : Int)) 127 0 ((aN A : Int) + 1)).1 a k = if a = 127 ∧ k = 0 then (aN A : Int) + 1 else if a = 127 ∧ k = 20 + 3 * aN A + 2 then ((m + 16 * y + 256 * s + 4096 * t : Nat) : Int) else if a = 127 ∧ k = 20 + 3 * aN A then (pk4 g (min 4 m) : Int) else if a = 127 ∧ k = 20 + 3 * aN A + 1 then (pk4 (fun k => g (4 + k)) (m - 4) : Int) else if a = 128 ∧ 0 ≤ k ∧ k < 0 + 244 then q.1 127 (0 + (k - 0)) else q.1 a k := fun a k => rfl
  have hat2 : (qs (qs (qw (qc q 127 0 128 0 244) (20 + 3 * aN A) g m) 127 (20 + 3 * aN A + 2) ((m + 16 * y + 256 * s + 4096 * t : Nat) : Int)) 127 0 ((aN A : Int) + 1)).2 = q.2 := rfl
  clear e00 e0 e9 e10 e11 e12 c127 k9 k10 k11 k12 k133 lp n1 n2 n4 n6 y1 y2 y3 y4 h12 vv
  generalize qs (qs (qw (qc q 127 0 128 0 244) (20 + 3 * aN A) g m) 127 (20 + 3 * aN A + 2) ((m + 16 * y + 256 * s + 4096 * t : Nat) : Int)) 127 0 ((aN A : Int) + 1) = q1 at hat hat2
  have row : ∀ k, k ≠ 0 → (k < 20 + 3 * aN A ∨ 20 + 3 * aN A + 2 < k) → q1.1 127 k = q.1 127 k := fun k h0 hk => by rw [hat, if_neg (by omega), if_neg (by omega), if_neg (by omega), if_neg (by omega), if_neg (by omega)]
  have oth : ∀ a, a ≠ 127 → a ≠ 128 → q1.1 a = q.1 a := fun a h1 h2 => funext fun k => by rw [hat, if_neg (by omega), if_neg (by omega), if_neg (by omega), if_neg (by omega), if_neg (by omega)]
  have sc : ∀ k, k < 244 → q1.1 128 k = q.1 127 k := fun k hk => by rw [hat, if_neg (by omega), if_neg (by omega), if_neg (by omega), if_neg (by omega), if_pos (by omega), Nat.sub_zero, Nat.zero_add]
  obtain ⟨m1, m2, m3, m4, m5, m6, m7, m8⟩ := hg
  have hL := hW.2.2.2.2.2.1
  have hrow : zRM (q1.1 127) (aAdd A σ) := by
    clear m1
    refine ⟨?_, (row 1 (by decide) (by omega)).trans m2, (row 2 (by decide) (by omega)).trans m3, (row 3 (by decide) (by omega)).trans m4, fun w hw => ?_, fun l hl => ?_, fun l hl => ?_, fun l k hl hk => ?_⟩
    · rw [hat, if_pos ⟨rfl, rfl⟩]; rfl
    · clear m2 m3 m4
      have hw : w < aN A + 1 := hw
      by_cases e : w = aN A
      · obtain ⟨a1, a2, a3, a4⟩ := aAdd_new (A := A) (σ := σ)
        rw [e, a1, a2, a3, a4, hm, hy, hs', ht, show 22 + 3 * aN A = 20 + 3 * aN A + 2 by omega, show 21 + 3 * aN A = 20 + 3 * aN A + 1 by omega]
        refine ⟨?_, ?_, ?_⟩
        · rw [hat, if_neg (by omega), if_pos ⟨rfl, rfl⟩]
          omega
        · rw [hat, if_neg (by omega), if_neg (by omega), if_pos ⟨rfl, rfl⟩]
          exact congrArg _ (pk4_cong (fun k hk => by rw [aAdd_lt (by omega), if_pos rfl, hgg]))
        · rw [hat, if_neg (by omega), if_neg (by omega), if_neg (by omega), if_pos ⟨rfl, rfl⟩]
          exact congrArg _ (pk4_cong (fun k hk => by rw [aAdd_lt (by omega), if_pos rfl, hgg]))
      · have hwn : w < aN A := by omega
        obtain ⟨a1, a2, a3, a4⟩ := aAdd_old (A := A) (σ := σ) hwn
        have h8 := (hW.2.2.2.2.2.2.1 w hwn).2.1
        obtain ⟨z1, z2, z3⟩ := m5 w hwn
        rw [a1, a2, a3, a4, row _ (by omega) (by omega), row _ (by omega) (by omega), row _ (by omega) (by omega)]
        refine ⟨z1, z2.trans ?_, z3.trans ?_⟩
        · exact congrArg _ (pk4_cong (fun k hk => by rw [aAdd_lt (by clear z1 z2 z3; omega), if_neg e]))
        · exact congrArg _ (pk4_cong (fun k hk => by rw [aAdd_lt (by clear z1 z2 z3; omega), if_neg e]))
    · clear m2 m3 m4
      have hl : l < aL A := hl
      rw [row _ (by omega) (by omega), row _ (by omega) (by omega)]
      exact m6 l hl
    · clear m2 m3 m4
      rw [row _ (by omega) (by omega)]
      exact m7 l hl
    · clear m2 m3 m4
      have hl : l < aL A := hl
      have hk : k < aSz A l := hk
      rw [row _ (by omega) (by omega)]
      exact m8 l k hl hk
  clear m1 m2 m3 m4
  obtain ⟨q', r1, r2, r3, r4⟩ := zGM_done h hk (q1 := q1) hwf hrow sc (by rw [oth 126 (by decide) (by decide)]) (by rw [oth 126 (by decide) (by decide)]) (fun a ha => oth a (by omega) (by omega)) (v := (aN A : Int)) (by omega)
  refine ⟨q', by rw [r1]; rfl, r2, fun a ha => ?_, r3.trans hat2⟩
  rw [r4 a ha, oth a (by omega) (by omega)]
theorem Mo_addWord_eq (h : zGM q A hs sn tx) (hk : zOK A hs sn tx) : ∃ q', Mo_addWord q = some ((awR A hs tx).1, q') ∧ zGM q' (awR A hs tx).2.1 (awR A hs tx).2.2 sn tx ∧ zFM q q' := by
  have hl := hk.2.2.2.2.1
  have hW := hk.1
  have hN := hW.1
  obtain ⟨r, q1, e0, f1, r1⟩ := Mo_wordFault_eq (tx := fun i => tx.getD i 0) hl (tx_rng hk) (q := q) ⟨h.2.1, h.2.2.1⟩
  have g1 : zGM q1 A hs sn tx := zGM_cells h (fun a ha => f1.1 a (by omega) (by omega)) (f1.2.2 3 (by decide)) (f1.2.2 6 (by decide))
  have x1 : zFM q q1 := ⟨fun a ha => f1.1 a (by omega) (by omega), f1.2.1⟩
  unfold Mo_addWord awR
  rw [e0, Option.bind_some]
  dsimp only
  rcases r1 with ⟨j, j1, j2, e1⟩ | ⟨σ, e2, e1, e3, e4⟩
  · rw [e1, j2, wrap_n (n := j) (by omega), if_neg (by omega)]
    exact ⟨q1, rfl, g1, x1⟩
  · obtain ⟨hI, hp⟩ := wres_I wI0 e1
    have hix := Mo_wordWith_eq g1.1 hW (m := σ.2.1) (g := σ.2.2.2.2.2) hI.2.1 e3.2.2.2 (fun k hk => by
      have := hI.2.2.2.2.2.2.2.2 k hk
      omega)
    have h9 : q1.1 126 9 = (σ.2.1 : Int) := e3.1
    have h0 : q1.1 127 0 = aN A := g1.1.1
    rw [e1, e2, if_pos (by decide), h9, hix, Option.bind_some]
    dsimp only
    by_cases c1 : fstTo (isW A σ.2.1 σ.2.2.2.2.2) (aN A) < aN A
    · rw [if_pos c1, if_pos c1, wrap_n (by clear h0 h9; omega), if_neg (by clear h0 h9; omega)]
      exact ⟨q1, rfl, g1, x1⟩
    · rw [if_neg c1, if_neg c1, if_pos (by decide), h0]
      clear h0 h9
      rw [wrap_n (n := aN A) (by omega)]
      by_cases c2 : aN A = 40
      · rw [if_pos (c := (aN A : Int) = 40) (by omega), if_pos c2]
        exact ⟨q1, rfl, g1, x1⟩
      · rw [if_neg (c := (aN A : Int) = 40) (by omega), if_neg c2]
        obtain ⟨q', s1, s2, s3⟩ := Mo_addWord_new g1 hk (by omega) hI (by omega) e3 e4 (-5)
        exact ⟨q', s1, s2, fun a ha => (s3.1 a ha).trans (x1.1 a ha), s3.2.trans x1.2⟩
end AM

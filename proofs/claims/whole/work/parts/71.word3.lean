/-! addWord: the reference reads the word -/
/-- the reference's cells hold letters, syllables, stresses -/
def zWM (q : zM) (m y s : Nat) (g : Nat → Nat) : Prop := q.1 126 9 = m ∧ q.1 126 10 = y ∧ q.1 126 11 = s ∧ ∀ k, k < m → q.1 133 k = g k
def zFR (q q' : zM) : Prop := (∀ a, a ≠ 126 → a ≠ 133 → q'.1 a = q.1 a) ∧ q'.2 = q.2 ∧ ∀ k, k < 9 → q'.1 126 k = q.1 126 k
theorem zFR_refl (q : zM) : zFR q q := ⟨fun _ _ _ => rfl, rfl, fun _ _ => rfl⟩
theorem zFR_trans {q q1 q2 : zM} (h1 : zFR q q1) (h2 : zFR q1 q2) : zFR q q2 := ⟨fun a ha hb => (h2.1 a ha hb).trans (h1.1 a ha hb), h2.2.1.trans h1.2.1, fun k hk => (h2.2.2 k hk).trans (h1.2.2 k hk)⟩
/-- the reference's text -/
def zTM (q : zM) (tx : Nat → Nat) (len : Nat) : Prop := q.1 126 6 = len ∧ ∀ i, i < len → q.1 132 i = tx i
theorem zTM_fr {q q' : zM} {tx : Nat → Nat} {len : Nat} (hf : zFR q q') (h : zTM q tx len) : zTM q' tx len := ⟨by rw [hf.2.2 6 (by omega)]; exact h.1, fun i hi => by rw [hf.1 132 (by omega) (by omega)]; exact h.2 i hi⟩
section WM
variable {tx : Nat → Nat} {len : Nat}
theorem Mo_character_eq {q : zM} (ht : zTM q tx len) (hl : len ≤ 40) (i : Nat) (hi : i < 2000000) : Mo_character q (i : Int) = some (if i < len then (tx i : Int) else -5) := by
  have h1 := ht.1
  unfold Mo_character
  rw [h1]
  clear h1
  rw [wrap_n (n := i) (by omega), wrap_n (n := len) (by omega)]
  by_cases c : i < len
  · rw [if_pos (by omega), ck_in (by omega), Int.toNat_natCast, ht.2 i c, if_pos c]
  · rw [if_neg (by omega), if_neg c]
theorem Mo_isLetter_none {q : zM} : Mo_isLetter q (-5) = some 0 := by
  unfold Mo_isLetter
  rw [Mo_in_eq (by decide) (by decide) (by decide)]
  rfl
/-- the letters from an index on, as many as are taken -/
theorem syl_L32 (hl : len ≤ 40) (hr : ∀ i, tx i < 65536) (v1 v3 : Int) (K : Int → zM → Option (Int × zM)) : ∀ (d i n : Nat) (q : zM) (m y s : Nat) (g : Nat → Nat), i + d = len → d < n → m ≤ 8 → (∀ k, k < m → 97 ≤ g k ∧ g k ≤ 122) → zTM q tx len → zWM q m y s g → ∃ (j m' : Nat) (g' : Nat → Nat) (q' : zM), Mo_syllable_L32 v1 v3 K n (i : Int) q = K (j : Int) q' ∧ zFR q q' ∧ zWM q' m' y s g' ∧ i ≤ j ∧ j ≤ len ∧ m' = m + (j - i) ∧ m' ≤ 8 ∧ ¬ (j < len ∧ isLt (tx j) = true ∧ m' < 8) ∧ (i < j → isLt (tx i) = true ∧ m < 8) ∧ q'.1 126 12 = q.1 126 12 ∧ (∀ k, k < m' → 97 ≤ g' k ∧ g' k ≤ 122) ∧ ∀ y2 s2 t2, wres tx len i (2, m, y2, s2, t2, g) = wres tx len j (2, m', y2, s2, t2, g') := by
  intro d
  induction d with
  | zero =>
    intro i n q m y s g hi hn hm hg ht hx
    obtain ⟨n, rfl⟩ : ∃ m, n = m + 1 := ⟨n - 1, by omega⟩
    refine ⟨i, m, g, q, ?_, zFR_refl q, hx, Nat.le_refl _, by omega, by omega, hm, fun h => by omega, fun h => absurd h (Nat.lt_irrefl _), rfl, hg, fun _ _ _ => rfl⟩
    rw [Mo_syllable_L32, Mo_character_eq ht hl i (by omega), if_neg (c := i < len) (by omega), Option.bind_some, Mo_isLetter_none, Option.bind_some, if_pos zero_eq]
  | succ d ih =>
    intro i n q m y s g hi hn hm hg ht hx
    obtain ⟨n, rfl⟩ : ∃ m, n = m + 1 := ⟨n - 1, by omega⟩
    rw [Mo_syllable_L32, Mo_character_eq ht hl i (by omega), if_pos (c := i < len) (by omega), Option.bind_some, Mo_isLetter_eq (hr i), Option.bind_some]
    by_cases c : isLt (tx i) = true
    · rw [if_pos c, if_neg one_ne]
      obtain ⟨x1, x2, x3, x4⟩ := hx
      rw [x1, wrap_n (n := m) (by omega)]
      by_cases c8 : m < 8
      · rw [if_pos (c := (m : Int) < 8) (by omega), Option.bind_some, ck_in (by omega), Int.toNat_natCast]
        have e9 : (qs q 133 m (tx i : Int)).1 126 9 = m := by rw [qs_at, if_neg (by omega)]; exact x1
        rw [e9]
        have f1 : zFR q (qs (qs q 133 m (tx i : Int)) 126 9 ((m : Int) + 1)) := ⟨fun a h1 h2 => funext fun k => by rw [qs_at, if_neg (by omega), qs_at, if_neg (by omega)], rfl, fun k hk => by rw [qs_at, if_neg (by omega), qs_at, if_neg (by omega)]⟩
        have w1 : zWM (qs (qs q 133 m (tx i : Int)) 126 9 ((m : Int) + 1)) (m + 1) y s (upG g m (tx i)) := by
          refine ⟨by rw [qs_at, if_pos ⟨rfl, rfl⟩]; omega, by rw [qs_at, if_neg (by omega), qs_at, if_neg (by omega)]; exact x2, by rw [qs_at, if_neg (by omega), qs_at, if_neg (by omega)]; exact x3, fun k hk => ?_⟩
          rw [qs_at, if_neg (by omega), qs_at]
          unfold upG
          by_cases e : k = m
          · rw [if_pos ⟨rfl, e⟩, if_pos e]
          · rw [if_neg (by omega), if_neg e]; exact x4 k (by omega)
        have e12 : (qs (qs q 133 m (tx i : Int)) 126 9 ((m : Int) + 1)).1 126 12 = q.1 126 12 := by rw [qs_at, if_neg (by omega), qs_at, if_neg (by omega)]
        have hg2 : ∀ k, k < m + 1 → 97 ≤ upG g m (tx i) k ∧ upG g m (tx i) k ≤ 122 := fun k hk => by
          unfold upG
          by_cases e : k = m
          · rw [if_pos e]; exact isLt_iff.mp c
          · rw [if_neg e]; exact hg k (by omega)
        obtain ⟨j, m', g', q', r1, r2, r3, r4, r5, r6, r7, r8, r9, r10, r12, r11⟩ := ih (i + 1) n _ (m + 1) y s (upG g m (tx i)) (by omega) (by omega) (by omega) hg2 (zTM_fr f1 ht) w1
        refine ⟨j, m', g', q', ?_, zFR_trans f1 r2, r3, by omega, r5, by omega, r7, r8, fun _ => ⟨c, c8⟩, r10.trans e12, r12, fun y2 s2 t2 => ?_⟩
        · rw [← r1]; rfl
        · rw [← r11 y2 s2 t2]
          refine wres_step (by omega) ?_
          unfold wst
          rw [if_neg (by omega), if_neg (by omega), if_pos rfl, if_pos ⟨c, c8⟩]
          unfold wLet
          rw [if_pos ⟨c, c8⟩, if_pos rfl]
      · rw [if_neg (c := (m : Int) < 8) (by omega)]
        exact ⟨i, m, g, q, rfl, zFR_refl q, ⟨x1, x2, x3, x4⟩, Nat.le_refl _, by omega, by omega, hm, fun h => c8 h.2.2, fun h => absurd h (Nat.lt_irrefl _), rfl, hg, fun _ _ _ => rfl⟩
    · rw [if_neg c, if_pos zero_eq]
      exact ⟨i, m, g, q, rfl, zFR_refl q, hx, Nat.le_refl _, by omega, by omega, hm, fun h => c h.2.1, fun h => absurd h (Nat.lt_irrefl _), rfl, hg, fun _ _ _ => rfl⟩
/-- behind the letters: a syllable, or its fault -/
theorem syl_tail (hl : len ≤ 40) {start p m y s t : Nat} {g : Nat → Nat} {q1 : zM} (v1 : Int) (hr : ∀ i, tx i < 65536) (hs : start ≤ len) (hp : p = 0 ∨ p = 1) (hI : wI (p, m, y, s, t, g)) (ht : zTM q1 tx len) (hx : zWM q1 m y s g) (hap : p = 0 → ¬ (start < len ∧ tx start = 39)) : ∃ (r : Int) (q' : zM), Mo_syllable_L32 v1 (start : Int) (fun v2 q => Mo_syllable_b92 (qs q 126 10 ((q.1 126 10) + (1 : Int))) v1 v2 (start : Int)) 5000 (start : Int) q1 = some (r, q') ∧ zFR q1 q' ∧ q'.1 126 12 = q1.1 126 12 ∧ ((∃ j : Nat, j ≤ len ∧ r = -1 - (j : Int) ∧ wres tx len start (p, m, y, s, t, g) = .inl j) ∨ ∃ (j m' : Nat) (g' : Nat → Nat), r = (j : Int) ∧ start < j ∧ j ≤ len ∧ zWM q' m' (y + 1) s g' ∧ wI (2, m', y + 1, s, t, g') ∧ ¬ (j < len ∧ isLt (tx j) = true ∧ m' < 8) ∧ wres tx len start (p, m, y, s, t, g) = wres tx len j (2, m', y + 1, s, t, g')) := by
  have hI0 := hI
  obtain ⟨h1, h2, h3, h4, h5, h6, h7, h8, h9⟩ := hI
  dsimp only at h1 h2 h3 h4 h5 h6 h7 h8 h9
  obtain ⟨j, m', g', q', r1, r2, r3, r4, r5, r6, r7, r8, r9, r10, r12, r11⟩ := syl_L32 hl hr v1 (start : Int) (fun v2 q => Mo_syllable_b92 (qs q 126 10 ((q.1 126 10) + (1 : Int))) v1 v2 (start : Int)) (len - start) start 5000 q1 m y s g (by omega) (by omega) h2 h9 ht hx
  rw [r1]
  obtain ⟨x1, x2, x3, x4⟩ := r3
  have f1 : zFR q' (qs q' 126 10 ((q'.1 126 10) + (1 : Int))) := ⟨fun a h1 h2 => funext fun k => by rw [qs_at, if_neg (by omega)], rfl, fun k hk => by rw [qs_at, if_neg (by omega)]⟩
  unfold Mo_syllable_b92
  rw [wrap_n (n := j) (by omega), wrap_n (n := start) (by omega)]
  by_cases c : j = start
  · rw [if_pos (by omega)]
    refine ⟨_, _, rfl, zFR_trans r2 f1, by rw [qs_at, if_neg (by omega)]; exact r10, Or.inl ⟨j, r5, rfl, ?_⟩⟩
    subst c
    have e : m' = m := by omega
    by_cases cl : j < len
    · have nl : ¬ (isLt (tx j) = true ∧ m < 8) := fun g => r8 ⟨cl, g.1, by omega⟩
      refine wres_bad cl ?_
      unfold wst
      rcases hp with rfl | rfl
      · rw [if_pos rfl, if_neg (fun g => hap rfl ⟨cl, g⟩)]
        unfold wLet
        rw [if_neg nl]
      · rw [if_neg (by omega), if_pos rfl]
        unfold wLet
        rw [if_neg nl]
    · have e2 : j = len := by omega
      subst e2
      rw [wres_end, if_neg]
      show ¬ (p = 2 ∨ p = 4)
      omega
  · rw [if_neg (by omega)]
    obtain ⟨l1, l2⟩ := r9 (by omega)
    have hw : wres tx len start (p, m, y, s, t, g) = wres tx len j (2, m', y + 1, s, t, g') := by
      rw [← r11 (y + 1) s t]
      have wl : ∀ p', p' = 0 ∨ p' = 1 → wLet p' m y s t g (tx start) = some (2, m + 1, y + 1, s, t, upG g m (tx start)) := fun p' hp' => by
        unfold wLet
        rw [if_pos ⟨l1, l2⟩, if_neg (by omega)]
      rw [wres_step (i := start) (p := 2) (σ' := (2, m + 1, y + 1, s, t, upG g m (tx start))) (by omega) (by
        unfold wst
        rw [if_neg (by omega), if_neg (by omega), if_pos rfl, if_pos ⟨l1, l2⟩]
        unfold wLet
        rw [if_pos ⟨l1, l2⟩, if_pos rfl])]
      refine wres_step (by omega) ?_
      unfold wst
      rcases hp with rfl | rfl
      · rw [if_pos rfl, if_neg (fun g => hap rfl ⟨by omega, g⟩)]
        exact wl 0 (Or.inl rfl)
      · rw [if_neg (by omega), if_pos rfl]
        exact wl 1 (Or.inr rfl)
    refine ⟨_, _, rfl, zFR_trans r2 f1, by rw [qs_at, if_neg (by omega)]; exact r10, Or.inr ⟨j, m', g', rfl, by omega, r5, ⟨by rw [qs_at, if_neg (by omega)]; exact x1, ?_, by rw [qs_at, if_neg (by omega)]; exact x3, fun k hk => by rw [qs_at, if_neg (by omega)]; exact x4 k hk⟩, ?_, r8, hw⟩⟩
    · rw [qs_at, if_pos ⟨rfl, rfl⟩, x2]; omega
    · have hsy : y ≤ 3 ∧ s < 2 ^ (y + 1) := by
        rcases hp with e | e
        · obtain ⟨a, b⟩ := h4 e
          have := pow_y (y := y)
          exact ⟨a, by omega⟩
        · exact h5 e
      exact wI_mk (by decide) r7 (by omega) (fun g => absurd g (by decide)) (fun g => absurd g (by decide)) (fun _ => ⟨by omega, Nat.succ_le_succ (Nat.zero_le _), hsy.2⟩) h7 h8 r12
theorem Mo_syllable_eq (hl : len ≤ 40) (hr : ∀ i, tx i < 65536) {i m y s t : Nat} {g : Nat → Nat} {q : zM} (hi : i ≤ len) (hI : wI (0, m, y, s, t, g)) (ht : zTM q tx len) (hx : zWM q m y s g) : ∃ (r : Int) (q' : zM), Mo_syllable q (i : Int) = some (r, q') ∧ zFR q q' ∧ q'.1 126 12 = q.1 126 12 ∧ ((∃ j : Nat, j ≤ len ∧ r = -1 - (j : Int) ∧ wres tx len i (0, m, y, s, t, g) = .inl j) ∨ ∃ (j m' s' : Nat) (g' : Nat → Nat), r = (j : Int) ∧ i < j ∧ j ≤ len ∧ zWM q' m' (y + 1) s' g' ∧ wI (2, m', y + 1, s', t, g') ∧ ¬ (j < len ∧ isLt (tx j) = true ∧ m' < 8) ∧ wres tx len i (0, m, y, s, t, g) = wres tx len j (2, m', y + 1, s', t, g')) := by
  unfold Mo_syllable
  rw [Mo_character_eq ht hl i (by omega), Option.bind_some]
  by_cases c : i < len ∧ tx i = 39
  · have hst : wst 0 m y s t g (tx i) = some (1, m, y, s + 2 ^ y, t, g) := by
      unfold wst
      rw [if_pos rfl, if_pos c.2]
    have hI1 := wst_I hI hst
    obtain ⟨-, -, h3, h4, -⟩ := hI
    dsimp only at h3 h4
    obtain ⟨x1, x2, x3, x4⟩ := hx
    obtain ⟨a, b⟩ := h4 rfl
    rw [if_pos c.1, c.2, if_pos (by decide), x3, x2, wor_bit b h3]
    unfold Mo_syllable_b27
    have f1 : zFR q (qs q 126 11 ((s + 2 ^ y : Nat) : Int)) := ⟨fun a h1 h2 => funext fun k => by rw [qs_at, if_neg (by omega)], rfl, fun k hk => by rw [qs_at, if_neg (by omega)]⟩
    have w1 : zWM (qs q 126 11 ((s + 2 ^ y : Nat) : Int)) m y (s + 2 ^ y) g := ⟨by rw [qs_at, if_neg (by omega)]; exact x1, by rw [qs_at, if_neg (by omega)]; exact x2, by rw [qs_at, if_pos ⟨rfl, rfl⟩], fun k hk => by rw [qs_at, if_neg (by omega)]; exact x4 k hk⟩
    have e12 : (qs q 126 11 ((s + 2 ^ y : Nat) : Int)).1 126 12 = q.1 126 12 := by rw [qs_at, if_neg (by omega)]
    obtain ⟨r, q', r1, r2, r3, r4⟩ := syl_tail (start := i + 1) (p := 1) (t := t) hl (i : Int) hr (by omega) (Or.inr rfl) hI1 (zTM_fr f1 ht) w1 (fun h => by cases h)
    refine ⟨r, q', r1, zFR_trans f1 r2, r3.trans e12, ?_⟩
    have ws : wres tx len i (0, m, y, s, t, g) = wres tx len (i + 1) (1, m, y, s + 2 ^ y, t, g) := wres_step c.1 hst
    rcases r4 with ⟨j, j1, j2, j3⟩ | ⟨j, m', g', j1, j2, j3, j4, j5, j6, j7⟩
    · exact Or.inl ⟨j, j1, j2, ws.trans j3⟩
    · exact Or.inr ⟨j, m', s + 2 ^ y, g', j1, by omega, j3, j4, j5, j6, ws.trans j7⟩
  · rw [if_neg (c := wrap (if i < len then (tx i : Int) else -5) = 39) (fun h => by
      by_cases c1 : i < len
      · rw [if_pos c1] at h
        have := hr i
        rw [wrap_n (by omega)] at h
        exact c ⟨c1, by omega⟩
      · rw [if_neg c1] at h
        exact absurd h (by decide))]
    obtain ⟨r, q', r1, r2, r3, r4⟩ := syl_tail (start := i) (p := 0) (t := t) hl (i : Int) hr hi (Or.inl rfl) hI ht hx (fun _ => c)
    refine ⟨r, q', r1, r2, r3, ?_⟩
    rcases r4 with ⟨j, j1, j2, j3⟩ | ⟨j, m', g', j1, j2, j3, j4, j5, j6, j7⟩
    · exact Or.inl ⟨j, j1, j2, j3⟩
    · exact Or.inr ⟨j, m', s, g', j1, j2, j3, j4, j5, j6, j7⟩
end WM

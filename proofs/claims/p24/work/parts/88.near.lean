/-! nearMiss -/
section NM
variable {q : zM} {A : zT9} {hs : List zT9} {sn : Nat → Option zT9} {tx : List Nat} {l : Nat}
theorem ar_nm {n p : Nat} (hn : n ≤ 12) (hp : p < 2147483648) : wrap (p : Int) = p ∧ wrap (n : Int) = n ∧ ((p : Int) < (n : Int) ↔ p < n) ∧ ¬ (p : Int) < 0 ∧ (p < n → (p : Int) < 12 ∧ ((0 : Int) ≤ (p : Int) ∧ (p : Int) < 12)) := ⟨wrap_n hp, wrap_n (by omega), by omega, by omega, fun h => by omega⟩
theorem wordIn_114 {n p : Nat} (h5 : q.1 114 5 = n) (hn : n ≤ 12) (hp : p < 2147483648) : Ls_wordIn_114 q (p : Int) = some (if p < n then q.1 119 p else -1) := by
  obtain ⟨a1, a2, a3, a4, a5⟩ := ar_nm hn hp
  unfold Ls_wordIn_114
  rw [h5, a1, a2, if_neg a4]
  by_cases c : p < n
  · rw [if_pos (a3.mpr c), if_pos (a5 c).1, ck_in (a5 c).2, Int.toNat_natCast, if_pos c]
  · rw [if_neg (fun h => c (a3.mp h)), if_neg c]
theorem wordIn_120 {n p : Nat} (h5 : q.1 120 5 = n) (hn : n ≤ 12) (hp : p < 2147483648) : Ls_wordIn_120 q (p : Int) = some (if p < n then q.1 125 p else -1) := by
  obtain ⟨a1, a2, a3, a4, a5⟩ := ar_nm hn hp
  unfold Ls_wordIn_120
  rw [h5, a1, a2, if_neg a4]
  by_cases c : p < n
  · rw [if_pos (a3.mpr c), if_pos (a5 c).1, ck_in (a5 c).2, Int.toNat_natCast, if_pos c]
  · rw [if_neg (fun h => c (a3.mp h)), if_neg c]
/-- the class's end of nearMiss(), both searches done -/
def nrX (q : zM) (v2 : Int) : Option (Int × zM) := (Ls_comesBefore q ).bind fun r_6 => if wrap r_6 = (0 : Int) then (Ls_size_114 q ).bind fun r_8 => if wrap v2 < wrap r_8 then (Ls_wordIn_114 q v2).bind fun r_10 => some (r_10, q) else some ((-5 : Int), q) else (Ls_size_120 q ).bind fun r_11 => if wrap v2 < wrap r_11 then (Ls_wordIn_120 q v2).bind fun r_13 => some (r_13, q) else some ((-5 : Int), q)
theorem nrX_1 {n p : Nat} (hc : Ls_comesBefore q = some 0) (h5 : q.1 114 5 = n) (hn : n ≤ 12) (hp : p < 2147483648) : nrX q (p : Int) = some (if p < n then q.1 119 p else -5, q) := by
  have hw := wordIn_114 h5 hn hp
  obtain ⟨a1, a2, a3, a4, a5⟩ := ar_nm hn hp
  unfold nrX Ls_size_114
  rw [hc, Option.bind_some, if_pos zero_eq, Option.bind_some, h5, a1, a2]
  by_cases c : p < n
  · rw [if_pos (a3.mpr c), hw, Option.bind_some, if_pos c, if_pos c]
  · rw [if_neg (fun h => c (a3.mp h)), if_neg c]
theorem nrX_2 {n p : Nat} (hc : Ls_comesBefore q = some 1) (h5 : q.1 120 5 = n) (hn : n ≤ 12) (hp : p < 2147483648) : nrX q (p : Int) = some (if p < n then q.1 125 p else -5, q) := by
  have hw := wordIn_120 h5 hn hp
  obtain ⟨a1, a2, a3, a4, a5⟩ := ar_nm hn hp
  unfold nrX Ls_size_120
  rw [hc, Option.bind_some, if_neg one_ne, Option.bind_some, h5, a1, a2]
  by_cases c : p < n
  · rw [if_pos (a3.mpr c), hw, Option.bind_some, if_pos c, if_pos c]
  · rw [if_neg (fun h => c (a3.mp h)), if_neg c]
theorem before_ne {c1 c2 : Nat} (h1 : q.1 116 0 = c1) (h2 : q.1 122 0 = c2) (b1 : c1 ≤ 1000000) (b2 : c2 ≤ 1000000) (hne : c1 ≠ c2) : Ls_comesBefore q = some (if c2 < c1 then 1 else 0) := by
  unfold Ls_comesBefore
  rw [h1, h2]
  clear h1 h2
  rw [wrap_n (n := c1) (by omega), wrap_n (n := c2) (by omega), if_neg (by omega)]
  by_cases c : c2 < c1
  · rw [if_pos (by omega), if_pos c]
  · rw [if_neg (by omega), if_neg c]
theorem before_eq {c n1 n2 : Nat} {x1 x2 : Int} (h1 : q.1 116 0 = c) (h2 : q.1 122 0 = c) (k1 : q.1 114 5 = n1) (k2 : q.1 120 5 = n2) (b1 : n1 ≤ 12) (b2 : n2 ≤ 12) (e1 : (if 0 < n1 then q.1 119 0 else -1) = x1) (e2 : (if 0 < n2 then q.1 125 0 else -1) = x2) (r1 : -2147483648 ≤ x1 ∧ x1 < 2147483648) (r2 : -2147483648 ≤ x2 ∧ x2 < 2147483648) : Ls_comesBefore q = some (if x2 < x1 then 1 else 0) := by
  have hw1 := wordIn_114 (p := 0) k1 b1 (by decide)
  have hw2 := wordIn_120 (p := 0) k2 b2 (by decide)
  have hw1 : Ls_wordIn_114 q 0 = some (if 0 < n1 then q.1 119 0 else -1) := hw1
  have hw2 : Ls_wordIn_120 q 0 = some (if 0 < n2 then q.1 125 0 else -1) := hw2
  unfold Ls_comesBefore
  rw [h1, h2, if_pos rfl, hw1, hw2, e1, e2, Option.bind_some, Option.bind_some, wrap_eq r1, wrap_eq r2]
  by_cases c : x2 < x1
  · rw [if_pos c, if_pos c]
  · rw [if_neg c, if_neg c]
/-- what nearMiss() answers -/
def nrR (A : zT9) (l p : Nat) : Int → Prop := fun r =>
  ((∀ n e, gG A (sS A l true false) n 0 e = false) ∧ (∀ n e, gG A (sS A l false true) n 0 e = false) ∧ r = -5) ∨
  (∃ n e, gM A (sS A l true false) n 0 e ∧ (∀ n' e', gM A (sS A l false true) n' 0 e' → 13 * e + n < 13 * e' + n' ∨ (13 * e + n = 13 * e' + n' ∧ rW A (sS A l true false) n e 0 < rW A (sS A l false true) n' e' 0)) ∧ r = if p < n then (rW A (sS A l true false) n e p : Int) else -5) ∨
  (∃ n e, gM A (sS A l false true) n 0 e ∧ (∀ n' e', gM A (sS A l true false) n' 0 e' → 13 * e + n < 13 * e' + n' ∨ (13 * e + n = 13 * e' + n' ∧ rW A (sS A l false true) n e 0 < rW A (sS A l true false) n' e' 0)) ∧ r = if p < n then (rW A (sS A l false true) n e p : Int) else -5)
theorem nrR_det (hW : zWF A) {p : Nat} {r r' : Int} (h : nrR A l p r) (h' : nrR A l p r') : r = r' := by
  rcases h with ⟨a1, a2, a3⟩ | ⟨n, e, a1, a2, a3⟩ | ⟨n, e, a1, a2, a3⟩
  · rcases h' with ⟨b1, b2, b3⟩ | ⟨n', e', b1, b2, b3⟩ | ⟨n', e', b1, b2, b3⟩
    · exact a3.trans b3.symm
    · have := b1.1
      rw [a1] at this
      cases this
    · have := b1.1
      rw [a2] at this
      cases this
  · rcases h' with ⟨b1, b2, b3⟩ | ⟨n', e', b1, b2, b3⟩ | ⟨n', e', b1, b2, b3⟩
    · have := a1.1
      rw [b1] at this
      cases this
    · obtain ⟨u1, u2⟩ := gM_unique hW (sS_ok A l true false) a1 b1
      subst u1
      subst u2
      exact a3.trans b3.symm
    · have c1 := a2 _ _ b1
      have c2 := b2 _ _ a1
      omega
  · rcases h' with ⟨b1, b2, b3⟩ | ⟨n', e', b1, b2, b3⟩ | ⟨n', e', b1, b2, b3⟩
    · have := a1.1
      rw [b2] at this
      cases this
    · have c1 := a2 _ _ b1
      have c2 := b2 _ _ a1
      omega
    · obtain ⟨u1, u2⟩ := gM_unique hW (sS_ok A l false true) a1 b1
      subst u1
      subst u2
      exact a3.trans b3.symm
/-- the first words of the two searches differ -/
theorem near_diff (hW : zWF A) {n e n' e' : Nat} (h1 : gM A (sS A l true false) n 0 e) (h2 : gM A (sS A l false true) n' 0 e') : rW A (sS A l true false) n e 0 ≠ rW A (sS A l false true) n' e' 0 := by
  have w1 := (rW_ok hW (sS_ok A l true false) h1 (gM_pos hW h1)).2.1
  have w2 := (rW_ok hW (sS_ok A l false true) h2 (gM_pos hW h2)).2.1
  intro h
  rw [h] at w1
  have w1 : sS A l true false (rW A (sS A l false true) n' e' 0) 0 = true := w1
  have w2 : sS A l false true (rW A (sS A l false true) n' e' 0) 0 = true := w2
  generalize rW A (sS A l false true) n' e' 0 = w at w1 w2
  unfold sS at w1 w2
  rw [Bool.and_eq_true, Bool.and_eq_true, Bool.and_eq_true] at w1 w2
  have d1 := w1.1.2
  have d2 := w2.1.2
  by_cases c : aLt A w 0 = aFe A l
  · rw [decide_eq_true c] at d2
    simp at d2
  · rw [decide_eq_false c] at d1
    simp at d1
theorem Ev_near (h : zGX q A hs sn tx) (hk : zOK A hs sn tx) (hl : l < aL A) {p : Nat} (hp : p < 2147483648) : ∃ (r : Int) (q' : zM), Ev_nearMiss q (l : Int) (p : Int) = some (r, q') ∧ zGX q' A hs sn tx ∧ zFX q q' ∧ nrR A l p r := by
  have hW := hk.1
  have wB := hW.2.2.1
  have wN := hW.1
  obtain ⟨f1, q1, s1, s2, s3, s4⟩ := seek_114 h.1 hW hl true false
  have s1 : Ls_seek_114_5 q (l : Int) 1 0 = some (zb f1, q1) := s1
  have g1 := zGX_sk h s2 s3
  obtain ⟨f2, q2, t1, t2, t3, t4⟩ := seek_120 g1.1 hW hl false true
  have t1 : Ls_seek_120_5 q1 (l : Int) 0 1 = some (zb f2, q2) := t1
  have g2 : zGX q2 A hs sn tx := zGX_cells g1 (fun a h3 _ => ⟨t2 a (Or.inl (Nat.lt_trans h3 (by decide))), by rw [t3]⟩)
  have fx : zFX q q2 := fun a ha => (t2 a (Or.inr (Nat.lt_of_lt_of_le (by decide) ha))).trans (s2 a (Or.inr (Nat.lt_of_lt_of_le (by decide) ha)))
  have hx1 : zXR_114 q2 A (sS A l true false) f1 := by
    unfold zXR_114
    rw [t2 116 (Or.inl (by decide)), t2 114 (Or.inl (by decide)), t2 119 (Or.inl (by decide))]
    exact s4
  have e0 : Ev_nearMiss q (l : Int) (p : Int) = nrX q2 (p : Int) := by
    have hnn : ¬ wrap (p : Int) < 0 := by
      rw [wrap_n hp]
      omega
    unfold Ev_nearMiss nrX
    rw [Po_has_in h.1 hW hl, Option.bind_some, if_neg one_ne, if_neg hnn, s1, Option.bind_some]
    dsimp only
    rw [t1, Option.bind_some]
  rw [e0]
  clear e0 s1 t1 s4
  rcases hx1 with ⟨-, a2, a3, a4⟩ | ⟨-, n, e, a1, a2, a3, a4⟩
  · rcases t4 with ⟨-, b2, b3, b4⟩ | ⟨-, n', e', b1, b2, b3, b4⟩
    · have hb := before_eq (c := 1000000) (n1 := 0) (n2 := 0) (x1 := -1) (x2 := -1) a2 b2 a3 b3 (by decide) (by decide) rfl rfl (by decide) (by decide)
      exact ⟨-5, q2, nrX_1 (n := 0) hb a3 (by decide) hp, g2, fx, Or.inl ⟨a4, b4, rfl⟩⟩
    · have hle := gG_le hW (sS_ok A l false true) b1.1
      have hb := before_ne (c1 := 1000000) (c2 := 13 * e' + n') a2 b2 (by decide) (by clear a2 a3 b2 b3; omega) (by clear a2 a3 b2 b3; omega)
      rw [if_pos (by clear a2 a3 b2 b3; omega)] at hb
      refine ⟨_, q2, nrX_2 (n := n') hb b3 (by clear a2 a3 b2 b3; omega) hp, g2, fx, Or.inr (Or.inr ⟨n', e', b1, fun n2 e2 g => ?_, ?_⟩)⟩
      · have := g.1
        rw [a4] at this
        cases this
      · by_cases c : p < n'
        · rw [if_pos c, if_pos c, b4 p c]
        · rw [if_neg c, if_neg c]
  · have hle := gG_le hW (sS_ok A l true false) a1.1
    rcases t4 with ⟨-, b2, b3, b4⟩ | ⟨-, n', e', b1, b2, b3, b4⟩
    · have hb := before_ne (c1 := 13 * e + n) (c2 := 1000000) a2 b2 (by clear a2 a3 b2 b3; omega) (by decide) (by clear a2 a3 b2 b3; omega)
      rw [if_neg (by clear a2 a3 b2 b3; omega)] at hb
      refine ⟨_, q2, nrX_1 (n := n) hb a3 (by clear a2 a3 b2 b3; omega) hp, g2, fx, Or.inr (Or.inl ⟨n, e, a1, fun n2 e2 g => ?_, ?_⟩)⟩
      · have := g.1
        rw [b4] at this
        cases this
      · by_cases c : p < n
        · rw [if_pos c, if_pos c, a4 p c]
        · rw [if_neg c, if_neg c]
    · have hle2 := gG_le hW (sS_ok A l false true) b1.1
      have df := near_diff hW a1 b1
      have np : 0 < n := gM_pos hW a1
      have np2 : 0 < n' := gM_pos hW b1
      have u1 : ∀ m x, gM A (sS A l true false) m 0 x → m = n ∧ x = e := fun m x g => gM_unique hW (sS_ok A l true false) g a1
      have u2 : ∀ m x, gM A (sS A l false true) m 0 x → m = n' ∧ x = e' := fun m x g => gM_unique hW (sS_ok A l false true) g b1
      have one : ∀ (hb : Ls_comesBefore q2 = some 0) (hl' : 13 * e + n < 13 * e' + n' ∨ (13 * e + n = 13 * e' + n' ∧ rW A (sS A l true false) n e 0 < rW A (sS A l false true) n' e' 0)), ∃ (r : Int) (q' : zM), nrX q2 (p : Int) = some (r, q') ∧ zGX q' A hs sn tx ∧ zFX q q' ∧ nrR A l p r := fun hb hl' => by
        refine ⟨_, q2, nrX_1 (n := n) hb a3 (by clear a2 a3 b2 b3; omega) hp, g2, fx, Or.inr (Or.inl ⟨n, e, a1, fun n2 e2 g => ?_, ?_⟩)⟩
        · obtain ⟨v1, v2⟩ := u2 _ _ g
          rw [v1, v2]
          exact hl'
        · by_cases c : p < n
          · rw [if_pos c, if_pos c, a4 p c]
          · rw [if_neg c, if_neg c]
      have two : ∀ (hb : Ls_comesBefore q2 = some 1) (hl' : 13 * e' + n' < 13 * e + n ∨ (13 * e' + n' = 13 * e + n ∧ rW A (sS A l false true) n' e' 0 < rW A (sS A l true false) n e 0)), ∃ (r : Int) (q' : zM), nrX q2 (p : Int) = some (r, q') ∧ zGX q' A hs sn tx ∧ zFX q q' ∧ nrR A l p r := fun hb hl' => by
        refine ⟨_, q2, nrX_2 (n := n') hb b3 (by clear a2 a3 b2 b3; omega) hp, g2, fx, Or.inr (Or.inr ⟨n', e', b1, fun n2 e2 g => ?_, ?_⟩)⟩
        · obtain ⟨v1, v2⟩ := u1 _ _ g
          rw [v1, v2]
          exact hl'
        · by_cases c : p < n'
          · rw [if_pos c, if_pos c, b4 p c]
          · rw [if_neg c, if_neg c]
      by_cases ce : 13 * e + n = 13 * e' + n'
      · have w1 := (rW_ok hW (sS_ok A l true false) a1 np).1
        have w2 := (rW_ok hW (sS_ok A l false true) b1 np2).1
        rw [← ce] at b2
        have hb := before_eq (x1 := (rW A (sS A l true false) n e 0 : Int)) (x2 := (rW A (sS A l false true) n' e' 0 : Int)) a2 b2 a3 b3 (by clear a2 a3 b2 b3; omega) (by clear a2 a3 b2 b3; omega) (by rw [if_pos np]; exact a4 0 np) (by rw [if_pos np2]; exact b4 0 np2) (by clear a2 a3 b2 b3; omega) (by clear a2 a3 b2 b3; omega)
        by_cases cl : rW A (sS A l false true) n' e' 0 < rW A (sS A l true false) n e 0
        · rw [if_pos (Int.ofNat_lt.mpr cl)] at hb
          exact two hb (Or.inr ⟨ce.symm, cl⟩)
        · rw [if_neg (fun h => cl (Int.ofNat_lt.mp h))] at hb
          exact one hb (Or.inr ⟨ce, Nat.lt_of_le_of_ne (Nat.not_lt.mp cl) df⟩)
      · have hb := before_ne a2 b2 (by clear a2 a3 b2 b3; omega) (by clear a2 a3 b2 b3; omega) ce
        by_cases cl : 13 * e' + n' < 13 * e + n
        · rw [if_pos cl] at hb
          exact two hb (Or.inl cl)
        · rw [if_neg cl] at hb
          exact one hb (Or.inl (Nat.lt_of_le_of_ne (Nat.not_lt.mp cl) ce))
end NM

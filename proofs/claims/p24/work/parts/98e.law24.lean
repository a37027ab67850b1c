/-! p24: the law's 28 events -/
def zGo (X : zE → Int → (Int → zM → Option (Int × zM)) → (Int → zM → Option (Int × zM)) → Option (Int × zM)) : Prop := ∃ q' B tx', zGd q' B tx' ∧ ∀ E v2 K R, X E v2 K R = R (v2 + 1) q'
theorem go_of {X Y : zE → Int → (Int → zM → Option (Int × zM)) → (Int → zM → Option (Int × zM)) → Option (Int × zM)} (e : ∀ E v2 K R, X E v2 K R = Y E v2 K R) (h : zGo Y) : zGo X := by
  obtain ⟨q', B, tx', h1, h2⟩ := h
  exact ⟨q', B, tx', h1, fun E v2 K R => (e E v2 K R).trans (h2 E v2 K R)⟩
section LA
variable {q : zM} {A : zT9} {tx : List Nat}
/-- words(), lines() and near() behind each event -/
theorem tail_eq (h : zGd q A tx) (v4 : Int) : ∃ q', zGd q' A tx ∧ Lw_words q = some (1, q) ∧ Lw_lines q = some (1, q) ∧ Ev_count q 1 = some (aL A : Int) ∧ Lw_low q v4 (aL A : Int) = some (lo v4 (aL A) : Int) ∧ Lw_near q (lo v4 (aL A) : Int) = some (1, q') := by
  obtain ⟨⟨hs, sn, hX, hk⟩, hm, hN⟩ := h
  have hW := hk.1
  have w1 := hW.2.2.2.2.1
  have w8 := hW.2.2.2.2.2.1
  obtain ⟨q', n1, n2⟩ := Lw_near_eq hX hk (lo_lt v4 (n := aL A) (by omega))
  exact ⟨q', ⟨⟨hs, sn, n2, hk⟩, hm, hN⟩, Lw_words_eq hX.1 hW hm, Lw_lines_eq hX.1 hW hN, x_count1 hX.1 hW, Lw_low_eq q v4 (by omega) (by omega), n1⟩
theorem go_552 (h : zGd q A tx) (v3 v4 v5 v6 v7 v8 : Int) : zGo (fun E v2 K R => Lw_j552 E q v2 v3 v4 v5 v6 v7 v8 1 K R) := by
  obtain ⟨q', h1, h2, h3, h4, h5, h6⟩ := tail_eq h v4
  refine ⟨q', A, tx, h1, fun E v2 K R => ?_⟩
  dsimp only
  unfold Lw_j552
  rw [if_neg one_ne, h2, Option.bind_some]
  dsimp only
  rw [if_neg one_ne, h3, Option.bind_some]
  dsimp only
  rw [if_neg one_ne, h4, Option.bind_some, h5, Option.bind_some, h6, Option.bind_some]
  dsimp only
  rw [if_neg one_ne]
theorem go_552a (h : zGd q A tx) (v3 v4 v5 v6 v7 v8 v10 : Int) : zGo (fun E v2 K R => Lw_j552a E q v2 v3 v4 v5 v6 v7 v8 1 v10 K R) := by
  obtain ⟨q', h1, h2, h3, h4, h5, h6⟩ := tail_eq h v4
  refine ⟨q', A, tx, h1, fun E v2 K R => ?_⟩
  dsimp only
  unfold Lw_j552a
  rw [if_neg one_ne, h2, Option.bind_some]
  dsimp only
  rw [if_neg one_ne, h3, Option.bind_some]
  dsimp only
  rw [if_neg one_ne, h4, Option.bind_some, h5, Option.bind_some, h6, Option.bind_some]
  dsimp only
  rw [if_neg one_ne]
theorem go_metre (h : zGd q A tx) (v3 v4 v5 v6 v7 v8 : Int) (hc : wrap v5 = 4) : zGo (fun E v2 K R => Lw_j324 E q v2 v3 v4 v5 v6 v7 v8 1 K R) := by
  obtain ⟨hS, hm, hN⟩ := h
  have hlo := lo_lt v3 (n := 6) (by decide)
  have eb : (2 : Int) + (lo v3 6 : Int) = ((2 + lo v3 6 : Nat) : Int) := by omega
  have hb : 2 ≤ 2 + lo v3 6 ∧ 2 + lo v3 6 ≤ 12 := by omega
  have hb8 : 2 + lo v3 6 ≤ 8 := by omega
  have c1 := x_count2 (zSt_rx hS) (zSt_wf hS)
  have lw := Lw_low_eq q v3 (n := 6) (by decide) (by decide)
  generalize 2 + lo v3 6 = b at *
  have hp : (2 : Nat) ^ b ≤ 2 ^ 8 := Nat.pow_le_pow_right (by decide) hb8
  have hp0 : 0 < (2 : Nat) ^ b := Nat.two_pow_pos b
  have es : wshl (1 : Int) (b : Int) = ((2 ^ b : Nat) : Int) := by
    have := wshl_n 1 b (by omega) (by omega)
    rw [Nat.one_mul] at this
    exact this
  obtain ⟨q1, s1, s2⟩ := s_setMetre hS hb (lo_lt v4 hp0)
  have hX := zSt_rx s2
  have hW := zSt_wf s2
  refine go_of (fun E v2 K R => ?_) (go_552 (q := q1) (tx := tx) ⟨s2, zIv_empty (fun l => rfl)⟩ v3 v4 v5 v6 v7 v8)
  have c4 : Ev_count q1 4 = some (b : Int) := x_count4 hX hW
  have c2 : Ev_count q1 2 = some 0 := by rw [x_count2 hX hW, made_none (fun l => rfl)]; rfl
  unfold Lw_j324 Lw_j390
  rw [if_pos hc, show (6 : Int) = ((6 : Nat) : Int) from rfl, lw, Option.bind_some, c1, Option.bind_some, eb, es, Lw_low_eq q v4 hp0 (by omega), Option.bind_some, s1, Option.bind_some]
  dsimp only
  rw [if_pos rfl, c4, Option.bind_some, if_pos rfl, c2, Option.bind_some, if_pos zero_eq]
theorem go_make (h : zGd q A tx) (v3 v4 v5 v6 v7 v8 : Int) (hc : wrap v5 = 9) : zGo (fun E v2 K R => Lw_j324 E q v2 v3 v4 v5 v6 v7 v8 1 K R) := by
  obtain ⟨⟨hs, sn, hX, hk⟩, hm, hN⟩ := h
  have hW := hk.1
  obtain ⟨cnt, B, q1, m1, m2, m3, m4, m5⟩ := Ev_make_eq hX hk hm hN
  have hL : aL B = aL A := (zSm_get m2.2.2.2.1).2.2.2.1
  have hW1 := m5.1
  obtain ⟨q2, n1, n2⟩ := make_none m4 m5 (fun j hj => m2.2.2.2.2.2.2.2.2 j (by rw [← hL]; exact hj))
  have c0 : Ev_count q 2 = some (cntTo (lMd A) (aL A) : Int) := x_count2 hX.1 hW
  have c1 : Ev_count q1 2 = some ((cntTo (lMd A) (aL A) : Int) + (cnt : Int)) := by
    have e : Ev_count q1 2 = some (cntTo (lMd B) (aL B) : Int) := x_count2 m4.1 hW1
    rw [e, hL, m2.2.2.2.2.2.2.2.1]
    exact congrArg some (by omega)
  have hle := cntTo_le (lMd A) (aL A)
  have w8 := hW.2.2.2.2.2.1
  refine go_of (fun E v2 K R => ?_) (go_552 (q := q2) (tx := tx) ⟨⟨_, sn, n2, m5⟩, m2.2.1, m2.2.2.1⟩ v3 v4 v5 v6 v7 v8)
  have j476 : ∀ x : Int, x = (if cnt = 0 then -5 else (cnt : Int)) → Lw_j476 E q1 v2 v3 v4 v5 v6 v7 v8 1 (cntTo (lMd A) (aL A) : Int) (if cnt = 0 then -5 else (cnt : Int)) (if cnt = 0 then -5 else (cnt : Int)) x K R = Lw_j552 E q2 v2 v3 v4 v5 v6 v7 v8 1 K R := by
    intro x hx
    unfold Lw_j476
    rw [hx, if_pos rfl, n1, Option.bind_some]
    dsimp only
    rw [if_pos (c := wrap (-5) = -5) (by decide)]
    rfl
  have e5 : (cntTo (lMd A) (aL A) : Int) + (cnt : Int) - (cntTo (lMd A) (aL A) : Int) = (cnt : Int) := by omega
  have e6 : (cntTo (lMd A) (aL A) : Int) + (cnt : Int) = ((cntTo (lMd A) (aL A) + cnt : Nat) : Int) := by omega
  have r1 : wrap (cntTo (lMd A) (aL A) : Int) = cntTo (lMd A) (aL A) := wrap_n (by omega)
  have r2 : wrap ((cntTo (lMd A) (aL A) + cnt : Nat) : Int) = ((cntTo (lMd A) (aL A) + cnt : Nat) : Int) := wrap_n (by clear r1; omega)
  unfold Lw_j324
  rw [hc, if_neg (by decide), if_neg (by decide), if_neg (by decide), if_pos rfl, c0, Option.bind_some, m1, Option.bind_some]
  dsimp only
  rw [c1, Option.bind_some]
  by_cases c : cnt = 0
  · rw [if_pos (by rw [e6, r1, r2]; clear r1 r2; omega)]
    exact j476 (-5) (by rw [if_pos c])
  · rw [if_neg (by rw [e6, r1, r2]; clear r1 r2; omega), Option.bind_some, e5]
    exact j476 (cnt : Int) (by rw [if_neg c])
theorem go_clear (h : zGd q A tx) (v3 v4 v5 v6 v7 : Int) {l : Nat} (hl : l < aL A) (hc : wrap v5 = 10) : zGo (fun E v2 K R => Lw_j324 E q v2 v3 v4 v5 v6 v7 (l : Int) 1 K R) := by
  obtain ⟨hS, hm, hN⟩ := h
  have hX := zSt_rx hS
  have hW := zSt_wf hS
  have h12 := (hW.2.2.2.2.2.2.2.2.1 l).1
  have r1 : wrap (aSz A l : Int) = aSz A l := wrap_n (by omega)
  by_cases c : aSz A l = 0
  · refine go_of (fun E v2 K R => ?_) (go_552a (q := q) (tx := tx) ⟨hS, hm, hN⟩ v3 v4 v5 v6 v7 (l : Int) (aSz A l : Int))
    unfold Lw_j324
    rw [hc, if_neg (by decide), if_neg (by decide), if_neg (by decide), if_neg (by decide), if_pos rfl, x_line0 hX hW hl, Option.bind_some]
    dsimp only
    rw [s_clearLine_none hS hl c, Option.bind_some, r1, if_pos (by clear r1; omega)]
    unfold Lw_j532
    rw [if_pos rfl, x_line0 hX hW hl, Option.bind_some]
    dsimp only
    rw [r1, if_pos (by clear r1; omega)]
    rfl
  · obtain ⟨q1, s1, s2⟩ := s_clearLine_ok hS hl c
    have hX1 := zSt_rx s2
    have hW1 := zSt_wf s2
    have hl1 : l < aL (aEmpL A l) := hl
    have z1 : Ev_line q1 (l : Int) 0 = some (0, q1) := by
      rw [x_line0 hX1 hW1 hl1, aEmpL_sz, if_pos rfl]
      rfl
    refine go_of (fun E v2 K R => ?_) (go_552a (q := q1) (tx := tx) ⟨s2, zIv_empL hm hN l⟩ v3 v4 v5 v6 v7 (l : Int) (aSz A l : Int))
    unfold Lw_j324
    rw [hc, if_neg (by decide), if_neg (by decide), if_neg (by decide), if_neg (by decide), if_pos rfl, x_line0 hX hW hl, Option.bind_some]
    dsimp only
    rw [s1, Option.bind_some, r1, if_neg (by clear r1; omega)]
    dsimp only
    unfold Lw_j532
    rw [if_pos rfl, z1, Option.bind_some]
    dsimp only
    rw [if_pos zero_eq]
    rfl
theorem go_324 (h : zGd q A tx) (v3 v4 v5 v6 v7 : Int) {l : Nat} (hl : l < aL A) : zGo (fun E v2 K R => Lw_j324 E q v2 v3 v4 v5 v6 v7 (l : Int) 1 K R) := by
  by_cases c4 : wrap v5 = 4
  · exact go_metre h v3 v4 v5 v6 v7 _ c4
  by_cases c5 : wrap v5 = 5
  · obtain ⟨q1, B, tx', e1, e2⟩ := Lw_edges_eq h.1 v3 v4
    refine go_of (fun E v2 K R => ?_) (go_552 e2 v3 v4 v5 v6 v7 (l : Int))
    unfold Lw_j324
    rw [if_neg c4, if_pos c5, e1, Option.bind_some]
  by_cases c8 : wrap v5 < 9
  · obtain ⟨⟨hs, sn, hX, hk⟩, hm, hN⟩ := h
    obtain ⟨q1, C, hs2, e1, e2, e3, e4, e5⟩ := Lw_makes_eq hX hk hm hN hl
    refine go_of (fun E v2 K R => ?_) (go_552 (q := q1) (tx := tx) ⟨⟨hs2, sn, e2, e3⟩, e4, e5⟩ v3 v4 v5 v6 v7 (l : Int))
    unfold Lw_j324
    rw [if_neg c4, if_neg c5, if_pos c8, e1, Option.bind_some]
  by_cases c9 : wrap v5 = 9
  · exact go_make h v3 v4 v5 v6 v7 _ c9
  by_cases c10 : wrap v5 = 10
  · exact go_clear h v3 v4 v5 v6 v7 hl c10
  · refine go_of (fun E v2 K R => ?_) (go_552 h v3 v4 v5 v6 v7 (l : Int))
    unfold Lw_j324
    rw [if_neg c4, if_neg c5, if_neg c8, if_neg c9, if_neg c10]
theorem go_limit (h : zGd q A tx) (v3 v4 v5 : Int) {w : Nat} (hw : w < aN A) (v8 : Int) (hc : wrap v5 = 3) : zGo (fun E v2 K R => Lw_j219 E q v2 v3 v4 v5 (aN A : Int) (w : Int) v8 1 K R) := by
  obtain ⟨hS, hm, hN⟩ := h
  have hX := zSt_rx hS
  have hW := zSt_wf hS
  have hN40 := hW.1
  have h8 := aUB_le hW (-1) w
  have hli := (hW.2.2.2.2.2.2.1 w hw).2.2.2.2.2
  have hlo := lo_lt (wshr v4 4) (n := 4) (by decide)
  have ev : (1 : Int) + (lo (wshr v4 4) 4 : Int) = ((1 + lo (wshr v4 4) 4 : Nat) : Int) := by omega
  have hv : 1 ≤ 1 + lo (wshr v4 4) 4 ∧ 1 + lo (wshr v4 4) 4 ≤ 9 := by omega
  have lw : Lw_low q (wshr v4 4) 4 = some (lo (wshr v4 4) 4 : Int) := Lw_low_eq q (wshr v4 4) (n := 4) (by decide) (by decide)
  have np : (0 : Int) < (aN A : Int) := by omega
  have rN : wrap (aN A : Int) = aN A := wrap_n (by omega)
  have rU : wrap (aUB A (-1) w : Int) = aUB A (-1) w := wrap_n (by clear rN; omega)
  have rL : wrap (aLi A w : Int) = aLi A w := wrap_n (by clear rN rU; omega)
  generalize 1 + lo (wshr v4 4) 4 = v at *
  have rV : wrap (v : Int) = v := wrap_n (by clear rN rU rL; omega)
  have hd : ∀ E v2 K R, Lw_j219 E q v2 v3 v4 v5 (aN A : Int) (w : Int) v8 1 K R = (Ev_setLimit q (w : Int) (v : Int)).bind fun r_84 =>
            (Ev_word r_84.2 (w : Int) (4 : Int)).bind fun r_85 =>
              if wrap (v : Int) < wrap r_85 then
                Lw_j294 E r_84.2 v2 v3 v4 v5 (aN A : Int) (w : Int) v8 1 (aLi A w : Int) (v : Int) r_84.1 r_84.1 (-4 : Int) K (R)
              else
                if wrap (aLi A w : Int) = wrap (v : Int) then
                  Lw_j294 E r_84.2 v2 v3 v4 v5 (aN A : Int) (w : Int) v8 1 (aLi A w : Int) (v : Int) r_84.1 r_84.1 (-5 : Int) K (R)
                else
                  Lw_j294 E r_84.2 v2 v3 v4 v5 (aN A : Int) (w : Int) v8 1 (aLi A w : Int) (v : Int) r_84.1 r_84.1 (aLi A w : Int) K (R) := by
    intro E v2 K R
    unfold Lw_j219
    rw [if_pos hc, rN, if_pos np, x_word3 hX hW hw, Option.bind_some, lw, Option.bind_some, ev]
  by_cases c1 : v < aUB A (-1) w
  · refine go_of (fun E v2 K R => ?_) (go_552 (q := q) (tx := tx) ⟨hS, hm, hN⟩ v3 v4 v5 (aN A : Int) (w : Int) v8)
    rw [hd, s_limit_used hS hw hv c1, Option.bind_some]
    dsimp only
    rw [x_word4 hX hW hw, Option.bind_some, rU, rV, if_pos (by clear rN rU rL rV; omega)]
    unfold Lw_j294 Lw_j314 Lw_j319
    rw [if_pos rfl, if_pos (by decide)]
  · by_cases c2 : aLi A w = v
    · refine go_of (fun E v2 K R => ?_) (go_552 (q := q) (tx := tx) ⟨hS, hm, hN⟩ v3 v4 v5 (aN A : Int) (w : Int) v8)
      rw [hd, s_limit_same hS hw hv (Nat.le_of_not_lt c1) c2, Option.bind_some]
      dsimp only
      rw [x_word4 hX hW hw, Option.bind_some, rU, rV, if_neg (by clear rN rU rL rV; omega), rL, if_pos (by clear rN rU rL rV; omega)]
      unfold Lw_j294 Lw_j314 Lw_j319
      rw [if_pos rfl, if_pos (by decide)]
    · obtain ⟨q1, s1, s2⟩ := s_limit_ok hS hw hv (Nat.le_of_not_lt c1) c2
      have hX1 := zSt_rx s2
      have hW1 := zSt_wf s2
      have hw1 : w < aN (aLim A w v) := hw
      have w4 : Ev_word q1 (w : Int) 4 = some (aUB A (-1) w : Int) := by rw [x_word4 hX1 hW1 hw1, aLim_ub]
      have w3 : Ev_word q1 (w : Int) 3 = some (v : Int) := by rw [x_word3 hX1 hW1 hw1, aLim_li, if_pos rfl]
      refine go_of (fun E v2 K R => ?_) (go_552 (q := q1) (tx := tx) ⟨s2, zIv_lim hm hN (Nat.le_of_not_lt c1)⟩ v3 v4 v5 (aN A : Int) (w : Int) v8)
      rw [hd, s1, Option.bind_some]
      dsimp only
      rw [w4, Option.bind_some, rU, rV, if_neg (by clear rN rU rL rV; omega), rL, if_neg (by clear rN rU rL rV; omega)]
      unfold Lw_j294 Lw_j314 Lw_j319
      rw [if_pos rfl, rL, if_neg (by clear rN rU rL rV; omega), w3, Option.bind_some, if_pos rfl]
theorem go_219 (h : zGd q A tx) (v3 v4 v5 : Int) {w l : Nat} (hw : 0 < aN A → w < aN A) (hl : l < aL A) : zGo (fun E v2 K R => Lw_j219 E q v2 v3 v4 v5 (aN A : Int) (w : Int) (l : Int) 1 K R) := by
  have hN40 := (zSt_wf h.1).1
  by_cases c3 : wrap v5 = 3
  · by_cases c0 : 0 < aN A
    · exact go_limit h v3 v4 v5 (hw c0) _ c3
    · refine go_of (fun E v2 K R => ?_) (go_324 h v3 v4 v5 (aN A : Int) (w : Int) hl)
      unfold Lw_j219
      rw [if_pos c3, wrap_n (n := aN A) (by clear c3; omega), if_neg (by clear c3; omega)]
  · refine go_of (fun E v2 K R => ?_) (go_324 h v3 v4 v5 (aN A : Int) (w : Int) hl)
    unfold Lw_j219
    rw [if_neg c3]
theorem go_128 (h : zGd q A tx) (v3 v4 v5 : Int) {s1 : Nat} (hs : s1 = if aN A = 0 then 1 else aN A) : zGo (fun E v2 K R => Lw_j128 E q v2 v3 v4 v5 (aN A : Int) v3 (s1 : Int) K R) := by
  obtain ⟨hS, hm, hN⟩ := id h
  have hX := zSt_rx hS
  have hW := zSt_wf hS
  have hN40 := hW.1
  have wL1 := hW.2.2.2.2.1
  have wL8 := hW.2.2.2.2.2.1
  have s0 : 0 < s1 := by
    by_cases c : aN A = 0
    · rw [if_pos c] at hs; omega
    · rw [if_neg c] at hs; omega
  have s40 : s1 ≤ 40 := by
    by_cases c : aN A = 0
    · rw [if_pos c] at hs; omega
    · rw [if_neg c] at hs; omega
  have hw : 0 < aN A → lo v3 s1 < aN A := fun g => by
    have := lo_lt v3 s0
    rw [if_neg (by omega)] at hs
    omega
  have hl : lo v4 (aL A) < aL A := lo_lt v4 (by omega)
  have lw1 := Lw_low_eq q v3 s0 (by omega)
  have lw2 := Lw_low_eq q v4 (n := aL A) (by omega) (by omega)
  generalize lo v3 s1 = w at *
  generalize lo v4 (aL A) = l at *
  have hd : ∀ E v2 K R, Lw_j128 E q v2 v3 v4 v5 (aN A : Int) v3 (s1 : Int) K R = if wrap v5 < (2 : Int) then
          (Lw_adds q v3 v4).bind fun r_107 =>
            Lw_j552 E r_107.2 v2 v3 v4 v5 (aN A : Int) (w : Int) (l : Int) r_107.1 K (R)
        else
          if wrap v5 = (2 : Int) then
            if (0 : Int) < wrap (aN A : Int) then
              (Ev_word q (w : Int) (4 : Int)).bind fun r_102 =>
                (Ev_removeWord q (w : Int)).bind fun r_103 =>
                  if wrap r_103.1 = wrap r_102 then
                    (Ev_count r_103.2 (0 : Int)).bind fun r_105 =>
                      if wrap r_105 = wrap ((aN A : Int) - (1 : Int)) then
                        Lw_j214 E r_103.2 v2 v3 v4 v5 (aN A : Int) (w : Int) (l : Int) (1 : Int) r_102 (1 : Int) K (R)
                      else
                        Lw_j213 E r_103.2 v2 v3 v4 v5 (aN A : Int) (w : Int) (l : Int) (1 : Int) r_102 K (R)
                  else
                    Lw_j213 E r_103.2 v2 v3 v4 v5 (aN A : Int) (w : Int) (l : Int) (1 : Int) r_102 K (R)
            else
              Lw_j219 E q v2 v3 v4 v5 (aN A : Int) (w : Int) (l : Int) (1 : Int) K (R)
          else
            Lw_j219 E q v2 v3 v4 v5 (aN A : Int) (w : Int) (l : Int) (1 : Int) K (R) := by
    intro E v2 K R
    unfold Lw_j128
    rw [lw1, Option.bind_some, x_count1 hX hW, Option.bind_some, lw2, Option.bind_some]
  by_cases c2 : wrap v5 < 2
  · obtain ⟨q1, B, tx', e1, e2⟩ := Lw_adds_eq h v3 v4
    refine go_of (fun E v2 K R => ?_) (go_552 e2 v3 v4 v5 (aN A : Int) (w : Int) (l : Int))
    rw [hd, if_pos c2, e1, Option.bind_some]
  by_cases c3 : wrap v5 = 2
  · by_cases c0 : 0 < aN A
    · obtain ⟨q1, r1, r2⟩ := s_remove hS (hw c0)
      have cn : Ev_count q1 0 = some ((aN A : Int) - 1) := by
        rw [x_count0 (zSt_rx r2) (zSt_wf r2), show aN (aRem A w) = aN A - 1 from rfl]
        exact congrArg some (by clear c2 c3 hd; omega)
      refine go_of (fun E v2 K R => ?_) (go_552 (q := q1) (tx := tx) ⟨r2, zIv_rem hm hN (hw c0) hW⟩ v3 v4 v5 (aN A : Int) (w : Int) (l : Int))
      rw [hd, if_neg c2, if_pos c3, wrap_n (n := aN A) (by clear c2 c3 hd; omega), if_pos (by clear c2 c3 hd; omega), x_word4 hX hW (hw c0), Option.bind_some, r1, Option.bind_some]
      dsimp only
      rw [if_pos rfl, cn, Option.bind_some, if_pos rfl]
      rfl
    · refine go_of (fun E v2 K R => ?_) (go_219 h v3 v4 v5 hw hl)
      rw [hd, if_neg c2, if_pos c3, wrap_n (n := aN A) (by clear c2 c3 hd; omega), if_neg (by clear c2 c3 hd; omega)]
  · refine go_of (fun E v2 K R => ?_) (go_219 h v3 v4 v5 hw hl)
    rw [hd, if_neg c2, if_neg c3]
theorem go_103 (h : zGd q A tx) (v3 v4 v5 : Int) : zGo (fun E v2 K R => Lw_j103 E q v2 v3 v4 v5 K R) := by
  have hX := zSt_rx h.1
  have hW := zSt_wf h.1
  have hN40 := hW.1
  refine go_of (fun E v2 K R => ?_) (go_128 h (wshr v3 4) v4 v5 (s1 := if aN A = 0 then 1 else aN A) rfl)
  unfold Lw_j103
  rw [x_count0 hX hW, Option.bind_some, wrap_n (n := aN A) (by omega)]
  by_cases c : aN A = 0
  · rw [if_pos (by omega), if_pos c]
    rfl
  · rw [if_neg (by omega), if_neg c]
theorem cell_some {E : zE} (hE : E.1 ≤ 260) (q : zM) {k : Nat} (hk : k < 100000) {x : Int} (hx : x = (k : Int)) : ∃ y, Lw_cell E q x = some y := by
  unfold Lw_cell
  rw [hx, wrap_n (n := k) (by omega), wrap_n (n := E.1) (by omega)]
  by_cases c : k < E.1
  · rw [if_pos (by omega), ck_in (by omega)]
    exact ⟨_, rfl⟩
  · rw [if_neg (by omega)]
    exact ⟨_, rfl⟩
theorem ar_ev {k : Nat} (hk : k < 28) : wrap (k : Int) = k ∧ (k : Int) < 28 ∧ (2 : Int) * (k : Int) = ((2 * k : Nat) : Int) ∧ (2 : Int) * (k : Int) + 1 = ((2 * k + 1 : Nat) : Int) ∧ (k : Int) + 1 = ((k + 1 : Nat) : Int) := ⟨wrap_n (by omega), by omega, by omega, by omega, by omega⟩
theorem law_step {E : zE} (hE : E.1 ≤ 260) (h : zGd q A tx) {k : Nat} (hk : k < 28) (K : Int → zM → Option (Int × zM)) (n : Nat) : ∃ q' B tx', zGd q' B tx' ∧ Lw_L62 E K (n + 1) (k : Int) q = Lw_L62 E K n ((k + 1 : Nat) : Int) q' := by
  obtain ⟨a1, a2, a3, a4, a5⟩ := ar_ev hk
  obtain ⟨x, hx⟩ := cell_some hE q (k := 2 * k) (by clear a1; omega) a3
  obtain ⟨y, hy⟩ := cell_some hE q (k := 2 * k + 1) (by clear a1; omega) a4
  by_cases c : (k : Int) < 8
  · obtain ⟨q', B, tx', g1, g2⟩ := go_103 h x y 0
    refine ⟨q', B, tx', g1, ?_⟩
    rw [Lw_L62, a1, if_pos a2, hx, Option.bind_some, hy, Option.bind_some, if_pos c, ← a5]
    exact g2 E _ K _
  · obtain ⟨q', B, tx', g1, g2⟩ := go_103 h x y (lo x 12 : Int)
    refine ⟨q', B, tx', g1, ?_⟩
    rw [Lw_L62, a1, if_pos a2, hx, Option.bind_some, hy, Option.bind_some, if_neg c, show (12 : Int) = ((12 : Nat) : Int) from rfl, Lw_low_eq q x (n := 12) (by decide) (by decide), Option.bind_some, ← a5]
    exact g2 E _ K _
theorem law_loop {E : zE} (hE : E.1 ≤ 260) (K : Int → zM → Option (Int × zM)) : ∀ (d k n : Nat) (q : zM) (A : zT9) (tx : List Nat), k + d = 28 → d < n → zGd q A tx → ∃ q' B tx', zGd q' B tx' ∧ Lw_L62 E K n (k : Int) q = K 28 q' := by
  intro d
  induction d with
  | zero =>
    intro k n q A tx hk hn h
    obtain ⟨n, rfl⟩ : ∃ m, n = m + 1 := ⟨n - 1, by omega⟩
    have e : k = 28 := by omega
    subst e
    refine ⟨q, A, tx, h, ?_⟩
    rw [Lw_L62, if_neg (by decide)]
    rfl
  | succ d ih =>
    intro k n q A tx hk hn h
    obtain ⟨n, rfl⟩ : ∃ m, n = m + 1 := ⟨n - 1, by omega⟩
    obtain ⟨q1, B, tx1, h1, h2⟩ := law_step hE h (k := k) (by omega) K n
    obtain ⟨q', C, tx', h3, h4⟩ := ih (k + 1) n q1 B tx1 (by omega) (by omega) h1
    exact ⟨q', C, tx', h3, h2.trans h4⟩
/-- a fresh object: no word, four beats, one line from a to a -/
def zFr (A : zT9) : Prop := aN A = 0 ∧ aB A = 4 ∧ aS A = 10 ∧ aL A = 1 ∧ aFe A 0 = 97 ∧ aLe A 0 = 97 ∧ ∀ l, aSz A l = 0
theorem Lw_ok {E : zE} (hE : E.1 ≤ 260) (h : zSt q A tx) (hf : zFr A) : ∃ q', Lw E q = some (1, q') := by
  obtain ⟨f1, f2, f3, f4, f5, f6, f7⟩ := hf
  have hX := zSt_rx h
  have hW := zSt_wf h
  have hl : 0 < aL A := by omega
  have hno : ∀ j, j < aL A → aSz A j = 0 → ∀ n e, gG A (sS A j true true) n 0 e = false := by
    intro j _ _ n e
    cases hg : gG A (sS A j true true) n 0 e with
    | false => rfl
    | true =>
      exfalso
      cases n with
      | zero =>
        have := (gG_zero.mp hg).1
        omega
      | succ n =>
        obtain ⟨w, w1, -⟩ := gG_succ.mp hg
        omega
  have c4 := x_count4 hX hW
  have c5 := x_count5 hX hW
  have l3 := x_line3 hX hW hl
  have l4 := x_line4 hX hW hl
  rw [f2] at c4
  rw [f3] at c5
  rw [f5] at l3
  rw [f6] at l4
  have l3 : Ev_line q 0 3 = some (97, q) := l3
  have l4 : Ev_line q 0 4 = some (97, q) := l4
  have c4 : Ev_count q 4 = some 4 := c4
  have c5 : Ev_count q 5 = some 10 := c5
  obtain ⟨hs, sn, hX2, hk⟩ := h
  obtain ⟨q1, m1, m2⟩ := make_none hX2 hk hno
  obtain ⟨q2, B, tx2, g1, g2⟩ := law_loop hE (fun v2_108 q_109 => (Lw_errors q_109 ).bind fun r_110 => some (r_110.1, r_110.2)) 28 0 5000 q1 A tx (by decide) (by decide) ⟨⟨hs, sn, m2, hk⟩, zIv_empty f7⟩
  refine ⟨q2, ?_⟩
  unfold Lw
  rw [c4, Option.bind_some, if_pos (by decide), c5, Option.bind_some, if_pos (by decide), l3, Option.bind_some]
  dsimp only
  rw [if_pos (by decide), l4, Option.bind_some]
  dsimp only
  rw [if_pos (by decide), m1, Option.bind_some]
  dsimp only
  rw [if_pos (by decide)]
  refine Eq.trans g2 ?_
  rw [Lw_errors_eq g1.1, Option.bind_some]
end LA

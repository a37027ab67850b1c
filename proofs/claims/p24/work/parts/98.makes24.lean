/-! p24: makes(): a line made anew is not worse; make() twice -/
section MK
variable {A B : zT9} {hs : List zT9} {sn : Nat → Option zT9} {tx : List Nat} {l : Nat}
theorem x_line5 {q : zM} (h : zGX q A hs sn tx) (hk : zOK A hs sn tx) (hl : l < aL A) : ∃ (q' : zM) (g : Nat → Nat), Ev_line q (l : Int) 5 = some ((g 0 : Int), q') ∧ zGX q' A hs sn tx ∧ eqW A (sS A l true true) 0 g := by
  obtain ⟨q1, g1, a1, a2, a3, a4⟩ := Ls_countRows_eq h.1 hk.1 hl
  refine ⟨q1, g1, ?_, zGX_sk h a2 a3, a4⟩
  unfold Ev_line
  rw [Po_has_in h.1 hk.1 hl, Option.bind_some, if_neg one_ne, if_neg (by decide), if_neg (by decide), if_neg (by decide), if_neg (by decide), if_neg (by decide), if_pos (by decide), a1]
  rfl
theorem eqW_same {S T : Nat → Nat → Bool} (h : zSm A B) (hST : ∀ w b, T w b = S w b) {g : Nat → Nat} (hg : eqW B T 0 g) : eqW A S 0 g := by
  obtain ⟨g1, g2, g3, g4, g5, g6, -⟩ := zSm_get h
  obtain ⟨h1, h2⟩ := hg
  rw [g2] at h1
  refine ⟨h1, fun b hb hb2 => ?_⟩
  rw [h2 b hb (by rw [g2]; exact hb2), g1, g6]
  congr 1
  exact sumTo_congr (fun w _ => by rw [hST])
theorem mlR_iv (hk : zOK A hs sn tx) (hm : zLm A) (hN : zLn A) (hl : l < aL A) {hs' : List zT9} {r : Int} (h : mlR A B hs hs' l r) : zOK B hs' sn tx ∧ zLm B ∧ zLn B := by
  rcases h with ⟨-, -, a3, a4⟩ | ⟨n, e, a1, -, a3, a4⟩
  · subst a3
    subst a4
    exact ⟨hk, hm, hN⟩
  · subst a3
    subst a4
    have hp := zIv_put hk.1 hm hN hl a1
    exact ⟨zOK_push hk (aPut_wf hk.1 (sS_ok A l true true) hl a1), hp.1, hp.2⟩
theorem makes_j93 {q : zM} (hk : zOK A hs sn tx) (hm : zLm A) (hN : zLn A) (hl : l < aL A) {n e : Nat} (hg : gM A (sS A l true true) n 0 e) {hs' : List zT9} (hX : zGX q (aPut A l n (rW A (sS A l true true) n e)) hs' sn tx) (hk' : zOK (aPut A l n (rW A (sS A l true true) n e)) hs' sn tx) {g : Nat → Nat} (hw : eqW A (sS A l true true) 0 g) (hg0 : g 0 ≠ 0) (v3 v4 : Int) : ∃ q' C hs2, Lw_makes_j93 q (l : Int) (g 0 : Int) v3 v4 (n : Int) 1 = some (1, q') ∧ zGX q' C hs2 sn tx ∧ zOK C hs2 sn tx ∧ zLm C ∧ zLn C := by
  have hW := hk.1
  have h12 : ∀ i, aSz A i ≤ 12 := fun i => (hW.2.2.2.2.2.2.2.2.1 i).1
  have hgl := eqW_le hw (b := 0) (Nat.le_refl _) (Nat.zero_le _)
  have hn : n ≤ 12 := by
    have := (gG_le hW (sS_ok A l true true) hg.1).1
    have := hW.2.2.1
    omega
  have hpos := gM_pos hW hg
  have hiv := zIv_put hW hm hN hl hg
  have hO : zOL A (aPut A l n (rW A (sS A l true true) n e)) l := aPut_ol h12 n _
  have hsz : aSz (aPut A l n (rW A (sS A l true true) n e)) l = n := by rw [aPut_sz, if_pos rfl]
  have hST : ∀ w b, sS (aPut A l n (rW A (sS A l true true) n e)) l true true w b = sS A l true true w b := zOL_sS hO true true
  have hL : aL (aPut A l n (rW A (sS A l true true) n e)) = aL A := (zSm_get hO.1).2.2.2.1
  have hgB := gM_same hO.1 (fun w b _ => hST w b) hg
  generalize aPut A l n (rW A (sS A l true true) n e) = B at *
  have hl' : l < aL B := by rw [hL]; exact hl
  obtain ⟨q1, g', b1, b2, b3⟩ := x_line5 hX hk' hl'
  have ge : g' 0 = g 0 := eqW_unique hW (sS_ok A l true true) (eqW_same hO.1 hST b3) hw (aB A) 0 (Nat.zero_add _)
  obtain ⟨r, q2, C, hs2, c1, c2, -, c4⟩ := Ev_makeLine_in b2 hk' hl'
  obtain ⟨d1, d2, d3⟩ := mlR_iv hk' hiv.1 hiv.2 hl' c4
  have hr : r = (n : Int) := by
    rcases c4 with ⟨a1, -⟩ | ⟨n', e', a1, a2, -⟩
    · have := hgB.1
      rw [a1] at this
      cases this
    · rw [a2, (gM_unique hk'.1 (sS_ok B l true true) a1 hgB).1]
  have r1 : wrap (g 0 : Int) = g 0 := wrap_n (by omega)
  have r2 : wrap (n : Int) = n := wrap_n (by omega)
  refine ⟨q2, C, hs2, ?_, c2, d1, d2, d3⟩
  unfold Lw_makes_j93
  rw [r1, if_pos (by clear r1 r2; omega), if_neg (by clear r1 r2; omega), x_line0 hX.1 hk'.1 hl', Option.bind_some]
  dsimp only
  rw [hsz, if_pos rfl, r2, if_pos (by clear r1 r2; omega), if_neg one_ne, b1, Option.bind_some]
  dsimp only
  rw [ge, r1, if_pos rfl, c1, Option.bind_some]
  dsimp only
  rw [hr, r2, if_pos rfl]
theorem Lw_makes_eq {q : zM} (hX : zGX q A hs sn tx) (hk : zOK A hs sn tx) (hm : zLm A) (hN : zLn A) (hl : l < aL A) : ∃ q' C hs2, Lw_makes q (l : Int) = some (1, q') ∧ zGX q' C hs2 sn tx ∧ zOK C hs2 sn tx ∧ zLm C ∧ zLn C := by
  have hW := hk.1
  have h12 : ∀ i, aSz A i ≤ 12 := fun i => (hW.2.2.2.2.2.2.2.2.1 i).1
  have hbi := aBI_le hW l
  have hsl := h12 l
  obtain ⟨q1, g, a1, a2, a3⟩ := x_line5 hX hk hl
  obtain ⟨r, q2, B, hs', c1, c2, -, c4⟩ := Ev_makeLine_in a2 hk hl
  have hgl := eqW_le a3 (b := 0) (Nat.le_refl _) (Nat.zero_le _)
  obtain ⟨d1, d2, d3⟩ := mlR_iv hk hm hN hl c4
  have hno := eqW_none hW (sS_ok A l true true) a3 (aB A) 0 (Nat.zero_add _)
  have r1 : wrap (g 0 : Int) = g 0 := wrap_n (by omega)
  have r2 : wrap (aSz A l : Int) = aSz A l := wrap_n (by omega)
  have r3 : wrap (aBI A l : Int) = aBI A l := wrap_n (by omega)
  unfold Lw_makes
  rw [a1, Option.bind_some]
  dsimp only
  rw [x_line0 a2.1 hW hl, Option.bind_some]
  dsimp only
  rw [x_line1 a2.1 hW hl, Option.bind_some]
  dsimp only
  rw [c1, Option.bind_some]
  dsimp only
  rw [r1, r2, r3]
  rcases c4 with ⟨e1, e2, e3, e4⟩ | ⟨n, e, e1, e2, e3, e4⟩
  · have g0 := hno.mpr e1
    rw [g0, if_pos (by decide), e2, if_pos (by decide)]
    rw [e3] at c2 d1 d2 d3
    rw [x_line0 c2.1 hW hl, Option.bind_some]
    dsimp only
    rw [r2, if_pos rfl]
    exact ⟨q2, A, hs', rfl, c2, d1, d2, d3⟩
  · have g0 : g 0 ≠ 0 := fun g0 => by
      have := e1.1
      rw [hno.mp g0] at this
      cases this
    have hn : n ≤ 12 := by
      have := (gG_le hW (sS_ok A l true true) e1.1).1
      have := hW.2.2.1
      clear r1 r2 r3
      omega
    have hpos := gM_pos hW e1
    have he := put_bends (l := l) hW e1
    have hL : aL (aPut A l n (rW A (sS A l true true) n e)) = aL A := (zSm_get (aPut_sm A l n (rW A (sS A l true true) n e))).2.2.2.1
    rw [e3] at c2 d1 d2 d3
    have hl' : l < aL (aPut A l n (rW A (sS A l true true) n e)) := by rw [hL]; exact hl
    obtain ⟨q', C, hs2, f1, f2, f3, f4, f5⟩ := makes_j93 hk hm hN hl e1 c2 d1 a3 g0 (aSz A l : Int) (aBI A l : Int)
    refine ⟨q', C, hs2, ?_, f2, f3, f4, f5⟩
    rw [if_neg (by clear r1 r2 r3; omega), e2]
    by_cases cs : aSz A l = 0
    · rw [if_pos (by clear r1 r2 r3; omega)]
      exact f1
    · have hmin := e1.2 _ _ (line_row hW hm hN hl (by clear r1 r2 r3; omega))
      have ebn : e ≤ 12 := by clear r1 r2 r3; omega
      have r4 : wrap (e : Int) = e := wrap_n (by clear r1 r2 r3; omega)
      have r5 : wrap (n : Int) = n := wrap_n (by clear r1 r2 r3 r4; omega)
      rw [if_neg (by clear r1 r2 r3 r4 r5; omega), x_line1 c2.1 d1.1 hl', Option.bind_some, he]
      dsimp only
      rw [r4]
      by_cases c2' : e < aBI A l
      · rw [if_pos (by clear r1 r2 r3 r4 r5; omega)]
        exact f1
      · rw [if_neg (by clear r1 r2 r3 r4 r5; omega), x_line1 c2.1 d1.1 hl', Option.bind_some, he]
        dsimp only
        rw [r4, if_pos (by clear r1 r2 r3 r4 r5; omega), r5, if_neg (by clear r1 r2 r3 r4 r5; omega)]
        exact f1
/-! make() -/
/-- what holds when make() has come to line i and has made cnt lines -/
def mkI (A B : zT9) (i cnt : Nat) : Prop := zWF B ∧ zLm B ∧ zLn B ∧ zSm A B ∧ (cnt = 0 → B = A) ∧ cnt ≤ i ∧ (∀ j, i ≤ j → aSz B j = aSz A j) ∧ cntTo (lMd B) i = cntTo (lMd A) i + cnt ∧ ∀ j, j < i → aSz B j = 0 → ∀ n e, gG B (sS B j true true) n 0 e = false
theorem mkI_skip {i cnt : Nat} (h : mkI A B i cnt) (hno : aSz B i = 0 → ∀ n e, gG B (sS B i true true) n 0 e = false) : mkI A B (i + 1) cnt := by
  obtain ⟨h1, h2, h3, h4, h5, h6, h7, h8, h9⟩ := h
  refine ⟨h1, h2, h3, h4, h5, by omega, fun j hj => h7 j (by omega), ?_, fun j hj hz => ?_⟩
  · show cntTo (lMd B) i + (if lMd B i = true then 1 else 0) = cntTo (lMd A) i + (if lMd A i = true then 1 else 0) + cnt
    have e : lMd B i = lMd A i := by unfold lMd; rw [h7 i (Nat.le_refl _)]
    rw [e, h8]
    omega
  · by_cases e : j = i
    · subst e; exact hno hz
    · exact h9 j (by omega) hz
theorem mkI_put {i cnt n e : Nat} (h : mkI A B i cnt) (hi : i < aL B) (hz : aSz B i = 0) (hg : gM B (sS B i true true) n 0 e) : mkI A (aPut B i n (rW B (sS B i true true) n e)) (i + 1) (cnt + 1) := by
  obtain ⟨h1, h2, h3, h4, h5, h6, h7, h8, h9⟩ := h
  have h12 : ∀ j, aSz B j ≤ 12 := fun j => (h1.2.2.2.2.2.2.2.2.1 j).1
  have hpos := gM_pos h1 hg
  have hiv := zIv_put h1 h2 h3 hi hg
  have hO : zOL B (aPut B i n (rW B (sS B i true true) n e)) i := aPut_ol h12 n _
  have hsz := aPut_sz B i n (rW B (sS B i true true) n e)
  have hWf := aPut_wf h1 (sS_ok B i true true) hi hg
  generalize aPut B i n (rW B (sS B i true true) n e) = C at *
  refine ⟨hWf, hiv.1, hiv.2, zSm_trans h4 hO.1, fun q => absurd q (Nat.succ_ne_zero _), by omega, fun j hj => ?_, ?_, fun j hj hz2 => ?_⟩
  · rw [hsz, if_neg (by omega), h7 j (by omega)]
  · show cntTo (lMd C) i + (if lMd C i = true then 1 else 0) = cntTo (lMd A) i + (if lMd A i = true then 1 else 0) + (cnt + 1)
    have e1 : cntTo (lMd C) i = cntTo (lMd B) i := cntTo_congr (fun j hj => by unfold lMd; rw [hsz, if_neg (by omega)])
    have e2 : lMd C i = true := by unfold lMd; rw [hsz, if_pos rfl]; exact decide_eq_true hpos
    have e3 : lMd A i = false := by unfold lMd; rw [← h7 i (Nat.le_refl _), hz]; rfl
    rw [e1, e2, e3, h8, if_pos rfl, if_neg (by decide)]
    omega
  · have hne : j ≠ i := fun g => by
      rw [g, hsz, if_pos rfl] at hz2
      omega
    have hz3 : aSz B j = 0 := by rw [hsz, if_neg hne] at hz2; exact hz2
    have hno := h9 j (by omega) hz3
    intro n' e'
    cases hc : gG C (sS C j true true) n' 0 e' with
    | false => rfl
    | true =>
      exfalso
      have hle : ∀ w, aUB B (j : Int) w ≤ aUB C (j : Int) w := by
        intro w
        unfold aUB
        rw [(zSm_get hO.1).2.2.2.1]
        refine cntTo_mono (fun x _ hx => ?_)
        rw [Bool.and_eq_true] at hx ⊢
        refine ⟨hx.1, ?_⟩
        by_cases ex : x = i
        · subst ex
          obtain ⟨k, k1, -⟩ := (aUs_iff _ _ _).mp hx.2
          omega
        · rw [zOL_us hO ex]; exact hx.2
      have hsub : ∀ w b, w < aN B → sS C j true true w b = true → sS B j true true w b = true := by
        intro w b _ hs
        obtain ⟨g1, g2, g3, g4, g5, g6, g7, g8, g9, g10, g11, g12, g13⟩ := zSm_get hO.1
        unfold sS sU at hs ⊢
        rw [g2, g5, g6, g8, g9, g10, g11, g13] at hs
        rw [Bool.and_eq_true, Bool.and_eq_true, Bool.and_eq_true] at hs ⊢
        obtain ⟨⟨⟨s1, s2⟩, s3⟩, s4⟩ := hs
        refine ⟨⟨⟨?_, s2⟩, s3⟩, s4⟩
        have := of_decide_eq_true s1
        exact decide_eq_true (Nat.lt_of_le_of_lt (hle w) this)
      have := gG_same hO.1 hsub hc
      rw [hno] at this
      cases this
theorem make_walk (hk : zOK A hs sn tx) (K : Int → Int → zM → Option (Int × zM)) : ∀ (d i n cnt : Nat) (q : zM) (B : zT9), i + d = aL A → d < n → mkI A B i cnt → zGX q B (if cnt = 0 then hs else pushH hs A) sn tx → ∃ (cnt' : Nat) (B' : zT9) (q' : zM), Ev_make_L4 K n (cnt : Int) (i : Int) q = K (cnt' : Int) (aL A : Int) q' ∧ mkI A B' (aL A) cnt' ∧ zGX q' B' (if cnt' = 0 then hs else pushH hs A) sn tx := by
  intro d
  induction d with
  | zero =>
    intro i n cnt q B hi hn hI hX
    obtain ⟨n, rfl⟩ : ∃ m, n = m + 1 := ⟨n - 1, by omega⟩
    have hL : aL B = aL A := (zSm_get hI.2.2.2.1).2.2.2.1
    have ei : i = aL A := by omega
    subst ei
    refine ⟨cnt, B, q, ?_, hI, hX⟩
    rw [Ev_make_L4, show Po_size q = some (aL B : Int) from congrArg some hX.1.2.2.2.1, Option.bind_some, hL, if_neg (Int.lt_irrefl _)]
  | succ d ih =>
    intro i n cnt q B hi hn hI hX
    obtain ⟨n, rfl⟩ : ∃ m, n = m + 1 := ⟨n - 1, by omega⟩
    have hL : aL B = aL A := (zSm_get hI.2.2.2.1).2.2.2.1
    have hW := hI.1
    have w8 := hW.2.2.2.2.2.1
    have hil : i < aL B := by omega
    have hle := hI.2.2.2.2.2.1
    obtain ⟨a1, a2, a3, a4, a5⟩ := ar_ma hil w8 hle
    obtain ⟨b1, b2, b3⟩ := ar_sz (hW.2.2.2.2.2.2.2.2.1 i).1
    have x0 : Po_size q = some (aL B : Int) := congrArg some hX.1.2.2.2.1
    have x1 := Po_wordsIn_eq hX.1 hW hil
    have hi' : i + 1 + d = aL A := by clear a1 a2 a3 a4 a5 b1 b2 b3; omega
    rw [Ev_make_L4, x0, Option.bind_some, a1, a2, if_pos a3, x1, Option.bind_some, b1]
    clear x0 x1
    by_cases c0 : aSz B i = 0
    · rw [if_pos (b2.mpr c0)]
      obtain ⟨f, q1, s1, s2, s3, s4⟩ := seek11 hX.1 hW hil
      have g1 := zGX_sk hX s2 s3
      rw [s1, Option.bind_some, wrap_zb]
      rcases s4 with ⟨f1, -, -, f4⟩ | ⟨f1, k, e, f2, f3, f4, f5⟩
      · rw [f1, if_pos (show zb false = 0 from rfl)]
        exact ih (i + 1) n cnt q1 B hi' (Nat.lt_of_succ_lt_succ hn) (mkI_skip hI (fun _ => f4)) g1
      · rw [f1, if_neg (show ¬ zb true = 0 by decide), a4]
        have hI' := mkI_put hI hil c0 f2
        by_cases cc : cnt = 0
        · have hBA := hI.2.2.2.2.1 cc
          rw [if_pos cc] at g1
          rw [if_pos (a5.mpr cc)]
          have g1' : zGX q1 A hs sn tx := by rw [← hBA]; exact g1
          obtain ⟨q2, t1, t2, t3⟩ := record_eq g1' hk
          have e5 : q2.1 114 5 = k := by rw [(t3 114 (Or.inr (by decide))).1]; exact f4
          have er : ∀ j, j < k → q2.1 119 j = rW B (sS B i true true) k e j := fun j hj => by rw [(t3 119 (Or.inr (by decide))).1]; exact f5 j hj
          have t2' : zGX q2 B (pushH hs A) sn tx := by rw [hBA]; exact t2
          obtain ⟨q3, v1, v2, v3⟩ := put_step t2' hW hil f2 e5 er
          rw [t1, Option.bind_some, v1, Option.bind_some]
          exact ih (i + 1) n (cnt + 1) q3 _ hi' (Nat.lt_of_succ_lt_succ hn) hI' (by rw [if_neg (Nat.succ_ne_zero _)]; exact v2)
        · rw [if_neg cc] at g1
          rw [if_neg (fun h => cc (a5.mp h))]
          obtain ⟨q3, v1, v2, v3⟩ := put_step g1 hW hil f2 f4 f5
          rw [v1, Option.bind_some]
          exact ih (i + 1) n (cnt + 1) q3 _ hi' (Nat.lt_of_succ_lt_succ hn) hI' (by rw [if_neg (Nat.succ_ne_zero _)]; exact v2)
    · rw [if_neg (fun h => c0 (b2.mp h))]
      exact ih (i + 1) n cnt q B hi' (Nat.lt_of_succ_lt_succ hn) (mkI_skip hI (fun g => absurd g c0)) hX
theorem Ev_make_eq {q : zM} (hX : zGX q A hs sn tx) (hk : zOK A hs sn tx) (hm : zLm A) (hN : zLn A) : ∃ (cnt : Nat) (B : zT9) (q' : zM), Ev_make q = some (if cnt = 0 then -5 else (cnt : Int), q') ∧ mkI A B (aL A) cnt ∧ cnt ≤ 8 ∧ zGX q' B (if cnt = 0 then hs else pushH hs A) sn tx ∧ zOK B (if cnt = 0 then hs else pushH hs A) sn tx := by
  have hW := hk.1
  have w8 := hW.2.2.2.2.2.1
  obtain ⟨cnt, B, q', r1, r2, r3⟩ := make_walk hk (fun v1_11 v2_12 q_13 => if wrap v1_11 = (0 : Int) then some ((-5 : Int), q_13) else some (v1_11, q_13)) (aL A) 0 5000 0 q A (Nat.zero_add _) (by omega) ⟨hW, hm, hN, fun _ _ _ => rfl, fun _ => rfl, Nat.le_refl _, fun _ _ => rfl, rfl, fun j hj => absurd hj (Nat.not_lt_zero _)⟩ (by rw [if_pos rfl]; exact hX)
  have c8 : cnt ≤ 8 := Nat.le_trans r2.2.2.2.2.2.1 w8
  obtain ⟨k1, k2, k3⟩ := ar_sz (s := cnt) (Nat.le_trans c8 (by decide))
  have ex : Ev_make q = if wrap (cnt : Int) = (0 : Int) then some ((-5 : Int), q') else some ((cnt : Int), q') := r1
  rw [k1] at ex
  refine ⟨cnt, B, q', ?_, r2, c8, r3, ?_⟩
  · rw [ex]
    by_cases c : cnt = 0
    · rw [if_pos (k2.mpr c), if_pos c]
    · rw [if_neg (fun h => c (k2.mp h)), if_neg c]
  · by_cases c : cnt = 0
    · rw [if_pos c, r2.2.2.2.2.1 c]
      exact hk
    · rw [if_neg c]
      exact zOK_push hk r2.1
/-- where no empty line has a row, make() finds nothing -/
theorem make_none {q : zM} (hX : zGX q A hs sn tx) (hk : zOK A hs sn tx) (hno : ∀ j, j < aL A → aSz A j = 0 → ∀ n e, gG A (sS A j true true) n 0 e = false) : ∃ q', Ev_make q = some (-5, q') ∧ zGX q' A hs sn tx := by
  have hW := hk.1
  have w8 := hW.2.2.2.2.2.1
  have main : ∀ (K : Int → Int → zM → Option (Int × zM)) (d i n : Nat) (q : zM), i + d = aL A → d < n → zGX q A hs sn tx → ∃ q', Ev_make_L4 K n 0 (i : Int) q = K 0 (aL A : Int) q' ∧ zGX q' A hs sn tx := by
    intro K d
    induction d with
    | zero =>
      intro i n q hi hn hX
      obtain ⟨n, rfl⟩ : ∃ m, n = m + 1 := ⟨n - 1, by omega⟩
      have ei : i = aL A := by omega
      subst ei
      refine ⟨q, ?_, hX⟩
      rw [Ev_make_L4, show Po_size q = some (aL A : Int) from congrArg some hX.1.2.2.2.1, Option.bind_some, if_neg (Int.lt_irrefl _)]
    | succ d ih =>
      intro i n q hi hn hX
      obtain ⟨n, rfl⟩ : ∃ m, n = m + 1 := ⟨n - 1, by omega⟩
      have hil : i < aL A := by omega
      obtain ⟨a1, a2, a3, a4, a5⟩ := ar_ma hil w8 (Nat.zero_le _)
      obtain ⟨b1, b2, b3⟩ := ar_sz (hW.2.2.2.2.2.2.2.2.1 i).1
      have x0 : Po_size q = some (aL A : Int) := congrArg some hX.1.2.2.2.1
      have x1 := Po_wordsIn_eq hX.1 hW hil
      have hi' : i + 1 + d = aL A := by clear a1 a2 a3 a4 a5 b1 b2 b3; omega
      rw [Ev_make_L4, x0, Option.bind_some, a1, a2, if_pos a3, x1, Option.bind_some, b1]
      clear x0 x1
      by_cases c0 : aSz A i = 0
      · rw [if_pos (b2.mpr c0)]
        obtain ⟨f, q1, s1, s2, s3, s4⟩ := seek11 hX.1 hW hil
        have g1 := zGX_sk hX s2 s3
        rw [s1, Option.bind_some, wrap_zb]
        rcases s4 with ⟨f1, -, -, f4⟩ | ⟨f1, k, e, f2, -⟩
        · rw [f1, if_pos (show zb false = 0 from rfl)]
          exact ih (i + 1) n q1 hi' (Nat.lt_of_succ_lt_succ hn) g1
        · have := f2.1
          rw [hno i hil c0] at this
          cases this
      · rw [if_neg (fun h => c0 (b2.mp h))]
        exact ih (i + 1) n q hi' (Nat.lt_of_succ_lt_succ hn) hX
  obtain ⟨q', r1, r2⟩ := main (fun v1_11 v2_12 q_13 => if wrap v1_11 = (0 : Int) then some ((-5 : Int), q_13) else some (v1_11, q_13)) (aL A) 0 5000 q (Nat.zero_add _) (by omega) hX
  exact ⟨q', r1, r2⟩
end MK

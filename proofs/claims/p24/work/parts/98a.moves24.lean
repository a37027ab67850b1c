/-! p24: the calls that change the state, and what always holds of it -/
def zSt (q : zM) (A : zT9) (tx : List Nat) : Prop := ∃ (hs : List zT9) (sn : Nat → Option zT9), zGX q A hs sn tx ∧ zOK A hs sn tx
def zGd (q : zM) (A : zT9) (tx : List Nat) : Prop := zSt q A tx ∧ zLm A ∧ zLn A
section MV
variable {q : zM} {A B : zT9} {tx : List Nat}
theorem zSt_rx (h : zSt q A tx) : zRX q 5 A := by
  obtain ⟨hs, sn, h1, -⟩ := h
  exact h1.1
theorem zSt_wf (h : zSt q A tx) : zWF A := by
  obtain ⟨hs, sn, -, h2⟩ := h
  exact h2.1
/-- all lines empty -/
theorem zIv_empty (hz : ∀ l, aSz B l = 0) : zLm B ∧ zLn B := by
  refine ⟨fun w _ => ?_, fun l _ hs => absurd hs (by rw [hz]; exact Nat.lt_irrefl _)⟩
  rw [aUB_all, cntTo_zero.mpr (fun i _ => ?_)]
  · exact Nat.zero_le _
  · cases hu : aUs B i w with
    | false => rfl
    | true =>
      obtain ⟨k, k1, -⟩ := (aUs_iff _ _ _).mp hu
      rw [hz] at k1
      exact absurd k1 (Nat.not_lt_zero _)
theorem made_none (hz : ∀ l, aSz B l = 0) : cntTo (fun l => decide (0 < aSz B l)) (aL B) = 0 := cntTo_zero.mpr (fun i _ => by rw [hz]; rfl)
/-- a word less -/
theorem sh1_lt {w x n : Nat} (h : x < n - 1) (hw : w < n) : sh1 w x < n := by
  unfold sh1
  by_cases c : x < w
  · rw [if_pos c]; omega
  · rw [if_neg c]; omega
theorem sh1_inj {w a b : Nat} (ha : a ≠ w) (h : dn1 w a = b) : a = sh1 w b := by rw [← h, sh_dn ha]
theorem zIv_rem (hm : zLm A) (hN : zLn A) {w : Nat} (hw : w < aN A) (hW : zWF A) : zLm (aRem A w) ∧ zLn (aRem A w) := by
  refine ⟨fun x hx => ?_, fun l hl hs => ?_⟩
  · have hx : x < aN A - 1 := hx
    refine Nat.le_trans ?_ (hm (sh1 w x) (sh1_lt hx hw))
    rw [aUB_all, aUB_all]
    refine cntTo_mono (fun i _ hu => ?_)
    obtain ⟨k, k1, k2⟩ := (aUs_iff _ _ _).mp hu
    rw [aRem_sz] at k1
    by_cases c : aUs A i w = true
    · rw [if_pos c] at k1
      exact absurd k1 (Nat.not_lt_zero _)
    · rw [if_neg c] at k1
      rw [aRem_wd] at k2
      exact (aUs_iff _ _ _).mpr ⟨k, k1, sh1_inj (aUs_not (by simpa using c) k k1) k2⟩
  · have hl : l < aL A := hl
    rw [aRem_sz] at hs ⊢
    by_cases c : aUs A l w = true
    · rw [if_pos c] at hs
      exact absurd hs (Nat.lt_irrefl _)
    · rw [if_neg c] at hs ⊢
      have cf : aUs A l w = false := by simpa using c
      obtain ⟨n1, n2, n3⟩ := hN l hl hs
      have h0 := aUs_not cf 0 hs
      have h9 := aUs_not cf (aSz A l - 1) (by omega)
      have l9 := (hW.2.2.2.2.2.2.1 _ (line_at hW (show aSz A l - 1 < aSz A l by omega)).1)
      rw [aRem_bt A w l cf _ (Nat.le_refl _), aRem_wd, aRem_wd]
      have e1 : aNl (aRem A w) (dn1 w (aWd A l (aSz A l - 1))) = aNl A (aWd A l (aSz A l - 1)) := by
        show aNl A (sh1 w (dn1 w (aWd A l (aSz A l - 1)))) = _
        rw [sh_dn h9]
      rw [e1, aRem_lt A w _ (by omega), aRem_lt A w _ (by omega), sh_dn h0, sh_dn h9]
      exact ⟨n1, n2, n3⟩
/-- another limit -/
theorem aLim_us (A : zT9) (w v l x : Nat) : aUs (aLim A w v) l x = aUs A l x := by
  unfold aUs aWd aSz
  rw [aLim_k A w v (by decide), aLim_k A w v (by decide)]
theorem aLim_ub (A : zT9) (w v x : Nat) : aUB (aLim A w v) (-1) x = aUB A (-1) x := by
  rw [aUB_all, aUB_all]
  have e : aL (aLim A w v) = aL A := by unfold aL; rw [aLim_k A w v (by decide)]
  rw [e]
  exact cntTo_congr (fun i _ => aLim_us A w v i x)
theorem aLim_li (A : zT9) (w v x : Nat) : aLi (aLim A w v) x = if x = w then v else aLi A x := by
  unfold aLi aLim
  by_cases c : x = w
  · rw [if_pos ⟨rfl, c⟩, if_pos c]
  · rw [if_neg (fun g => c g.2), if_neg c]
theorem zIv_lim (hm : zLm A) (hN : zLn A) {w v : Nat} (hu : aUB A (-1) w ≤ v) : zLm (aLim A w v) ∧ zLn (aLim A w v) := by
  have e0 := aLim_k A w v (k := 0) (by decide)
  refine ⟨fun x hx => ?_, fun l hl hs => ?_⟩
  · have hx : x < aN A := by unfold aN at hx ⊢; rw [e0] at hx; exact hx
    rw [aLim_ub, aLim_li]
    by_cases c : x = w
    · rw [if_pos c, c]; exact hu
    · rw [if_neg c]; exact hm x hx
  · have e1 := aLim_k A w v (k := 1) (by decide)
    have e2 := aLim_k A w v (k := 2) (by decide)
    have e5 := aLim_k A w v (k := 5) (by decide)
    have e6 := aLim_k A w v (k := 6) (by decide)
    have e7 := aLim_k A w v (k := 7) (by decide)
    have e8 := aLim_k A w v (k := 8) (by decide)
    have e9 := aLim_k A w v (k := 9) (by decide)
    have h := hN l (by unfold aL at hl ⊢; rw [e0] at hl; exact hl) (by unfold aSz at hs ⊢; rw [e7] at hs; exact hs)
    rw [aBt_congr e2 e8]
    unfold aSz aB aLt aWd aFe aLe aNl at *
    rw [e0, e1, e5, e6, e7, e8, e9]
    exact h
/-- a word more -/
theorem zIv_add (hm : zLm A) (hN : zLn A) (hW : zWF A) {σ : zW} (hI : wI σ) : zLm (aAdd A σ) ∧ zLn (aAdd A σ) := by
  have hus : ∀ l x, aUs (aAdd A σ) l x = aUs A l x := fun l x => rfl
  have hub : ∀ x, aUB (aAdd A σ) (-1) x = aUB A (-1) x := fun x => rfl
  refine ⟨fun x hx => ?_, fun l hl hs => ?_⟩
  · have hx : x < aN A + 1 := hx
    rw [hub]
    by_cases c : x = aN A
    · subst c
      rw [aUB_all, cntTo_zero.mpr (fun i _ => ?_)]
      · exact Nat.zero_le _
      · cases hu : aUs A i (aN A) with
        | false => rfl
        | true =>
          obtain ⟨k, k1, k2⟩ := (aUs_iff _ _ _).mp hu
          have := (line_at hW k1).1
          omega
    · rw [(aAdd_old (σ := σ) (show x < aN A by omega)).2.2.2]
      exact hm x (by omega)
  · have hs : 0 < aSz A l := hs
    obtain ⟨n1, n2, n3⟩ := hN l hl hs
    have l0 := line_at hW hs
    have l9 := line_at hW (show aSz A l - 1 < aSz A l by omega)
    have b9 := (hW.2.2.2.2.2.2.1 _ l9.1).2.1
    show aBt (aAdd A σ) l (aSz A l) = aB A ∧ aLt (aAdd A σ) (aWd A l 0) 0 = aFe A l ∧ aLt (aAdd A σ) (aWd A l (aSz A l - 1)) (aNl (aAdd A σ) (aWd A l (aSz A l - 1)) - 1) = aLe A l
    rw [aAdd_bt hW l _ (Nat.le_refl _), (aAdd_old (σ := σ) l9.1).1, aAdd_lt (by omega), aAdd_lt (by omega), if_neg (Nat.ne_of_lt l0.1), if_neg (Nat.ne_of_lt l9.1)]
    exact ⟨n1, n2, n3⟩
/-! the calls -/
theorem zOK_tx {hs : List zT9} {sn : Nat → Option zT9} {tx' : List Nat} (hk : zOK A hs sn tx) (h1 : tx'.length ≤ 40) (h2 : ∀ c ∈ tx', c < 65536) : zOK A hs sn tx' := ⟨hk.1, hk.2.1, hk.2.2.1, hk.2.2.2.1, h1, h2⟩
theorem s_type (h : zSt q A tx) {c : Nat} (hl : tx.length < 40) (hc : c < 65536) : ∃ q', Ev_type q (c : Int) = some (((tx.length + 1 : Nat) : Int), q') ∧ zSt q' A (tx ++ [c]) := by
  obtain ⟨hs, sn, hX, hk⟩ := h
  obtain ⟨q', a1, a2, -⟩ := Ev_type_eq hX hk hc
  rw [if_pos hl] at a1 a2
  refine ⟨q', a1, hs, sn, a2, zOK_tx hk (by rw [List.length_append, List.length_singleton]; omega) (fun x hx => ?_)⟩
  rcases List.mem_append.mp hx with g | g
  · exact hk.2.2.2.2.2 x g
  · rw [List.mem_singleton.mp g]; exact hc
theorem s_clear (h : zSt q A tx) : ∃ q', Ev_clearText q = some ((tx.length : Int), q') ∧ zSt q' A [] := by
  obtain ⟨hs, sn, hX, hk⟩ := h
  obtain ⟨q', a1, a2, -⟩ := Ev_clearText_eq hX
  exact ⟨q', a1, hs, sn, a2, zOK_tx hk (Nat.zero_le _) (fun x hx => (by cases hx))⟩
theorem s_edges_bad (h : zSt q A tx) (he : ¬ tEdge tx) : Ev_setEdges q = some (-4, q) := by
  obtain ⟨hs, sn, hX, hk⟩ := h
  exact Ev_setEdges_bad hX hk he
theorem s_edges_ok (h : zSt q A tx) (he : tEdge tx) : ∃ q', Ev_setEdges q = some (((tx.length / 2 : Nat) : Int), q') ∧ zSt q' (aEdg A (tx.length / 2) tx) tx := by
  obtain ⟨hs, sn, hX, hk⟩ := h
  obtain ⟨q', a1, a2, -⟩ := Ev_setEdges_ok hX hk he
  exact ⟨q', a1, _, sn, a2, zOK_push hk (aEdg_wf hk.1 he)⟩
theorem s_find_yes (h : zSt q A tx) (he : tPl tx) : Ev_find q = some (if 1 ≤ tx.length ∧ fstTo (isW A tx.length (fun i => tx.getD i 0)) (aN A) < aN A then (fstTo (isW A tx.length (fun i => tx.getD i 0)) (aN A) : Int) else -5) := by
  obtain ⟨hs, sn, hX, hk⟩ := h
  exact Ev_find_yes hX hk he
theorem s_find_no (h : zSt q A tx) (he : ¬ tPl tx) : Ev_find q = some (-5) := by
  obtain ⟨hs, sn, hX, hk⟩ := h
  exact Ev_find_no hX hk he
/-- what addWord() answers, and the state that it leaves -/
def awP (A : zT9) (tx : List Nat) : Int × zT9 := match wres (fun i => tx.getD i 0) tx.length 0 zW0 with
  | .inl j => (-100 - (j : Int), A)
  | .inr σ => if fstTo (isW A σ.2.1 σ.2.2.2.2.2) (aN A) < aN A then (-4, A) else if aN A = 40 then (-3, A) else ((aN A : Int), aAdd A σ)
theorem awR_P (A : zT9) (hs : List zT9) (tx : List Nat) : (awR A hs tx).1 = (awP A tx).1 ∧ (awR A hs tx).2.1 = (awP A tx).2 := by
  unfold awR awP
  cases wres (fun i => tx.getD i 0) tx.length 0 zW0 with
  | inl j => exact ⟨rfl, rfl⟩
  | inr σ =>
    dsimp only
    by_cases c1 : fstTo (isW A σ.2.1 σ.2.2.2.2.2) (aN A) < aN A
    · rw [if_pos c1, if_pos c1]; exact ⟨rfl, rfl⟩
    · rw [if_neg c1, if_neg c1]
      by_cases c2 : aN A = 40
      · rw [if_pos c2, if_pos c2]; exact ⟨rfl, rfl⟩
      · rw [if_neg c2, if_neg c2]; exact ⟨rfl, rfl⟩
theorem s_add (h : zSt q A tx) : ∃ q', Ev_addWord q = some ((awP A tx).1, q') ∧ zSt q' (awP A tx).2 tx := by
  obtain ⟨hs, sn, hX, hk⟩ := h
  obtain ⟨q', a1, a2, -⟩ := Ev_addWord_eq hX hk
  have hk' := (awR_ok hk).1
  rw [(awR_P A hs tx).1] at a1
  rw [(awR_P A hs tx).2] at a2 hk'
  exact ⟨q', a1, _, sn, a2, hk'⟩
theorem s_setMetre (h : zSt q A tx) {b s : Nat} (hb : 2 ≤ b ∧ b ≤ 12) (hs2 : s < 2 ^ b) : ∃ q', Ev_setMetre q (b : Int) (s : Int) = some ((cntTo (fun l => decide (0 < aSz A l)) (aL A) : Int), q') ∧ zSt q' (aMet A b s) tx := by
  obtain ⟨hs, sn, hX, hk⟩ := h
  obtain ⟨q', a1, a2, -⟩ := Ev_setMetre_ok hX hk hb hs2
  exact ⟨q', a1, _, sn, a2, zOK_push hk (aMet_wf hk.1 hb hs2)⟩
theorem s_remove (h : zSt q A tx) {w : Nat} (hw : w < aN A) : ∃ q', Ev_removeWord q (w : Int) = some ((aUB A (-1) w : Int), q') ∧ zSt q' (aRem A w) tx := by
  obtain ⟨hs, sn, hX, hk⟩ := h
  obtain ⟨q', a1, a2, -⟩ := Ev_removeWord_ok hX hk hw
  rw [← aUB_all] at a1
  exact ⟨q', a1, _, sn, a2, zOK_push hk (aRem_wf hk.1 hw)⟩
theorem s_limit_used (h : zSt q A tx) {w v : Nat} (hw : w < aN A) (hv : 1 ≤ v ∧ v ≤ 9) (hu : v < aUB A (-1) w) : Ev_setLimit q (w : Int) (v : Int) = some (-4, q) := by
  have hX := zSt_rx h
  have hW := zSt_wf h
  have w1 := hW.1
  have w8 := aUB_le hW (-1) w
  unfold Ev_setLimit
  rw [Ws_has_in hX hW hw, Option.bind_some, if_neg one_ne, wrap_n (n := v) (by omega), if_neg (by omega), if_neg (by omega), Po_linesUsing_eq hX hW (by omega), Option.bind_some, wrap_n (n := aUB A (-1) w) (by omega), if_pos (by omega)]
theorem s_limit_same (h : zSt q A tx) {w v : Nat} (hw : w < aN A) (hv : 1 ≤ v ∧ v ≤ 9) (hu : aUB A (-1) w ≤ v) (hn : aLi A w = v) : Ev_setLimit q (w : Int) (v : Int) = some (-5, q) := by
  have hX := zSt_rx h
  have hW := zSt_wf h
  have w1 := hW.1
  unfold Ev_setLimit
  rw [Ws_has_in hX hW hw, Option.bind_some, if_neg one_ne, wrap_n (n := v) (by omega), if_neg (by omega), if_neg (by omega), Po_linesUsing_eq hX hW (by omega), Option.bind_some, wrap_n (n := aUB A (-1) w) (by omega), if_neg (by omega), Ws_limitOf_eq hX hW hw, Option.bind_some, hn, wrap_n (n := v) (by omega), if_pos rfl]
theorem s_limit_ok (h : zSt q A tx) {w v : Nat} (hw : w < aN A) (hv : 1 ≤ v ∧ v ≤ 9) (hu : aUB A (-1) w ≤ v) (hn : aLi A w ≠ v) : ∃ q', Ev_setLimit q (w : Int) (v : Int) = some ((aLi A w : Int), q') ∧ zSt q' (aLim A w v) tx := by
  obtain ⟨hs, sn, hX, hk⟩ := h
  obtain ⟨q', a1, a2, -⟩ := Ev_setLimit_ok hX hk hw hv hu hn
  exact ⟨q', a1, _, sn, a2, zOK_push hk (aLim_wf hk.1 hv)⟩
theorem s_clearLine_none (h : zSt q A tx) {l : Nat} (hl : l < aL A) (h0 : aSz A l = 0) : Ev_clearLine q (l : Int) = some (-5, q) := by
  have hX := zSt_rx h
  have hW := zSt_wf h
  unfold Ev_clearLine
  rw [Po_has_in hX hW hl, Option.bind_some, if_neg one_ne, Po_wordsIn_eq hX hW hl, Option.bind_some, h0, if_pos (by decide)]
theorem s_clearLine_ok (h : zSt q A tx) {l : Nat} (hl : l < aL A) (h0 : aSz A l ≠ 0) : ∃ q', Ev_clearLine q (l : Int) = some ((aSz A l : Int), q') ∧ zSt q' (aEmpL A l) tx := by
  obtain ⟨hs, sn, hX, hk⟩ := h
  obtain ⟨q', a1, a2, -⟩ := Ev_clearLine_ok hX hk hl h0
  exact ⟨q', a1, _, sn, a2, zOK_push hk (aEmpL_wf hk.1 l)⟩
/-! errors() -/
theorem has_out (h : zSt q A tx) : Ws_has q (aN A : Int) = some 0 := by
  have hW := zSt_wf h
  have w1 := hW.1
  rw [Ws_has_eq (zSt_rx h) hW (by omega), if_neg (fun g => Int.lt_irrefl _ g.2)]
theorem phas_out (h : zSt q A tx) {v : Int} (hv : v = (aL A : Int) ∨ v = -1) : Po_has q v = some 0 := by
  have hW := zSt_wf h
  have w1 := hW.2.2.2.2.2.1
  rw [Po_has_eq (zSt_rx h) hW (by omega), if_neg (by omega)]
theorem Lw_errors_eq (h : zSt q A tx) : Lw_errors q = some (1, q) := by
  have hX := zSt_rx h
  have hW := zSt_wf h
  have w1 := hW.1
  have rm : Ev_removeWord q (aN A : Int) = some (-1, q) := by unfold Ev_removeWord; rw [has_out h, Option.bind_some, if_pos zero_eq]
  have sl : Ev_setLimit q (aN A : Int) 1 = some (-1, q) := by unfold Ev_setLimit; rw [has_out h, Option.bind_some, if_pos zero_eq]
  have m1 : Ev_setMetre q 1 0 = some (-2, q) := by unfold Ev_setMetre; rw [if_pos (by decide)]
  have m2 : Ev_setMetre q 13 0 = some (-2, q) := by unfold Ev_setMetre; rw [if_neg (by decide), if_pos (by decide)]
  have m3 : Ev_setMetre q 3 8 = some (-2, q) := by unfold Ev_setMetre; rw [if_neg (by decide), if_neg (by decide), if_neg (by decide), if_neg (by decide)]
  have m4 : Ev_setMetre q 3 (-1) = some (-2, q) := by unfold Ev_setMetre; rw [if_neg (by decide), if_neg (by decide), if_pos (by decide)]
  have ml : Ev_makeLine q (aL A : Int) = some (-1, q) := by unfold Ev_makeLine; rw [phas_out h (Or.inl rfl), Option.bind_some, if_pos zero_eq]
  have cl : Ev_clearLine q (-1) = some (-1, q) := by unfold Ev_clearLine; rw [phas_out h (Or.inr rfl), Option.bind_some, if_pos zero_eq]
  have nm : Ev_nearMiss q (aL A : Int) 0 = some (-1, q) := by unfold Ev_nearMiss; rw [phas_out h (Or.inl rfl), Option.bind_some, if_pos zero_eq]
  have kp : Ev_keep q 2 = some (-1, q) := Ev_keep_out (by decide) (by decide)
  have rs : Ev_restore q 2 = some (-1, q) := Ev_restore_out (by decide) (by decide)
  unfold Lw_errors
  rw [x_count0 hX hW, Option.bind_some, x_count1 hX hW, Option.bind_some, rm, Option.bind_some]
  dsimp only
  rw [if_pos (by decide), sl, Option.bind_some]
  dsimp only
  rw [if_pos (by decide), m1, Option.bind_some]
  dsimp only
  rw [if_pos (by decide), m2, Option.bind_some]
  dsimp only
  rw [if_pos (by decide), m3, Option.bind_some]
  dsimp only
  rw [if_pos (by decide), m4, Option.bind_some]
  dsimp only
  rw [if_pos (by decide), ml, Option.bind_some]
  dsimp only
  rw [if_pos (by decide), cl, Option.bind_some]
  dsimp only
  rw [if_pos (by decide)]
  unfold Lw_errors_j100
  rw [if_neg one_ne, x_letter_out hX hW, Option.bind_some, if_pos (by decide), x_wordAt_out hX hW, Option.bind_some, if_pos (by decide), nm, Option.bind_some]
  dsimp only
  rw [if_pos (by decide), kp, Option.bind_some]
  dsimp only
  rw [if_pos (by decide), rs, Option.bind_some]
  dsimp only
  rw [if_pos (by decide), wrap_n (n := aN A) (by omega)]
  by_cases c : (aN A : Int) = 0
  · rw [if_pos c]
  · have s10 : Ev_setLimit q 0 10 = some (-2, q) := by
      have hi := Ws_has_in hX hW (w := 0) (by omega)
      have hi : Ws_has q 0 = some 1 := hi
      unfold Ev_setLimit
      rw [hi, Option.bind_some, if_neg one_ne, if_neg (by decide), if_pos (by decide)]
    rw [if_neg c, s10, Option.bind_some]
    dsimp only
    rw [if_pos (by decide)]
end MV

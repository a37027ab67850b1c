/-! the search: the reference fills its table -/
section FL
variable {q : zM} {A : zT9} {l : Nat} {fr lr : Bool}
theorem ar_fol {x b n e s d B : Nat} (h1 : x < 40) (h2 : b < B) (h3 : n ≤ 12) (h4 : e ≤ 12) (h5 : s ≤ 4) (h6 : d ≤ 1) (h7 : B ≤ 12) : b < 13 ∧ wrap (x : Int) = x ∧ ((0 : Int) ≤ (x : Int) ∧ (x : Int) < 40) ∧ wrap (b : Int) = b ∧ wrap (n : Int) = n ∧ wrap (e : Int) = e ∧ wrap (d : Int) = d ∧ wrap (B : Int) = B ∧ wrap ((b : Int) + (s : Int)) = ((b + s : Nat) : Int) ∧ ¬ ((d : Int) < 0) := ⟨by omega, wrap_n (by omega), by omega, wrap_n (by omega), wrap_n (by omega), wrap_n (by omega), wrap_n (by omega), wrap_n (by omega), wrap_n (n := b + s) (by omega), by omega⟩
theorem ar_pl {b e n : Nat} (h1 : b < 13) (h2 : e ≤ 12) (h3 : n ≤ 12) : wrap (169 * (b : Int) + 13 * (e : Int) + (n : Int)) = ((169 * b + 13 * e + n : Nat) : Int) ∧ ((0 : Int) ≤ ((169 * b + 13 * e + n : Nat) : Int) ∧ ((169 * b + 13 * e + n : Nat) : Int) < 2197) := ⟨wrap_n (n := 169 * b + 13 * e + n) (by omega), by omega⟩
theorem zPM_fr {q q' : zM} (h1 : q'.1 126 = q.1 126) (h2 : q'.1 134 = q.1 134) (hP : zPM q A l fr lr) : zPM q' A l fr lr := by
  unfold zPM
  rw [h1, h2]
  exact hP
theorem follows_eq (hM : zRM (q.1 127) A) (hW : zWF A) (hP : zPM q A l fr lr) (hl : l < aL A) {b e n w : Nat} (hT : zTB q A l fr lr (b + 1)) (hw : w < aN A) (hb : b < aB A) (he : e ≤ 12) (hn : n ≤ 11) : Mo_followsBy q (w : Int) (b : Int) (e : Int) ((n + 1 : Nat) : Int) = some (zb (fB A l fr lr n b e w)) := by
  have wB := hW.2.2.1
  have sy := (aSt_lt hW hw).2
  have bl := aBd_le A w b
  obtain ⟨b13, a1, a2, a3, a4, a5, a6, a7, a8, c0⟩ := ar_fol (x := w) (b := b) (n := n + 1) (e := e) (s := aSy A w) (d := aBd A w b) (B := aB A) (Nat.lt_of_lt_of_le hw hW.1) hb (Nat.succ_le_succ hn) he sy.1 bl wB
  have e1 := Mo_bendsAt_eq hM hW hw (b := b) (Nat.lt_trans b13 (by decide))
  have e2 := Mo_syllables_eq hM hW hw
  have e3 := Mo_ends_eq hM hW hP hl hw
  have e4 : q.1 127 1 = aB A := hM.2.1
  have e5 := hP.1 w hw
  unfold Mo_followsBy
  rw [e1, Option.bind_some, a1, ck_in a2, Int.toNat_natCast, e5, wrap_zb]
  unfold fB sN
  cases hu : sU A l w with
  | false => rfl
  | true =>
    rw [if_neg (show ¬ zb true = 0 by decide)]
    cases hf : aFitB A w b with
    | false =>
      rw [if_neg (c := false = true) (by simp), if_pos (by decide)]
      rfl
    | true =>
      have fit := ((aFitB_iff A w b).mp hf).1
      rw [if_pos rfl, a6, if_neg c0, a5]
      by_cases cb : aBd A w b ≤ e
      · rw [if_neg (c := (e : Int) < (aBd A w b : Int)) (by clear e4 e5 a1 a3 a4 a5 a6 a7 a8; omega), e2, Option.bind_some, a4, e4, a7, a8, decide_eq_true cb]
        by_cases c1 : n = 0
        · subst c1
          rw [if_pos (show ((0 + 1 : Nat) : Int) = 1 from rfl)]
          by_cases c2 : b + aSy A w = aB A
          · rw [if_pos (by rw [c2]), show decide (b + aSy A w ≠ aB A) = false from decide_eq_false (fun h => h c2)]
            by_cases c3 : aBd A w b = e
            · rw [if_pos (by rw [c3]), e3, Option.bind_some, wrap_zb]
              have g0 : gG A (sS A l fr lr) 0 (b + aSy A w) (e - aBd A w b) = true := gG_zero.mpr ⟨c2, by clear e4 e5 a1 a3 a4 a5 a6 a7 a8; omega⟩
              rw [g0]
              cases (decide (aLt A w (aNl A w - 1) = aLe A l) == lr) <;> rfl
            · rw [if_neg (fun h => c3 (Int.natCast_inj.mp h))]
              have g0 : gG A (sS A l fr lr) 0 (b + aSy A w) (e - aBd A w b) = false := by
                cases g : gG A (sS A l fr lr) 0 (b + aSy A w) (e - aBd A w b) with
                | false => rfl
                | true =>
                  have := (gG_zero.mp g).2
                  clear e4 e5 a1 a3 a4 a5 a6 a7 a8
                  omega
              rw [g0, Bool.and_false]
              rfl
          · rw [if_neg (fun h => c2 (Int.natCast_inj.mp h))]
            have g0 : gG A (sS A l fr lr) 0 (b + aSy A w) (e - aBd A w b) = false := by
              cases g : gG A (sS A l fr lr) 0 (b + aSy A w) (e - aBd A w b) with
              | false => rfl
              | true => exact absurd (gG_zero.mp g).1 c2
            rw [g0, Bool.and_false]
            rfl
        · rw [if_neg (c := ((n + 1 : Nat) : Int) = 1) (by clear e4 e5 a1 a3 a4 a5 a6 a7 a8; omega)]
          by_cases c2 : b + aSy A w < aB A
          · have tb := hT (b + aSy A w) (e - aBd A w b) n (by clear e4 e5 a1 a3 a4 a5 a6 a7 a8; omega) (by clear e4 e5 a1 a3 a4 a5 a6 a7 a8; omega) c2 (by clear e4 e5 a1 a3 a4 a5 a6 a7 a8; omega) (by clear e4 e5 a1 a3 a4 a5 a6 a7 a8; omega) (by clear e4 e5 a1 a3 a4 a5 a6 a7 a8; omega)
            obtain ⟨p1, p2⟩ := ar_pl (b := b + aSy A w) (e := e - aBd A w b) (n := n) (by clear tb e4 e5 a1 a3 a4 a5 a6 a7 a8; omega) (by clear tb e4 e5 a1 a3 a4 a5 a6 a7 a8; omega) (by clear tb e4 e5 a1 a3 a4 a5 a6 a7 a8; omega)
            have p0 : (((169 : Int) * ((b : Int) + (aSy A w : Int))) + ((13 : Int) * ((e : Int) - (aBd A w b : Int)))) + (((n + 1 : Nat) : Int) - 1) = 169 * ((b + aSy A w : Nat) : Int) + 13 * ((e - aBd A w b : Nat) : Int) + (n : Int) := by clear tb p1 p2 e4 e5 a1 a3 a4 a5 a6 a7 a8; omega
            unfold Mo_place
            rw [if_pos (Int.ofNat_lt.mpr c2), Option.bind_some, p0, p1, ck_in p2, Int.toNat_natCast, tb, wrap_zb, decide_eq_true (show b + aSy A w ≠ aB A from Nat.ne_of_lt c2)]
            cases gG A (sS A l fr lr) n (b + aSy A w) (e - aBd A w b) <;> rfl
          · rw [if_neg (fun h => c2 (Int.ofNat_lt.mp h))]
            have g0 : gG A (sS A l fr lr) n (b + aSy A w) (e - aBd A w b) = false := by
              cases g : gG A (sS A l fr lr) n (b + aSy A w) (e - aBd A w b) with
              | false => rfl
              | true =>
                have := (gG_le hW (sS_ok A l fr lr) g).1
                clear e4 e5 a1 a3 a4 a5 a6 a7 a8
                omega
            rw [g0, Bool.and_false]
            rfl
      · rw [if_pos (c := (e : Int) < (aBd A w b : Int)) (by clear e4 e5 a1 a3 a4 a5 a6 a7 a8; omega), decide_eq_false cb]
        cases (decide (b + aSy A w ≠ aB A) || (decide (aLt A w (aNl A w - 1) = aLe A l) == lr)) <;> rfl
theorem fill_L66 (hM : zRM (q.1 127) A) (hW : zWF A) (hP : zPM q A l fr lr) (hl : l < aL A) {b e n : Nat} (hT : zTB q A l fr lr (b + 1)) (hb : b < aB A) (he : e ≤ 12) (hn : n ≤ 11) (v2 : Int) (K : Int → Int → Option zM) (hK : ∀ x y z, K x y = K x z) : Mo_fill_L66 q (b : Int) v2 ((n + 1 : Nat) : Int) (e : Int) K 5000 0 0 = K (zb (tT A l fr lr b e (n + 1))) 0 := by
  have wN := hW.1
  have hs := fstTo_spec (fB A l fr lr n b e) (aN A)
  have hle := fstTo_le (fB A l fr lr n b e) (aN A)
  have htt : tT A l fr lr b e (n + 1) = decide (fstTo (fB A l fr lr n b e) (aN A) < aN A) := anyTo_fst _ _
  rw [htt]
  clear htt
  generalize fstTo (fB A l fr lr n b e) (aN A) = x at hs hle
  have fol : ∀ w, w < aN A → Mo_followsBy q (w : Int) (b : Int) (e : Int) ((n + 1 : Nat) : Int) = some (zb (fB A l fr lr n b e w)) := fun w hw => follows_eq hM hW hP hl hT hw hb he hn
  have e0 : q.1 127 0 = aN A := hM.1
  have go : ∀ m w, w < aN A → Mo_fill_L66 q (b : Int) v2 ((n + 1 : Nat) : Int) (e : Int) K (m + 1) 0 (w : Int) = Mo_fill_L66 q (b : Int) v2 ((n + 1 : Nat) : Int) (e : Int) K m (zb (fB A l fr lr n b e w)) ((w + 1 : Nat) : Int) := fun m w hw => by
    have f := fol w hw
    rw [Mo_fill_L66, e0]
    clear e0
    rw [wrap_n (n := w) (by omega), wrap_n (n := aN A) (by omega), if_pos (by omega), if_pos zero_eq, f, Option.bind_some]
    rfl
  have h2 := for_to (G := fun m w => Mo_fill_L66 q (b : Int) v2 ((n + 1 : Nat) : Int) (e : Int) K m 0 (w : Int)) (k := x) (fun m w hw => by
    show Mo_fill_L66 q _ _ _ _ K (m + 1) 0 (w : Int) = _
    rw [go m w (by clear e0; omega), hs.1 w hw]
    rfl) x (5000 - x) (Nat.le_refl _)
  rw [Nat.sub_self, show 5000 - x + x = 5000 by clear e0 h2; omega] at h2
  refine Eq.trans h2 ?_
  show Mo_fill_L66 q _ _ _ _ K (5000 - x) 0 (x : Int) = _
  clear h2
  obtain ⟨m, hm⟩ : ∃ m, 5000 - x = m + 1 + 1 := ⟨4998 - x, by clear e0; omega⟩
  rw [hm]
  by_cases c : x < aN A
  · rw [go _ x c, hs.2 c, Mo_fill_L66, decide_eq_true c]
    split
    · rw [if_neg (show ¬ wrap (zb true) = 0 by decide)]
      exact hK _ _ _
    · exact hK _ _ _
  · have ex : x = aN A := by clear e0; omega
    rw [Mo_fill_L66, e0, ex, if_neg (Int.lt_irrefl _), decide_eq_false (Nat.lt_irrefl _)]
    exact hK _ _ _
theorem lowest_eq (hM : zRM (q.1 127) A) (hW : zWF A) (hP : zPM q A l fr lr) (hl : l < aL A) {b e n : Nat} (hT : zTB q A l fr lr (b + 1)) (hb : b < aB A) (he : e ≤ 12) (hn : n ≤ 11) : Mo_lowest q (b : Int) (e : Int) ((n + 1 : Nat) : Int) = some (if gG A (sS A l fr lr) (n + 1) b e = true then (gF A (sS A l fr lr) n b e : Int) else -5) := by
  have wN := hW.1
  have wB := hW.2.2.1
  have hs := fstTo_spec (gS A (sS A l fr lr) n b e) (aN A)
  have hle := fstTo_le (gS A (sS A l fr lr) n b e) (aN A)
  have htt : gG A (sS A l fr lr) (n + 1) b e = decide (fstTo (gS A (sS A l fr lr) n b e) (aN A) < aN A) := anyTo_fst _ _
  unfold gF
  rw [htt]
  clear htt
  generalize fstTo (gS A (sS A l fr lr) n b e) (aN A) = x at hs hle
  have e0 : q.1 127 0 = aN A := hM.1
  have go : ∀ m w, w < aN A → Mo_lowest_L3 q (b : Int) (e : Int) ((n + 1 : Nat) : Int) (fun _ => some (-5)) (m + 1) (w : Int) = if gS A (sS A l fr lr) n b e w = true then some (w : Int) else Mo_lowest_L3 q (b : Int) (e : Int) ((n + 1 : Nat) : Int) (fun _ => some (-5)) m ((w + 1 : Nat) : Int) := fun m w hw => by
    have f := follows_eq hM hW hP hl hT hw hb he hn
    have g := Mo_begins_eq hM hW hP hl hw
    rw [gS_fB]
    unfold sB
    rw [Mo_lowest_L3, e0]
    clear e0
    rw [wrap_n (n := w) (by omega), wrap_n (n := aN A) (by omega), if_pos (by omega), f, Option.bind_some, wrap_zb]
    cases fB A l fr lr n b e w with
    | false =>
      rw [if_pos (show zb false = 0 from rfl), Bool.false_and, if_neg (by simp)]
      rfl
    | true =>
      rw [if_neg (show ¬ zb true = 0 by decide), wrap_n (n := b) (by omega)]
      by_cases c : b = 0
      · rw [if_neg (by omega), g, Option.bind_some, wrap_zb, show decide (b ≠ 0) = false from decide_eq_false (fun h => h c)]
        cases (decide (aLt A w 0 = aFe A l) == fr) <;> rfl
      · rw [if_pos (by omega), decide_eq_true c]
        rfl
  unfold Mo_lowest
  refine for_hit (G := fun m w => Mo_lowest_L3 q (b : Int) (e : Int) ((n + 1 : Nat) : Int) (fun _ => some (-5)) m (w : Int)) (k := x) (by clear e0; omega) (fun m w hw => ?_) (fun m => ?_)
  · show Mo_lowest_L3 q _ _ _ _ (m + 1) (w : Int) = _
    rw [go m w (by clear e0; omega), hs.1 w hw, if_neg (c := false = true) (by simp)]
  · show Mo_lowest_L3 q _ _ _ _ (m + 1) (x : Int) = _
    by_cases c : x < aN A
    · rw [go m x c, hs.2 c, if_pos rfl, decide_eq_true c, if_pos rfl]
    · have ex : x = aN A := by clear e0; omega
      rw [Mo_lowest_L3, e0, ex, if_neg (Int.lt_irrefl _), decide_eq_false (Nat.lt_irrefl _), if_neg (c := false = true) (by simp)]
end FL

/-! the search: the class, instance 120 -/
section SX_120
variable {q : zM} {A : zT9} {l : Nat} {fr lr : Bool}
/-- the searcher's cells say for which place it looks -/
def zP_120 (q : zM) (A : zT9) (l : Nat) (fr lr : Bool) : Prop := (∀ w, w < aN A → q.1 121 w = zb (sU A l w)) ∧ q.1 120 6 = aFe A l ∧ q.1 120 7 = aLe A l ∧ q.1 120 8 = zb fr ∧ q.1 120 9 = zb lr
theorem prep_L38_120 (hX : zRX q 5 A) (hW : zWF A) (hl : l < aL A) (v3 v4 : Int) (K : Int → zM → Option zM) : Ls_prepare_120_5_L38 (l : Int) v3 v4 K 5000 0 q = K (aN A : Int) (qu q 121 A l (aN A)) := by
  have wN := hW.1
  have wl := hW.2.2.2.2.2.1
  refine Eq.trans (by rw [qu_zero q 121 A l]; rfl) (for_all (G := fun n i => Ls_prepare_120_5_L38 (l : Int) v3 v4 K n (i : Int) (qu q 121 A l i)) (N := aN A) (by omega) (fun n i hi => ?_) (fun n => ?_))
  · show Ls_prepare_120_5_L38 _ _ _ _ (n + 1) _ _ = Ls_prepare_120_5_L38 _ _ _ _ n ((i + 1 : Nat) : Int) _
    have hX1 : zRX (qu q 121 A l i) 5 A := zRX5 (fun a ha => funext fun k => by rw [qu_at, if_neg (by omega)]) rfl hX
    have u1 := Po_linesUsingBesides_eq hX1 hW (but := (l : Int)) (by omega) (w := i) (by omega)
    have u2 := Ws_limitOf_eq hX1 hW hi
    have u0 : Ws_size (qu q 121 A l i) = some (aN A : Int) := congrArg some hX1.1
    rw [Ls_prepare_120_5_L38, u0, u1, u2]
    clear u0 u1 u2 hX1 hX
    rw [Option.bind_some, wrap_n (n := i) (by omega), wrap_n (n := aN A) (by omega), if_pos (by omega), Option.bind_some, Option.bind_some, sU_case hW hi, ck_in (by omega), ck_in (by omega), Int.toNat_natCast]
    cases hs : sU A l i with
    | true =>
      rw [if_pos rfl, qu_step q 121 A l i (by rw [hs]; rfl)]
      rfl
    | false =>
      rw [if_neg (c := false = true) (by simp), qu_step q 121 A l i (by rw [hs]; rfl)]
      rfl
  · show Ls_prepare_120_5_L38 _ _ _ _ (n + 1) _ _ = _
    have hX1 : zRX (qu q 121 A l (aN A)) 5 A := zRX5 (fun a ha => funext fun k => by rw [qu_at, if_neg (by omega)]) rfl hX
    rw [Ls_prepare_120_5_L38, show Ws_size (qu q 121 A l (aN A)) = some (aN A : Int) from congrArg some hX1.1, Option.bind_some, if_neg (Int.lt_irrefl _)]
theorem prep_120 (hX : zRX q 5 A) (hW : zWF A) (hl : l < aL A) (fr lr : Bool) : ∃ q', Ls_prepare_120_5 q (l : Int) (zb fr) (zb lr) = some q' ∧ zP_120 q' A l fr lr ∧ (∀ a, a ≠ 120 → a ≠ 121 → q'.1 a = q.1 a) ∧ q'.2 = q.2 := by
  have f1 : ∀ (k : Nat) (v : Int) (q : zM), ∀ a, a < 113 + 1 → (qs q 120 k v).1 a = q.1 a := fun k v q a ha => funext fun j => qs_na (Nat.ne_of_lt (Nat.lt_of_lt_of_le ha (by decide))) j
  have hX1 : zRX (qs q 120 6 (aFe A l : Int)) 5 A := zRX5 (f1 _ _ _) rfl hX
  have hX2 : zRX (qs (qs q 120 6 (aFe A l : Int)) 120 7 (aLe A l : Int)) 5 A := zRX5 (f1 _ _ _) rfl hX1
  have hX3 : zRX (qs (qs (qs q 120 6 (aFe A l : Int)) 120 7 (aLe A l : Int)) 120 8 (zb fr)) 5 A := zRX5 (f1 _ _ _) rfl hX2
  have hX4 : zRX (qs (qs (qs (qs q 120 6 (aFe A l : Int)) 120 7 (aLe A l : Int)) 120 8 (zb fr)) 120 9 (zb lr)) 5 A := zRX5 (f1 _ _ _) rfl hX3
  unfold Ls_prepare_120_5
  rw [Po_firstLetterOf_eq hX hW hl, Option.bind_some]
  unfold Ls_prepare_120_5_b12
  rw [Po_lastLetterOf_eq hX1 hW hl, Option.bind_some]
  unfold Ls_prepare_120_5_b24 Ls_prepare_120_5_b29 Ls_prepare_120_5_b35
  rw [if_pos (zb_bool _), if_pos (zb_bool _), prep_L38_120 hX4 hW hl]
  clear hX hX1 hX2 hX3 hX4
  have hat : ∀ a k, (qu (qs (qs (qs (qs q 120 6 (aFe A l : Int)) 120 7 (aLe A l : Int)) 120 8 (zb fr)) 120 9 (zb lr)) 121 A l (aN A)).1 a k = if a = 121 ∧ k < aN A then zb (sU A l k) else if a = 120 ∧ k = 9 then zb lr else if a = 120 ∧ k = 8 then zb fr else if a = 120 ∧ k = 7 then (aLe A l : Int) else if a = 120 ∧ k = 6 then (aFe A l : Int) else q.1 a k := fun a k => rfl
  refine ⟨_, rfl, ⟨fun w hw => ?_, ?_, ?_, ?_, ?_⟩, fun a h1 h2 => funext fun k => ?_, rfl⟩
  · rw [hat, if_pos ⟨rfl, hw⟩]
  · rw [hat, if_neg (by omega), if_neg (by omega), if_neg (by omega), if_neg (by omega), if_pos ⟨rfl, rfl⟩]
  · rw [hat, if_neg (by omega), if_neg (by omega), if_neg (by omega), if_pos ⟨rfl, rfl⟩]
  · rw [hat, if_neg (by omega), if_neg (by omega), if_pos ⟨rfl, rfl⟩]
  · rw [hat, if_neg (by omega), if_pos ⟨rfl, rfl⟩]
  · rw [hat, if_neg (by omega), if_neg (by omega), if_neg (by omega), if_neg (by omega), if_neg (by omega)]
theorem stand_120 (hX : zRX q 5 A) (hW : zWF A) (hP : zP_120 q A l fr lr) (hl : l < aL A) {w b : Nat} (hw : w < aN A) (hb : b < 13) : Ls_canStand_120_5 q (w : Int) (b : Int) = some (zb (sS A l fr lr w b)) := by
  obtain ⟨a1, a2, a3, a4, a5, a6, a7, a8, a9⟩ := cs_wrap hW hl hw hb
  have b1 : ((b : Int) = 0) ↔ b = 0 := Int.natCast_eq_zero
  have b2 : (((b + aSy A w : Nat) : Int) = (aB A : Int)) ↔ b + aSy A w = aB A := Int.natCast_inj
  have b3 : ((aLt A w 0 : Int) = (aFe A l : Int)) ↔ aLt A w 0 = aFe A l := Int.natCast_inj
  have b4 : ((aLt A w (aNl A w - 1) : Int) = (aLe A l : Int)) ↔ aLt A w (aNl A w - 1) = aLe A l := Int.natCast_inj
  obtain ⟨p1, p2, p3, p4, p5⟩ := hP
  have e1 := Ws_syllablesOf_eq hX hW hw
  have e2 := Ws_lastLetterOf_eq hX hW hw
  have e3 := Ws_firstLetterOf_eq hX hW hw
  have e4 := Me_fits_eq hX hW hw (b := b) (Nat.lt_trans hb (by decide))
  have e5 : q.1 12 0 = aB A := hX.2.1
  have e6 := p1 w hw
  unfold Ls_canStand_120_5 sS
  rw [a1, ck_in a2, Int.toNat_natCast, e6, wrap_zb]
  cases hu : sU A l w with
  | false => rfl
  | true =>
    rw [if_neg (show ¬ zb true = 0 by decide), e4, Option.bind_some]
    cases hf : aFitB A w b with
    | false =>
      rw [if_neg (c := false = true) (by simp), if_pos zero_eq]
      rfl
    | true =>
      rw [if_pos rfl, if_neg one_ne, e1, e2, e3, p2, p3, p4, p5, e5, Option.bind_some, Option.bind_some, Option.bind_some, a3, a4, a5, a6, a7, a8, a9, wrap_zb, wrap_zb]
      exact cs_all (b1.trans (by simp)) (b3.trans (by simp)) (cs_tail (b2.trans (by simp)) (b4.trans (by simp)) lr) fr
end SX_120
section SY_120
variable {q : zM} {A : zT9} {l : Nat} {fr lr : Bool}
theorem cost_120 (hX : zRX q 5 A) (hW : zWF A) {w b c : Nat} (hw : w < aN A) (hb : b + aSy A w ≤ 12) (hc : q.1 122 (b + aSy A w) = c) (hc2 : c ≤ 1000000) : Ls_costFrom_120_5 q (w : Int) (b : Int) = some ((if c = 1000000 then 1000000 else c + 1 + 13 * aBd A w b : Nat) : Int) := by
  have e1 := Ws_syllablesOf_eq hX hW hw
  have e2 := Me_bends_eq hX hW hw (b := b) (by clear hc; omega)
  have a1 : wrap ((b : Int) + (aSy A w : Int)) = ((b + aSy A w : Nat) : Int) := wrap_n (n := b + aSy A w) (by clear hc; omega)
  have a2 : (0 : Int) ≤ ((b + aSy A w : Nat) : Int) ∧ ((b + aSy A w : Nat) : Int) < 13 := by clear hc; omega
  have a3 : wrap (c : Int) = c := wrap_n (by clear hc; omega)
  unfold Ls_costFrom_120_5
  rw [e1, Option.bind_some, a1, ck_in a2, Int.toNat_natCast, hc, a3]
  clear hc
  by_cases h : c = 1000000
  · rw [if_pos (by omega), if_pos h]; rfl
  · rw [if_neg (by omega), if_neg h, e2, Option.bind_some]
    exact congrArg some (by omega)
/-- the class's tables with a beat's cost and choice -/
def qx_120 (q : zM) (b : Nat) (v x : Int) : zM := (fun a k => if a = 122 ∧ k = b then v else if a = 123 ∧ k = b then x else q.1 a k, q.2)
theorem qx_120_at (q : zM) (b : Nat) (v x : Int) (a k : Nat) : (qx_120 q b v x).1 a k = if a = 122 ∧ k = b then v else if a = 123 ∧ k = b then x else q.1 a k := rfl
theorem qx_120_fr (q : zM) (b : Nat) (v x : Int) {a : Nat} (h1 : a ≠ 122) (h2 : a ≠ 123) : (qx_120 q b v x).1 a = q.1 a := funext fun k => by rw [qx_120_at, if_neg (fun g => h1 g.1), if_neg (fun g => h2 g.1)]
theorem qx_120_j (q : zM) {b j : Nat} (v x : Int) (h : j ≠ b) (a : Nat) : (qx_120 q b v x).1 a j = q.1 a j := by rw [qx_120_at, if_neg (fun g => h g.2), if_neg (fun g => h g.2)]
theorem qx_120_zero (q : zM) (b : Nat) (v : Int) : qs q 122 b v = qx_120 q b v (q.1 123 b) := by
  refine zM_ext (fun a k => ?_) (fun a k => rfl)
  rw [qs_at, qx_120_at]
  by_cases h1 : a = 122 ∧ k = b
  · rw [if_pos h1, if_pos h1]
  · rw [if_neg h1, if_neg h1]
    by_cases h2 : a = 123 ∧ k = b
    · rw [if_pos h2, h2.1, h2.2]
    · rw [if_neg h2]
theorem qx_120_step (q : zM) (b : Nat) (v x v' x' : Int) : qs (qs (qx_120 q b v x) 122 b v') 123 b x' = qx_120 q b v' x' := by
  refine zM_ext (fun a k => ?_) (fun a k => rfl)
  rw [qs_at, qs_at, qx_120_at, qx_120_at]
  by_cases h2 : a = 123 ∧ k = b
  · rw [if_pos h2, if_neg (fun g => by omega), if_pos h2]
  · rw [if_neg h2, if_neg h2]
    by_cases h1 : a = 122 ∧ k = b
    · rw [if_pos h1, if_pos h1]
    · rw [if_neg h1, if_neg h1, if_neg h1, if_neg h2]
theorem zP_120_fr {q q' : zM} (h1 : q'.1 120 = q.1 120) (h2 : q'.1 121 = q.1 121) (hP : zP_120 q A l fr lr) : zP_120 q' A l fr lr := by
  unfold zP_120
  rw [h1, h2]
  exact hP
theorem choose_120 (hX : zRX q 5 A) (hW : zWF A) (hP : zP_120 q A l fr lr) (hl : l < aL A) {b : Nat} (hb : b < aB A) {c : Nat → Nat} (hc : ∀ j, b < j → j ≤ aB A → q.1 122 j = c j ∧ c j ≤ 1000000) : Ls_chooseAt_120_5 q (b : Int) = some (qx_120 q b (minTo (kW A (sS A l fr lr) c b) (aN A) : Int) (argTo (kW A (sS A l fr lr) c b) (q.1 123 b) (aN A))) := by
  have wN := hW.1
  have wB := hW.2.2.1
  have kb := minTo_le (kW A (sS A l fr lr) c b)
  have g1 : wrap (b : Int) = b := wrap_n (by omega)
  have g2 : (0 : Int) ≤ (b : Int) ∧ (b : Int) < 13 := by omega
  have g3 : (0 : Int) ≤ (b : Int) ∧ (b : Int) < 12 := by omega
  unfold Ls_chooseAt_120_5 Ls_chooseAt_120_5_b8
  rw [g1, ck_in g2, Int.toNat_natCast, qx_120_zero]
  refine for_all (G := fun n i => Ls_chooseAt_120_5_L10 (b : Int) (fun _ q_12 => some q_12) n (i : Int) (qx_120 q b (minTo (kW A (sS A l fr lr) c b) i : Int) (argTo (kW A (sS A l fr lr) c b) (q.1 123 b) i))) (N := aN A) (by omega) (fun n i hi => ?_) (fun n => ?_)
  · show Ls_chooseAt_120_5_L10 _ _ (n + 1) _ _ = Ls_chooseAt_120_5_L10 _ _ n ((i + 1 : Nat) : Int) _
    generalize hv : argTo (kW A (sS A l fr lr) c b) (q.1 123 b) i = x
    have hx' : argTo (kW A (sS A l fr lr) c b) (q.1 123 b) (i + 1) = if kW A (sS A l fr lr) c b i < minTo (kW A (sS A l fr lr) c b) i then (i : Int) else x := by rw [← hv]; rfl
    have hm' : minTo (kW A (sS A l fr lr) c b) (i + 1) = if kW A (sS A l fr lr) c b i < minTo (kW A (sS A l fr lr) c b) i then kW A (sS A l fr lr) c b i else minTo (kW A (sS A l fr lr) c b) i := rfl
    rw [hx', hm']
    clear hx' hm' hv
    have mb := (kb i).1
    generalize minTo (kW A (sS A l fr lr) c b) i = m at mb
    have hX1 : zRX (qx_120 q b (m : Int) x) 5 A := zRX5 (fun a ha => qx_120_fr _ _ _ _ (Nat.ne_of_lt (Nat.lt_trans ha (by decide))) (Nat.ne_of_lt (Nat.lt_trans ha (by decide)))) rfl hX
    have hP1 : zP_120 (qx_120 q b (m : Int) x) A l fr lr := zP_120_fr (qx_120_fr _ _ _ _ (by decide) (by decide)) (qx_120_fr _ _ _ _ (by decide) (by decide)) hP
    have cs := stand_120 hX1 hW hP1 hl hi (b := b) (Nat.lt_of_lt_of_le hb (Nat.le_trans wB (by decide)))
    have s0 : Ws_size (qx_120 q b (m : Int) x) = some (aN A : Int) := congrArg some hX1.1
    have r122 : (qx_120 q b (m : Int) x).1 122 b = m := by rw [qx_120_at, if_pos ⟨rfl, rfl⟩]
    have hcost : sS A l fr lr i b = true → Ls_costFrom_120_5 (qx_120 q b (m : Int) x) (i : Int) (b : Int) = some (kW A (sS A l fr lr) c b i : Int) := fun hs => by
      obtain ⟨f1, f2, f3⟩ := gOK_fit hW (sS_ok A l fr lr) hi hs
      obtain ⟨c1, c2⟩ := hc (b + aSy A i) (Nat.lt_add_of_pos_right f2) f1
      rw [cost_120 hX1 hW hi (Nat.le_trans f1 wB) ((qx_120_j q _ _ (by clear c1; omega) 122).trans c1) c2]
      unfold kW
      rw [if_pos hs]
    have kle : sS A l fr lr i b = true → kW A (sS A l fr lr) c b i ≤ 1000014 := fun hs => by
      obtain ⟨f1, f2, f3⟩ := gOK_fit hW (sS_ok A l fr lr) hi hs
      have c2 := (hc (b + aSy A i) (Nat.lt_add_of_pos_right f2) f1).2
      clear hc
      unfold kW
      rw [if_pos hs]
      split <;> omega
    rw [Ls_chooseAt_120_5_L10, s0, cs, g1, Int.toNat_natCast, r122]
    clear s0 cs r122 hX1 hP1 hX hP hc
    rw [Option.bind_some, wrap_n (n := i) (by omega), wrap_n (n := aN A) (by omega), if_pos (by omega), Option.bind_some, wrap_zb]
    cases hs : sS A l fr lr i b with
    | false =>
      have k0 : kW A (sS A l fr lr) c b i = 1000000 := by
        unfold kW
        rw [if_neg (by rw [hs]; simp)]
      rw [if_pos (show zb false = 0 from rfl), k0, if_neg (by omega), if_neg (by omega)]
      rfl
    | true =>
      have kl := kle hs
      rw [if_neg (show ¬ zb true = 0 by decide), hcost hs]
      clear hcost kle
      generalize kW A (sS A l fr lr) c b i = kk at kl
      rw [Option.bind_some, ck_in g2, wrap_n (n := kk) (by omega), wrap_n (n := m) (by omega), ck_in g2, ck_in g3]
      by_cases h : kk < m
      · rw [if_pos (by omega), if_pos h, if_pos h, qx_120_step]
        rfl
      · rw [if_neg (by omega), if_neg h, if_neg h]
        rfl
  · show Ls_chooseAt_120_5_L10 _ _ (n + 1) _ _ = _
    generalize argTo (kW A (sS A l fr lr) c b) (q.1 123 b) (aN A) = x
    generalize minTo (kW A (sS A l fr lr) c b) (aN A) = m
    have hX1 : zRX (qx_120 q b (m : Int) x) 5 A := zRX5 (fun a ha => qx_120_fr _ _ _ _ (Nat.ne_of_lt (Nat.lt_trans ha (by decide))) (Nat.ne_of_lt (Nat.lt_trans ha (by decide)))) rfl hX
    rw [Ls_chooseAt_120_5_L10, show Ws_size (qx_120 q b (m : Int) x) = some (aN A : Int) from congrArg some hX1.1, Option.bind_some, if_neg (Int.lt_irrefl _)]
theorem seek_L32_120 (hW : zWF A) (hl : l < aL A) (v2 v3 v4 v5 : Int) (K : Int → zM → Option (Int × zM)) : ∀ (d n : Nat) (q : zM), d ≤ aB A → d < n → zRX q 5 A → zP_120 q A l fr lr → (∀ j, d ≤ j → j ≤ aB A → opC A (sS A l fr lr) j (q.1 122 j) (q.1 123 j)) → ∃ q', Ls_seek_120_5_L32 v2 v3 v4 v5 K n ((d : Int) - 1) q = K (-1) q' ∧ (∀ a, a ≠ 122 → a ≠ 123 → q'.1 a = q.1 a) ∧ q'.2 = q.2 ∧ ∀ j, j ≤ aB A → opC A (sS A l fr lr) j (q'.1 122 j) (q'.1 123 j) := by
  have wB := hW.2.2.1
  intro d
  induction d with
  | zero =>
    intro n q _ hn _ _ ho
    obtain ⟨n, rfl⟩ : ∃ m, n = m + 1 := ⟨n - 1, by omega⟩
    refine ⟨q, ?_, fun a _ _ => rfl, rfl, fun j hj => ho j (Nat.zero_le _) hj⟩
    rw [Ls_seek_120_5_L32, if_pos (by decide)]
    rfl
  | succ d ih =>
    intro n q hd hn hX hP ho
    obtain ⟨n, rfl⟩ : ∃ m, n = m + 1 := ⟨n - 1, by omega⟩
    have tn : ∀ j, d < j → j ≤ aB A → q.1 122 j = ((q.1 122 j).toNat : Int) ∧ (q.1 122 j).toNat ≤ 1000000 := fun j h1 h2 => by
      rcases ho j h1 h2 with ⟨e, -⟩ | ⟨n', e', g, e, -⟩
      · rw [e]; exact ⟨rfl, by decide⟩
      · have := gG_le hW (sS_ok A l fr lr) g.1
        rw [e, Int.toNat_natCast]
        exact ⟨rfl, by clear e; omega⟩
    have ch := choose_120 hX hW hP hl (b := d) (by clear tn ho; omega) (c := fun j => (q.1 122 j).toNat) tn
    have st := opC_step hW (sS_ok A l fr lr) (b := d) (by clear tn ho; omega) (c := fun j => (q.1 122 j).toNat) (xs := fun j => q.1 123 j) (fun j h1 h2 => by
      have := ho j h1 h2
      rw [(tn j h1 h2).1] at this
      exact this) (q.1 123 d)
    rw [show (((d + 1 : Nat) : Int) - 1) = (d : Int) by clear tn ho ch; omega, Ls_seek_120_5_L32, wrap_n (n := d) (by clear tn ho ch; omega), if_neg (by clear tn ho ch; omega), ch, Option.bind_some, show ((d : Int) + (-1)) = (d : Int) - 1 from rfl]
    generalize (minTo (kW A (sS A l fr lr) (fun j => (q.1 122 j).toNat) d) (aN A) : Int) = v at st
    generalize argTo (kW A (sS A l fr lr) (fun j => (q.1 122 j).toNat) d) (q.1 123 d) (aN A) = x at st
    have hX1 : zRX (qx_120 q d v x) 5 A := zRX5 (fun a ha => qx_120_fr _ _ _ _ (Nat.ne_of_lt (Nat.lt_trans ha (by decide))) (Nat.ne_of_lt (Nat.lt_trans ha (by decide)))) rfl hX
    have hP1 : zP_120 (qx_120 q d v x) A l fr lr := zP_120_fr (qx_120_fr _ _ _ _ (by decide) (by decide)) (qx_120_fr _ _ _ _ (by decide) (by decide)) hP
    obtain ⟨q', k1, k2, k3, k4⟩ := ih n (qx_120 q d v x) (by clear tn ho ch; omega) (by clear tn ho ch; omega) hX1 hP1 (fun j h1 h2 => by
      by_cases e : j = d
      · subst e
        have e1 : (qx_120 q j v x).1 122 j = v := by rw [qx_120_at, if_pos ⟨rfl, rfl⟩]
        have e2 : (qx_120 q j v x).1 123 j = x := by rw [qx_120_at, if_neg (fun g => absurd g.1 (by decide)), if_pos ⟨rfl, rfl⟩]
        rw [e1, e2]
        exact st
      · rw [qx_120_j _ _ _ e, qx_120_j _ _ _ e]
        exact ho j (by clear tn ho ch; omega) h2)
    exact ⟨q', k1, fun a h1 h2 => (k2 a h1 h2).trans (qx_120_fr _ _ _ _ h1 h2), k3, k4⟩
end SY_120
section SZ_120
variable {q : zM} {A : zT9} {l : Nat} {fr lr : Bool} {S : Nat → Nat → Bool}
def qr_120 (q : zM) (A : zT9) (S : Nat → Nat → Bool) (n e k : Nat) : zM := (fun a j => if a = 120 ∧ j = 5 then (k : Int) else if a = 125 ∧ j < k then (rW A S n e j : Int) else q.1 a j, q.2)
theorem qr_120_at (q : zM) (A : zT9) (S : Nat → Nat → Bool) (n e k a j : Nat) : (qr_120 q A S n e k).1 a j = if a = 120 ∧ j = 5 then (k : Int) else if a = 125 ∧ j < k then (rW A S n e j : Int) else q.1 a j := rfl
theorem qr_120_fr (q : zM) (A : zT9) (S : Nat → Nat → Bool) (n e k : Nat) {a : Nat} (h1 : a ≠ 120) (h2 : a ≠ 125) : (qr_120 q A S n e k).1 a = q.1 a := funext fun j => by rw [qr_120_at, if_neg (fun g => h1 g.1), if_neg (fun g => h2 g.1)]
theorem qr_120_zero (q : zM) (A : zT9) (S : Nat → Nat → Bool) (n e : Nat) : qs q 120 5 0 = qr_120 q A S n e 0 := by
  refine zM_ext (fun a k => ?_) (fun a k => rfl)
  rw [qs_at, qr_120_at]
  by_cases h1 : a = 120 ∧ k = 5
  · rw [if_pos h1, if_pos h1]; rfl
  · rw [if_neg h1, if_neg h1, if_neg (fun g => Nat.not_lt_zero _ g.2)]
theorem qr_120_step (q : zM) (A : zT9) (S : Nat → Nat → Bool) (n e k : Nat) : qs (qs (qr_120 q A S n e k) 125 k (rW A S n e k : Int)) 120 5 ((k : Int) + 1) = qr_120 q A S n e (k + 1) := by
  refine zM_ext (fun a j => ?_) (fun a j => rfl)
  rw [qs_at, qs_at, qr_120_at, qr_120_at]
  by_cases h1 : a = 120 ∧ j = 5
  · rw [if_pos h1, if_pos h1]; rfl
  · simp only [if_neg h1]
    by_cases h2 : a = 125 ∧ j = k
    · rw [if_pos h2, if_pos (c := a = 125 ∧ j < k + 1) (by omega), h2.2]
    · rw [if_neg h2]
      by_cases h3 : a = 125 ∧ j < k
      · rw [if_pos h3, if_pos (by omega)]
      · rw [if_neg h3, if_neg (by omega)]
theorem read_120 (hX : zRX q 5 A) (hW : zWF A) (hS : gOK A S) (ho : ∀ j, j ≤ aB A → opC A S j (q.1 122 j) (q.1 123 j)) : ∃ q', Ls_readRow_120_5 q = some q' ∧ (∀ a, a ≠ 120 → a ≠ 125 → q'.1 a = q.1 a) ∧ q'.2 = q.2 ∧ ((q.1 122 0 = 1000000 ∧ (∀ n e, gG A S n 0 e = false) ∧ q'.1 120 5 = 0) ∨ ∃ n e, gM A S n 0 e ∧ q.1 122 0 = ((13 * e + n : Nat) : Int) ∧ q'.1 120 5 = n ∧ ∀ k, k < n → q'.1 125 k = rW A S n e k) := by
  have wB := hW.2.2.1
  have wN := hW.1
  unfold Ls_readRow_120_5 Ls_readRow_120_5_b5
  rw [qs_na (by decide) 0]
  rcases ho 0 (Nat.zero_le _) with ⟨e1, e2⟩ | ⟨n, e, g, e1, -⟩
  · rw [e1, if_pos (by decide)]
    exact ⟨_, rfl, fun a h1 _ => funext fun k => qs_na h1 k, rfl, Or.inl ⟨rfl, e2, by rw [qs_at, if_pos ⟨rfl, rfl⟩]⟩⟩
  · have hle := gG_le hW hS g.1
    have nm : ¬ wrap ((13 * e + n : Nat) : Int) = 1000000 := by
      clear e1
      rw [wrap_n (by omega)]
      omega
    have n12 : n ≤ 12 := by clear e1 nm; omega
    rw [e1, if_neg nm, qr_120_zero q A S n e]
    clear e1 nm
    refine ⟨qr_120 q A S n e n, ?_, fun a h1 h2 => qr_120_fr _ _ _ _ _ _ h1 h2, rfl, Or.inr ⟨n, e, g, rfl, by rw [qr_120_at, if_pos ⟨rfl, rfl⟩], fun k hk => by rw [qr_120_at, if_neg (fun g => absurd g.1 (by decide)), if_pos ⟨rfl, hk⟩]⟩⟩
    refine for_all (G := fun m k => Ls_readRow_120_5_L19 (fun _ q_10 => some q_10) m ((rS A S n e k).1 : Int) (qr_120 q A S n e k)) (N := n) (Nat.lt_of_le_of_lt n12 (by decide)) (fun m k hk => ?_) (fun m => ?_)
    · show Ls_readRow_120_5_L19 _ (m + 1) _ _ = Ls_readRow_120_5_L19 _ m ((rS A S n e (k + 1)).1 : Int) _
      obtain ⟨w1, w2, w3, w4, w5⟩ := rW_ok hW hS g hk
      have hk1 := rS_M g k (Nat.le_of_lt hk)
      have hch : q.1 123 (rS A S n e k).1 = (rW A S n e k : Int) := by
        rcases ho (rS A S n e k).1 (Nat.le_of_lt w4) with ⟨-, z⟩ | ⟨n', e', g', -, z⟩
        · have := hk1.1
          rw [z] at this
          cases this
        · obtain ⟨u1, u2⟩ := gM_unique hW hS g' hk1
          rw [z (n - k - 1) (by omega), u2]
          rfl
      have hstep := qr_120_step q A S n e k
      have r12 : (qr_120 q A S n e k).1 12 0 = aB A := (congrFun (qr_120_fr q A S n e k (by decide) (by decide)) 0).trans hX.2.1
      have r5 : (qr_120 q A S n e k).1 120 5 = k := by rw [qr_120_at, if_pos ⟨rfl, rfl⟩]
      have r123 : (qr_120 q A S n e k).1 123 (rS A S n e k).1 = (rW A S n e k : Int) := (congrFun (qr_120_fr q A S n e k (by decide) (by decide)) _).trans hch
      have rs5 : (qs (qr_120 q A S n e k) 125 k (rW A S n e k : Int)).1 120 5 = k := (qs_na (by decide) 5).trans r5
      have rs123 : (qs (qr_120 q A S n e k) 125 k (rW A S n e k : Int)).1 123 (rS A S n e k).1 = (rW A S n e k : Int) := (qs_na (by decide) _).trans r123
      have hX1 : zRX (qs (qr_120 q A S n e k) 125 k (rW A S n e k : Int)) 5 A := zRX5 (fun a ha => (funext fun j => qs_na (Nat.ne_of_lt (Nat.lt_trans ha (by decide))) j).trans (qr_120_fr q A S n e k (Nat.ne_of_lt (Nat.lt_of_lt_of_le ha (by decide))) (Nat.ne_of_lt (Nat.lt_trans ha (by decide))))) rfl hX
      have sy := Ws_syllablesOf_eq hX1 hW w1
      have nx : ((rS A S n e k).1 : Int) + (aSy A (rW A S n e k) : Int) = ((rS A S n e (k + 1)).1 : Int) := by rw [rS_succ]; rfl
      obtain ⟨b1, b2, b3, b4, b5, b6⟩ := ar_read w4 wB (Nat.lt_of_lt_of_le hk n12)
      rw [Ls_readRow_120_5_L19, r12, b1, b2, if_pos b3, r5, b4, if_pos b5.2, ck_in b6, ck_in b5, ck_in b6, Int.toNat_natCast, Int.toNat_natCast, r123, rs123, rs5, sy, Option.bind_some, nx, hstep]
    · show Ls_readRow_120_5_L19 _ (m + 1) _ _ = _
      have r12 : (qr_120 q A S n e n).1 12 0 = aB A := (congrFun (qr_120_fr q A S n e n (by decide) (by decide)) 0).trans hX.2.1
      rw [Ls_readRow_120_5_L19, r12, rS_end g, if_neg (Int.lt_irrefl _)]
/-- what a search of the class leaves -/
def zXR_120 (q : zM) (A : zT9) (S : Nat → Nat → Bool) (f : Bool) : Prop := (f = false ∧ q.1 122 0 = 1000000 ∧ q.1 120 5 = 0 ∧ ∀ n e, gG A S n 0 e = false) ∨ (f = true ∧ ∃ n e, gM A S n 0 e ∧ q.1 122 0 = ((13 * e + n : Nat) : Int) ∧ q.1 120 5 = n ∧ ∀ k, k < n → q.1 125 k = rW A S n e k)
theorem seek_120 (hX : zRX q 5 A) (hW : zWF A) (hl : l < aL A) (fr lr : Bool) : ∃ (f : Bool) (q' : zM), Ls_seek_120_5 q (l : Int) (zb fr) (zb lr) = some (zb f, q') ∧ (∀ a, a < 120 ∨ 125 < a → q'.1 a = q.1 a) ∧ q'.2 = q.2 ∧ zXR_120 q' A (sS A l fr lr) f := by
  have wB := hW.2.2.1
  obtain ⟨q1, p1, p2, p3, p4⟩ := prep_120 hX hW hl fr lr
  have hX1 : zRX q1 5 A := zRX5 (fun a ha => p3 a (Nat.ne_of_lt (Nat.lt_of_lt_of_le ha (by decide))) (Nat.ne_of_lt (Nat.lt_trans ha (by decide)))) p4 hX
  have e12 : q1.1 12 0 = aB A := hX1.2.1
  have b1 : wrap (aB A : Int) = aB A := wrap_n (by clear e12; omega)
  have b2 : (0 : Int) ≤ (aB A : Int) ∧ (aB A : Int) < 13 := by clear e12; omega
  unfold Ls_seek_120_5
  rw [p1, Option.bind_some, e12, b1, ck_in b2, Int.toNat_natCast]
  unfold Ls_seek_120_5_b26
  clear e12
  have hX2 : zRX (qs q1 122 (aB A) 0) 5 A := zRX5 (fun a ha => funext fun j => qs_na (Nat.ne_of_lt (Nat.lt_trans ha (by decide))) j) rfl hX1
  have hP2 : zP_120 (qs q1 122 (aB A) 0) A l fr lr := zP_120_fr (funext fun j => qs_na (by decide) j) (funext fun j => qs_na (by decide) j) p2
  obtain ⟨q2, s1, s2, s3, s4⟩ := seek_L32_120 hW hl (l : Int) (zb fr) (zb lr) (aB A : Int) (fun v6_5 q_6 => (Ls_readRow_120_5 q_6 ).bind fun r_7 => if (0 : Int) < wrap (r_7.1 120 5) then some ((1 : Int), r_7) else some ((0 : Int), r_7)) (aB A) 5000 (qs q1 122 (aB A) 0) (Nat.le_refl _) (Nat.lt_of_le_of_lt wB (by decide)) hX2 hP2 (fun j h1 h2 => by
    have e : j = aB A := Nat.le_antisymm h2 h1
    subst e
    rw [qs_at, if_pos ⟨rfl, rfl⟩]
    exact opC_end hW (sS_ok A l fr lr) _)
  have hX3 : zRX q2 5 A := zRX5 (fun a ha => s2 a (Nat.ne_of_lt (Nat.lt_trans ha (by decide))) (Nat.ne_of_lt (Nat.lt_trans ha (by decide)))) s3 hX2
  obtain ⟨q3, t1, t2, t3, t4⟩ := read_120 hX3 hW (sS_ok A l fr lr) s4
  rw [s1, t1, Option.bind_some]
  have fr3 : ∀ a, a < 120 ∨ 125 < a → q3.1 a = q.1 a := fun a ha => by
    rw [t2 a (by omega) (by omega), s2 a (by omega) (by omega), ← p3 a (by omega) (by omega)]
    exact funext fun j => qs_na (by omega) j
  have e122 : q3.1 122 = q2.1 122 := t2 122 (by decide) (by decide)
  rcases t4 with ⟨z1, z2, z3⟩ | ⟨n, e, z1, z2, z3, z4⟩
  · refine ⟨false, q3, ?_, fr3, t3.trans (s3.trans p4), Or.inl ⟨rfl, by rw [e122]; exact z1, z3, z2⟩⟩
    rw [z3, if_neg (by decide)]
    rfl
  · have np := gM_pos hW z1
    have nl := gG_le hW (sS_ok A l fr lr) z1.1
    refine ⟨true, q3, ?_, fr3, t3.trans (s3.trans p4), Or.inr ⟨rfl, n, e, z1, by rw [e122]; exact z2, z3, z4⟩⟩
    rw [z3]
    clear z3 z2
    rw [wrap_n (n := n) (by omega), if_pos (by omega)]
    rfl
end SZ_120

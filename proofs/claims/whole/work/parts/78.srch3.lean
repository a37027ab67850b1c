/-! the search: the class, instance 114 -/
section SX_114
variable {q : zM} {A : zT9} {l : Nat} {fr lr : Bool}
/-- the searcher's cells say for which place it looks -/
def zP_114 (q : zM) (A : zT9) (l : Nat) (fr lr : Bool) : Prop := (∀ w, w < aN A → q.1 115 w = zb (sU A l w)) ∧ q.1 114 6 = aFe A l ∧ q.1 114 7 = aLe A l ∧ q.1 114 8 = zb fr ∧ q.1 114 9 = zb lr
theorem prep_L38_114 (hX : zRX q 5 A) (hW : zWF A) (hl : l < aL A) (v3 v4 : Int) (K : Int → zM → Option zM) : Ls_prepare_114_5_L38 (l : Int) v3 v4 K 5000 0 q = K (aN A : Int) (qu q 115 A l (aN A)) := by
  have wN := hW.1
  have wl := hW.2.2.2.2.2.1
  refine Eq.trans (by rw [qu_zero q 115 A l]; rfl) (for_all (G := fun n i => Ls_prepare_114_5_L38 (l : Int) v3 v4 K n (i : Int) (qu q 115 A l i)) (N := aN A) (by omega) (fun n i hi => ?_) (fun n => ?_))
  · show Ls_prepare_114_5_L38 _ _ _ _ (n + 1) _ _ = Ls_prepare_114_5_L38 _ _ _ _ n ((i + 1 : Nat) : Int) _
    have hX1 : zRX (qu q 115 A l i) 5 A := zRX5 (fun a ha => funext fun k => by rw [qu_at, if_neg (by omega)]) rfl hX
    have u1 := Po_linesUsingBesides_eq hX1 hW (but := (l : Int)) (by omega) (w := i) (by omega)
    have u2 := Ws_limitOf_eq hX1 hW hi
    have u0 : Ws_size (qu q 115 A l i) = some (aN A : Int) := congrArg some hX1.1
    rw [Ls_prepare_114_5_L38, u0, u1, u2]
    clear u0 u1 u2 hX1 hX
    rw [Option.bind_some, wrap_n (n := i) (by omega), wrap_n (n := aN A) (by omega), if_pos (by omega), Option.bind_some, Option.bind_some, sU_case hW hi, ck_in (by omega), ck_in (by omega), Int.toNat_natCast]
    cases hs : sU A l i with
    | true =>
      rw [if_pos rfl, qu_step q 115 A l i (by rw [hs]; rfl)]
      rfl
    | false =>
      rw [if_neg (c := false = true) (by simp), qu_step q 115 A l i (by rw [hs]; rfl)]
      rfl
  · show Ls_prepare_114_5_L38 _ _ _ _ (n + 1) _ _ = _
    have hX1 : zRX (qu q 115 A l (aN A)) 5 A := zRX5 (fun a ha => funext fun k => by rw [qu_at, if_neg (by omega)]) rfl hX
    rw [Ls_prepare_114_5_L38, show Ws_size (qu q 115 A l (aN A)) = some (aN A : Int) from congrArg some hX1.1, Option.bind_some, if_neg (Int.lt_irrefl _)]
theorem prep_114 (hX : zRX q 5 A) (hW : zWF A) (hl : l < aL A) (fr lr : Bool) : ∃ q', Ls_prepare_114_5 q (l : Int) (zb fr) (zb lr) = some q' ∧ zP_114 q' A l fr lr ∧ (∀ a, a ≠ 114 → a ≠ 115 → q'.1 a = q.1 a) ∧ q'.2 = q.2 := by
  have f1 : ∀ (k : Nat) (v : Int) (q : zM), ∀ a, a < 114 → (qs q 114 k v).1 a = q.1 a := fun k v q a ha => funext fun j => qs_na (Nat.ne_of_lt ha) j
  have hX1 : zRX (qs q 114 6 (aFe A l : Int)) 5 A := zRX5 (f1 _ _ _) rfl hX
  have hX2 : zRX (qs (qs q 114 6 (aFe A l : Int)) 114 7 (aLe A l : Int)) 5 A := zRX5 (f1 _ _ _) rfl hX1
  have hX3 : zRX (qs (qs (qs q 114 6 (aFe A l : Int)) 114 7 (aLe A l : Int)) 114 8 (zb fr)) 5 A := zRX5 (f1 _ _ _) rfl hX2
  have hX4 : zRX (qs (qs (qs (qs q 114 6 (aFe A l : Int)) 114 7 (aLe A l : Int)) 114 8 (zb fr)) 114 9 (zb lr)) 5 A := zRX5 (f1 _ _ _) rfl hX3
  unfold Ls_prepare_114_5
  rw [Po_firstLetterOf_eq hX hW hl, Option.bind_some]
  unfold Ls_prepare_114_5_b12
  rw [Po_lastLetterOf_eq hX1 hW hl, Option.bind_some]
  unfold Ls_prepare_114_5_b24 Ls_prepare_114_5_b29 Ls_prepare_114_5_b35
  rw [if_pos (zb_bool _), if_pos (zb_bool _), prep_L38_114 hX4 hW hl]
  clear hX hX1 hX2 hX3 hX4
  have hat : ∀ a k, (qu (qs (qs (qs (qs q 114 6 (aFe A l : Int)) 114 7 (aLe A l : Int)) 114 8 (zb fr)) 114 9 (zb lr)) 115 A l (aN A)).1 a k = if a = 115 ∧ k < aN A then zb (sU A l k) else if a = 114 ∧ k = 9 then zb lr else if a = 114 ∧ k = 8 then zb fr else if a = 114 ∧ k = 7 then (aLe A l : Int) else if a = 114 ∧ k = 6 then (aFe A l : Int) else q.1 a k := fun a k => rfl
  refine ⟨_, rfl, ⟨fun w hw => ?_, ?_, ?_, ?_, ?_⟩, fun a h1 h2 => funext fun k => ?_, rfl⟩
  · rw [hat, if_pos ⟨rfl, hw⟩]
  · rw [hat, if_neg (by omega), if_neg (by omega), if_neg (by omega), if_neg (by omega), if_pos ⟨rfl, rfl⟩]
  · rw [hat, if_neg (by omega), if_neg (by omega), if_neg (by omega), if_pos ⟨rfl, rfl⟩]
  · rw [hat, if_neg (by omega), if_neg (by omega), if_pos ⟨rfl, rfl⟩]
  · rw [hat, if_neg (by omega), if_pos ⟨rfl, rfl⟩]
  · rw [hat, if_neg (by omega), if_neg (by omega), if_neg (by omega), if_neg (by omega), if_neg (by omega)]
theorem stand_114 (hX : zRX q 5 A) (hW : zWF A) (hP : zP_114 q A l fr lr) (hl : l < aL A) {w b : Nat} (hw : w < aN A) (hb : b < 13) : Ls_canStand_114_5 q (w : Int) (b : Int) = some (zb (sS A l fr lr w b)) := by
  obtain ⟨a1, a2, a3, a4, a5, a6, a7, a8, a9⟩ := cs_wrap hW hl hw hb
  have b1 : ((b : Int) = 0) ↔ b = 0 := Int.natCast_eq_zero
  have b2 : (((b + aSy A w : Nat) : Int) = (aB A : Int)) ↔ b + aSy A w = aB A := Int.natCast_inj
  have b3 : ((aLt A w 0 : Int) = (aFe A l : Int)) ↔ aLt A w 0 = aFe A l := Int.natCast_inj
  have b4 : ((aLt A w (aNl A w - 1) : Int) = (aLe A l : Int)) ↔ aLt A w (aNl A w - 1) = aLe A l := Int.natCast_inj
  obtain ⟨p1, p2, p3, p4, p5⟩ := hP
  have e1 := Ws_syllablesOf_eq hX hW hw
  have e2 := Ws_lastLetterOf_eq hX hW hw
  have e3 := Ws_firstLetterOf_eq hX hW hw
  have e4 := Me_fits_eq hX hW hw (b := b) (Nat.lt_trans hb (by decide))
  have e5 : q.1 12 0 = aB A := hX.2.1
  have e6 := p1 w hw
  unfold Ls_canStand_114_5 sS
  rw [a1, ck_in a2, Int.toNat_natCast, e6, wrap_zb]
  cases hu : sU A l w with
  | false => rfl
  | true =>
    rw [if_neg (show ¬ zb true = 0 by decide), e4, Option.bind_some]
    cases hf : aFitB A w b with
    | false =>
      rw [if_neg (c := false = true) (by simp), if_pos zero_eq]
      rfl
    | true =>
      rw [if_pos rfl, if_neg one_ne, e1, e2, e3, p2, p3, p4, p5, e5, Option.bind_some, Option.bind_some, Option.bind_some, a3, a4, a5, a6, a7, a8, a9, wrap_zb, wrap_zb]
      exact cs_all (b1.trans (by simp)) (b3.trans (by simp)) (cs_tail (b2.trans (by simp)) (b4.trans (by simp)) lr) fr
end SX_114

/-! the search: which word may stand where; both sides' small parts -/
def sU (A : zT9) (l w : Nat) : Bool := decide (aUB A (l : Int) w < aLi A w)
def sS (A : zT9) (l : Nat) (fr lr : Bool) (w b : Nat) : Bool := sU A l w && aFitB A w b && (decide (b ≠ 0) || (decide (aLt A w 0 = aFe A l) == fr)) && (decide (b + aSy A w ≠ aB A) || (decide (aLt A w (aNl A w - 1) = aLe A l) == lr))
theorem sS_ok (A : zT9) (l : Nat) (fr lr : Bool) : gOK A (sS A l fr lr) := fun w b _ h => by
  unfold sS at h
  rw [Bool.and_eq_true, Bool.and_eq_true, Bool.and_eq_true] at h
  exact h.1.1.2
theorem zRX5 {q q' : zM} {A : zT9} (h1 : ∀ a, a < 114 → q'.1 a = q.1 a) (h2 : q'.2 = q.2) (hx : zRX q 5 A) : zRX q' 5 A := zRX_congr (fun a _ h => ⟨h1 a (Nat.lt_of_le_of_lt h (by decide)), by rw [h2]⟩) hx
theorem zb_bool (b : Bool) : wrap (zb b) = 0 ∨ wrap (zb b) = 1 := by cases b <;> decide
section SM0
variable {q : zM} {A : zT9} {l : Nat} {fr lr : Bool}
theorem sU_case (hW : zWF A) {w : Nat} (hw : w < aN A) {α : Type} (x y : α) : (if wrap (aUB A (l : Int) w : Int) < wrap (aLi A w : Int) then x else y) = if sU A l w = true then x else y := by
  have h1 := aUB_le hW (l : Int) w
  have h2 := (hW.2.2.2.2.2.2.1 w hw).2.2.2.2.2.2.1
  unfold sU
  rw [wrap_n (n := aUB A (l : Int) w) (by omega), wrap_n (n := aLi A w) (by omega)]
  by_cases c : aUB A (l : Int) w < aLi A w
  · rw [if_pos (by omega), if_pos (decide_eq_true c)]
  · rw [if_neg (by omega), if_neg (by simp [c])]
/-- the reference's cells say for which place it looks -/
def zPM (q : zM) (A : zT9) (l : Nat) (fr lr : Bool) : Prop := (∀ w, w < aN A → q.1 134 w = zb (sU A l w)) ∧ q.1 126 14 = aFe A l ∧ q.1 126 15 = aLe A l ∧ q.1 126 16 = zb (!fr) ∧ q.1 126 17 = zb (!lr)
def qu (q : zM) (o : Nat) (A : zT9) (l i : Nat) : zM := (fun a k => if a = o ∧ k < i then zb (sU A l k) else q.1 a k, q.2)
theorem qu_at (q : zM) (o : Nat) (A : zT9) (l i a k : Nat) : (qu q o A l i).1 a k = if a = o ∧ k < i then zb (sU A l k) else q.1 a k := rfl
theorem qu_zero (q : zM) (o : Nat) (A : zT9) (l : Nat) : qu q o A l 0 = q := by
  refine zM_ext (fun a k => ?_) (fun a k => rfl)
  rw [qu_at, if_neg (by omega)]
theorem qu_step (q : zM) (o : Nat) (A : zT9) (l i : Nat) {x : Int} (hx : x = zb (sU A l i)) : qs (qu q o A l i) o i x = qu q o A l (i + 1) := by
  subst hx
  refine zM_ext (fun a k => ?_) (fun a k => rfl)
  rw [qs_at, qu_at, qu_at]
  by_cases h1 : a = o ∧ k = i
  · rw [if_pos h1, if_pos (by omega), h1.2]
  · rw [if_neg h1]
    by_cases h2 : a = o ∧ k < i
    · rw [if_pos h2, if_pos (by omega)]
    · rw [if_neg h2, if_neg (by omega)]
theorem look_L3 (hM : zRM (q.1 127) A) (hW : zWF A) (hl : l < aL A) (v2 v3 : Int) (K : Int → zM → Option zM) : Mo_look_L3 (l : Int) v2 v3 K 5000 0 q = K (aN A : Int) (qu q 134 A l (aN A)) := by
  have wN := hW.1
  have wl := hW.2.2.2.2.2.1
  refine Eq.trans (by rw [qu_zero q 134 A l]; rfl) (for_all (G := fun n i => Mo_look_L3 (l : Int) v2 v3 K n (i : Int) (qu q 134 A l i)) (N := aN A) (by omega) (fun n i hi => ?_) (fun n => ?_))
  · show Mo_look_L3 _ _ _ _ (n + 1) _ _ = Mo_look_L3 _ _ _ _ n ((i + 1 : Nat) : Int) _
    have hM1 : zRM ((qu q 134 A l i).1 127) A := zRM_congr hW (fun k _ => by rw [qu_at, if_neg (by omega)]) hM
    have u1 := Mo_usedBut_eq hM1 hW (but := (l : Int)) (by omega) (w := i) (by omega)
    have u2 := Mo_limit_eq hM1 hW hi
    have u0 : (qu q 134 A l i).1 127 0 = aN A := hM1.1
    rw [Mo_look_L3, u0, u1, u2]
    clear u0 u1 u2 hM1 hM
    rw [wrap_n (n := i) (by omega), wrap_n (n := aN A) (by omega), if_pos (by omega), Option.bind_some, Option.bind_some, sU_case hW hi, ck_in (by omega), ck_in (by omega), Int.toNat_natCast]
    cases hs : sU A l i with
    | true =>
      rw [if_pos rfl, qu_step q 134 A l i (by rw [hs]; rfl)]
      rfl
    | false =>
      rw [if_neg (c := false = true) (by simp), qu_step q 134 A l i (by rw [hs]; rfl)]
      rfl
  · show Mo_look_L3 _ _ _ _ (n + 1) _ _ = _
    have hM1 : zRM ((qu q 134 A l (aN A)).1 127) A := zRM_congr hW (fun k _ => by rw [qu_at, if_neg (by omega)]) hM
    rw [Mo_look_L3, show (qu q 134 A l (aN A)).1 127 0 = aN A from hM1.1, if_neg (Int.lt_irrefl _)]
theorem Mo_look_eq (hM : zRM (q.1 127) A) (hW : zWF A) (hl : l < aL A) (fr lr : Bool) : ∃ q', Mo_look q (l : Int) (zb (!fr)) (zb (!lr)) = some q' ∧ zPM q' A l fr lr ∧ (∀ a, a ≠ 126 → a ≠ 134 → q'.1 a = q.1 a) ∧ q'.2 = q.2 ∧ (∀ k, k < 14 → q'.1 126 k = q.1 126 k) := by
  have wl := hW.2.2.2.2.2.1
  have i1 : wrap ((4 : Int) + (l : Int)) = ((4 + l : Nat) : Int) := by
    rw [show (4 : Int) + (l : Int) = ((4 + l : Nat) : Int) by omega]
    exact wrap_n (by omega)
  have i2 : wrap ((12 : Int) + (l : Int)) = ((12 + l : Nat) : Int) := by
    rw [show (12 : Int) + (l : Int) = ((12 + l : Nat) : Int) by omega]
    exact wrap_n (by omega)
  have j1 : (0 : Int) ≤ ((4 + l : Nat) : Int) ∧ ((4 + l : Nat) : Int) < 244 := by omega
  have j2 : (0 : Int) ≤ ((12 + l : Nat) : Int) ∧ ((12 + l : Nat) : Int) < 244 := by omega
  unfold Mo_look
  rw [look_L3 hM hW hl, i1, ck_in j1, Int.toNat_natCast, show (qu q 134 A l (aN A)).1 127 (4 + l) = aFe A l from (hM.2.2.2.2.2.1 l hl).1]
  unfold Mo_look_b60
  rw [i2, ck_in j2, Int.toNat_natCast, show (qs (qu q 134 A l (aN A)) 126 14 (aFe A l : Int)).1 127 (12 + l) = aLe A l from (qs_na (by decide) _).trans (hM.2.2.2.2.2.1 l hl).2]
  unfold Mo_look_b73 Mo_look_b78
  rw [if_pos (zb_bool _), if_pos (zb_bool _)]
  have hat : ∀ a k, (qs (qs (qs (qs (qu q 134 A l (aN A)) 126 14 (aFe A l : Int)) 126 15 (aLe A l : Int)) 126 16 (zb (!fr))) 126 17 (zb (!lr))).1 a k = if a = 126 ∧ k = 17 then zb (!lr) else if a = 126 ∧ k = 16 then zb (!fr) else if a = 126 ∧ k = 15 then (aLe A l : Int) else if a = 126 ∧ k = 14 then (aFe A l : Int) else if a = 134 ∧ k < aN A then zb (sU A l k) else q.1 a k := fun a k => rfl
  refine ⟨_, rfl, ⟨fun w hw => ?_, ?_, ?_, ?_, ?_⟩, fun a h1 h2 => funext fun k => ?_, rfl, fun k hk => ?_⟩
  · rw [hat, if_neg (by omega), if_neg (by omega), if_neg (by omega), if_neg (by omega), if_pos ⟨rfl, hw⟩]
  · rw [hat, if_neg (by omega), if_neg (by omega), if_neg (by omega), if_pos ⟨rfl, rfl⟩]
  · rw [hat, if_neg (by omega), if_neg (by omega), if_pos ⟨rfl, rfl⟩]
  · rw [hat, if_neg (by omega), if_pos ⟨rfl, rfl⟩]
  · rw [hat, if_pos ⟨rfl, rfl⟩]
  · rw [hat, if_neg (by omega), if_neg (by omega), if_neg (by omega), if_neg (by omega), if_neg (by omega)]
  · rw [hat, if_neg (by omega), if_neg (by omega), if_neg (by omega), if_neg (by omega), if_neg (by omega)]
theorem Mo_begins_eq (hM : zRM (q.1 127) A) (hW : zWF A) (hP : zPM q A l fr lr) (hl : l < aL A) {w : Nat} (hw : w < aN A) : Mo_begins q (w : Int) = some (zb (decide (aLt A w 0 = aFe A l) == fr)) := by
  have h1 := lt_rng hW hw (k := 0) (hW.2.2.2.2.2.2.1 w hw).1
  have h2 := (hW.2.2.2.2.2.2.2.1 l hl).2.1
  have p14 := hP.2.1
  have p16 := hP.2.2.2.1
  unfold Mo_begins
  rw [Mo_firstLetter_eq hM hW hw, Option.bind_some, p14, p16, wrap_zb]
  clear p14 p16
  rw [wrap_n (n := aLt A w 0) (by omega), wrap_n (n := aFe A l) (by omega)]
  by_cases c : aLt A w 0 = aFe A l
  · rw [if_pos (by omega), decide_eq_true c]
    cases fr <;> rfl
  · rw [if_neg (by omega), decide_eq_false c]
    cases fr <;> rfl
theorem Mo_ends_eq (hM : zRM (q.1 127) A) (hW : zWF A) (hP : zPM q A l fr lr) (hl : l < aL A) {w : Nat} (hw : w < aN A) : Mo_ends q (w : Int) = some (zb (decide (aLt A w (aNl A w - 1) = aLe A l) == lr)) := by
  have h0 := (hW.2.2.2.2.2.2.1 w hw).1
  have h1 := lt_rng hW hw (k := aNl A w - 1) (by omega)
  have h2 := (hW.2.2.2.2.2.2.2.1 l hl).2.2.2
  have p14 := hP.2.2.1
  have p16 := hP.2.2.2.2
  unfold Mo_ends
  rw [Mo_lastLetter_eq hM hW hw, Option.bind_some, p14, p16, wrap_zb]
  clear p14 p16
  rw [wrap_n (n := aLt A w (aNl A w - 1)) (by omega), wrap_n (n := aLe A l) (by omega)]
  by_cases c : aLt A w (aNl A w - 1) = aLe A l
  · rw [if_pos (by omega), decide_eq_true c]
    cases lr <;> rfl
  · rw [if_neg (by omega), decide_eq_false c]
    cases lr <;> rfl
end SM0
/-! canStand's questions, one behind the other -/
theorem cs_tail {P1 P2 : Prop} [Decidable P1] [Decidable P2] {n1 n2 : Bool} (h1 : P1 ↔ n1 = false) (h2 : P2 ↔ n2 = true) (lr : Bool) : (if P1 then (if (1 : Int) = (0 : Int) then some (1 : Int) else if P2 then (if (1 : Int) = zb lr then some (1 : Int) else some (0 : Int)) else (if (0 : Int) = zb lr then some (1 : Int) else some (0 : Int))) else (if (0 : Int) = (0 : Int) then some (1 : Int) else if P2 then (if (1 : Int) = zb lr then some (1 : Int) else some (0 : Int)) else (if (0 : Int) = zb lr then some (1 : Int) else some (0 : Int)))) = some (zb (n1 || (n2 == lr))) := by
  cases n1 with
  | true =>
    rw [if_neg (fun g => by cases h1.mp g), if_pos rfl]
    rfl
  | false =>
    rw [if_pos (h1.mpr rfl), if_neg (by decide)]
    cases n2 with
    | true =>
      rw [if_pos (h2.mpr rfl)]
      cases lr <;> rfl
    | false =>
      rw [if_neg (fun g => by cases h2.mp g)]
      cases lr <;> rfl
theorem cs_all {P0 P3 : Prop} [Decidable P0] [Decidable P3] {n0 n3 t : Bool} {T : Option Int} (h0 : P0 ↔ n0 = false) (h3 : P3 ↔ n3 = true) (hT : T = some (zb t)) (fr : Bool) : (if P0 then (if P3 then (if (1 : Int) = zb fr then T else some (0 : Int)) else (if (0 : Int) = zb fr then T else some (0 : Int))) else T) = some (zb (true && true && (n0 || (n3 == fr)) && t)) := by
  subst hT
  cases n0 with
  | true =>
    rw [if_neg (fun g => by cases h0.mp g)]
    rfl
  | false =>
    rw [if_pos (h0.mpr rfl)]
    cases n3 with
    | true =>
      rw [if_pos (h3.mpr rfl)]
      cases fr <;> rfl
    | false =>
      rw [if_neg (fun g => by cases h3.mp g)]
      cases fr <;> rfl
theorem cs_wrap {A : zT9} {l w b : Nat} (hW : zWF A) (hl : l < aL A) (hw : w < aN A) (hb : b < 13) : wrap (w : Int) = w ∧ ((0 : Int) ≤ (w : Int) ∧ (w : Int) < 40) ∧ wrap (b : Int) = b ∧ wrap ((b : Int) + (aSy A w : Int)) = ((b + aSy A w : Nat) : Int) ∧ wrap (aB A : Int) = aB A ∧ wrap (aLt A w 0 : Int) = aLt A w 0 ∧ wrap (aLt A w (aNl A w - 1) : Int) = aLt A w (aNl A w - 1) ∧ wrap (aFe A l : Int) = aFe A l ∧ wrap (aLe A l : Int) = aLe A l := by
  have wN := hW.1
  have wB := hW.2.2.1
  have n0 := (hW.2.2.2.2.2.2.1 w hw).1
  have sy := (aSt_lt hW hw).2
  have r1 := lt_rng hW hw (k := 0) n0
  have r2 := lt_rng hW hw (k := aNl A w - 1) (by omega)
  have r3 := hW.2.2.2.2.2.2.2.1 l hl
  exact ⟨wrap_n (by omega), by omega, wrap_n (by omega), wrap_n (n := b + aSy A w) (by omega), wrap_n (by omega), wrap_n (by omega), wrap_n (by omega), wrap_n (by omega), wrap_n (by omega)⟩
theorem ar_read {x B k : Nat} (h1 : x < B) (h2 : B ≤ 12) (h3 : k < 12) : wrap (x : Int) = x ∧ wrap (B : Int) = B ∧ (x : Int) < (B : Int) ∧ wrap (k : Int) = k ∧ ((0 : Int) ≤ (k : Int) ∧ (k : Int) < 12) ∧ ((0 : Int) ≤ (x : Int) ∧ (x : Int) < 12) := ⟨wrap_n (by omega), wrap_n (by omega), by omega, wrap_n (by omega), by omega, by omega⟩

/-! the search: the reference's table of what can follow -/
def sN (A : zT9) (l : Nat) (lr : Bool) (w b : Nat) : Bool := sU A l w && aFitB A w b && (decide (b + aSy A w ≠ aB A) || (decide (aLt A w (aNl A w - 1) = aLe A l) == lr))
def sB (A : zT9) (l : Nat) (fr : Bool) (w : Nat) : Bool := decide (aLt A w 0 = aFe A l) == fr
theorem sS_eq (A : zT9) (l : Nat) (fr lr : Bool) (w b : Nat) : sS A l fr lr w b = (sN A l lr w b && (decide (b ≠ 0) || sB A l fr w)) := by
  unfold sS sN sB
  cases sU A l w <;> cases aFitB A w b <;> cases (decide (b + aSy A w ≠ aB A) || (decide (aLt A w (aNl A w - 1) = aLe A l) == lr)) <;> cases (decide (b ≠ 0) || (decide (aLt A w 0 = aFe A l) == fr)) <;> rfl
def fB (A : zT9) (l : Nat) (fr lr : Bool) (n b e w : Nat) : Bool := sN A l lr w b && decide (aBd A w b ≤ e) && gG A (sS A l fr lr) n (b + aSy A w) (e - aBd A w b)
def tT (A : zT9) (l : Nat) (fr lr : Bool) (b e : Nat) : Nat → Bool
  | 0 => false
  | n + 1 => anyTo (fB A l fr lr n b e) (aN A)
theorem gS_fB (A : zT9) (l : Nat) (fr lr : Bool) (n b e w : Nat) : gS A (sS A l fr lr) n b e w = (fB A l fr lr n b e w && (decide (b ≠ 0) || sB A l fr w)) := by
  unfold gS fB
  rw [sS_eq]
  cases sN A l lr w b <;> cases (decide (b ≠ 0) || sB A l fr w) <;> cases decide (aBd A w b ≤ e) <;> cases gG A (sS A l fr lr) n (b + aSy A w) (e - aBd A w b) <;> rfl
theorem anyTo_congr {p p' : Nat → Bool} {n : Nat} (h : ∀ i, i < n → p i = p' i) : anyTo p n = anyTo p' n := by
  induction n with
  | zero => rfl
  | succ n ih =>
    unfold anyTo
    rw [ih (fun i hi => h i (by omega)), h n (by omega)]
theorem tT_gG {A : zT9} {l : Nat} {fr lr : Bool} {n b e : Nat} (hb : b ≠ 0) : tT A l fr lr b e (n + 1) = gG A (sS A l fr lr) (n + 1) b e := by
  show anyTo _ _ = anyTo (gS A (sS A l fr lr) n b e) (aN A)
  refine anyTo_congr (fun i _ => ?_)
  rw [gS_fB, decide_eq_true hb]
  cases fB A l fr lr n b e i <;> rfl
section FT
variable {A : zT9} {l : Nat} {fr lr : Bool}
theorem fB_le (hW : zWF A) {n b e w : Nat} (hw : w < aN A) (h : fB A l fr lr n b e w = true) : b + (n + 1) ≤ aB A ∧ e ≤ n + 1 := by
  unfold fB sN at h
  simp only [Bool.and_eq_true, decide_eq_true_eq] at h
  obtain ⟨⟨⟨⟨-, h1⟩, -⟩, h2⟩, h3⟩ := h
  have f1 := ((aFitB_iff A w b).mp h1).1
  have f2 := (hW.2.2.2.2.2.2.1 w hw).2.2.1
  have f3 := aBd_le A w b
  have f4 := gG_le hW (sS_ok A l fr lr) h3
  omega
theorem tT_le (hW : zWF A) {n b e : Nat} (h : tT A l fr lr b e n = true) : 1 ≤ n ∧ b + n ≤ aB A ∧ e ≤ n := by
  cases n with
  | zero => cases h
  | succ n =>
    obtain ⟨w, h1, h2⟩ := anyTo_iff.mp h
    have := fB_le hW h1 h2
    omega
def tJ (A : zT9) (l : Nat) (fr lr : Bool) (j : Nat) : Bool := tT A l fr lr (j / 169) (j % 169 / 13) (j % 13)
theorem tJ_at {b e n : Nat} (he : e ≤ 12) (hn : n ≤ 12) : tJ A l fr lr (169 * b + 13 * e + n) = tT A l fr lr b e n := by
  unfold tJ
  rw [show (169 * b + 13 * e + n) / 169 = b by omega, show (169 * b + 13 * e + n) % 169 / 13 = e by omega, show (169 * b + 13 * e + n) % 13 = n by omega]
def pE (d j : Nat) : Bool := decide (d ≤ j / 169)
def pF (b n e j : Nat) : Bool := decide (b < j / 169 ∨ (j / 169 = b ∧ (j % 13 < n ∨ (j % 13 = n ∧ j % 169 / 13 < e))))
def qT (q : zM) (A : zT9) (l : Nat) (fr lr : Bool) (P : Nat → Bool) : zM := (fun a j => if a = 135 ∧ j < 2197 then zb (P j && tJ A l fr lr j) else q.1 a j, q.2)
theorem qT_at (q : zM) (P : Nat → Bool) (a j : Nat) : (qT q A l fr lr P).1 a j = if a = 135 ∧ j < 2197 then zb (P j && tJ A l fr lr j) else q.1 a j := rfl
theorem qT_fr (q : zM) (P : Nat → Bool) {a : Nat} (h : a ≠ 135) : (qT q A l fr lr P).1 a = q.1 a := funext fun j => by rw [qT_at, if_neg (fun g => h g.1)]
theorem qT_congr (q : zM) {P P' : Nat → Bool} (h : ∀ j, j < 2197 → (P j && tJ A l fr lr j) = (P' j && tJ A l fr lr j)) : qT q A l fr lr P = qT q A l fr lr P' := by
  refine zM_ext (fun a j => ?_) (fun a j => rfl)
  rw [qT_at, qT_at]
  by_cases c : a = 135 ∧ j < 2197
  · rw [if_pos c, if_pos c, h j c.2]
  · rw [if_neg c, if_neg c]
theorem and_cong {p p' t : Bool} (h : t = true → (p = true ↔ p' = true)) : (p && t) = (p' && t) := by
  cases t with
  | false => cases p <;> cases p' <;> rfl
  | true =>
    have := h rfl
    cases p <;> cases p' <;> simp_all
theorem qT_step (q : zM) {b n e : Nat} (hb : b < 13) (hn : n ≤ 12) (he : e ≤ 12) : qs (qT q A l fr lr (pF b n e)) 135 (169 * b + 13 * e + n) (zb (tT A l fr lr b e n)) = qT q A l fr lr (pF b n (e + 1)) := by
  refine zM_ext (fun a j => ?_) (fun a j => rfl)
  rw [qs_at, qT_at, qT_at]
  by_cases c : a = 135 ∧ j = 169 * b + 13 * e + n
  · obtain ⟨c1, c2⟩ := c
    subst c2
    rw [if_pos ⟨c1, rfl⟩, if_pos ⟨c1, by omega⟩, tJ_at he hn]
    have : pF b n (e + 1) (169 * b + 13 * e + n) = true := by
      unfold pF
      rw [decide_eq_true_iff]
      omega
    rw [this]
    rfl
  · rw [if_neg c]
    by_cases c2 : a = 135 ∧ j < 2197
    · rw [if_pos c2, if_pos c2]
      refine congrArg zb (and_cong (fun _ => ?_))
      unfold pF
      rw [decide_eq_true_iff, decide_eq_true_iff]
      omega
    · rw [if_neg c2, if_neg c2]
theorem qT_bends (hW : zWF A) (q : zM) {b n : Nat} : qT q A l fr lr (pF b n (n + 1)) = qT q A l fr lr (pF b (n + 1) 0) := by
  refine qT_congr q (fun j hj => and_cong (fun h => ?_))
  have := tT_le hW h
  unfold pF
  rw [decide_eq_true_iff, decide_eq_true_iff]
  omega
theorem qT_first (hW : zWF A) (q : zM) {b : Nat} : qT q A l fr lr (pF b 1 0) = qT q A l fr lr (pE (b + 1)) := by
  refine qT_congr q (fun j hj => and_cong (fun h => ?_))
  have := tT_le hW h
  unfold pF pE
  rw [decide_eq_true_iff, decide_eq_true_iff]
  omega
theorem qT_words (hW : zWF A) (q : zM) {b : Nat} (hb : b < aB A) : qT q A l fr lr (pF b (aB A - b + 1) 0) = qT q A l fr lr (pE b) := by
  refine qT_congr q (fun j hj => and_cong (fun h => ?_))
  have := tT_le hW h
  unfold pF pE
  rw [decide_eq_true_iff, decide_eq_true_iff]
  omega
/-- the reference's row of what follows, from a beat on -/
def zTB (q : zM) (A : zT9) (l : Nat) (fr lr : Bool) (b0 : Nat) : Prop := ∀ b e n, b0 ≤ b → b ≠ 0 → b < aB A → e ≤ 12 → 1 ≤ n → n ≤ 12 → q.1 135 (169 * b + 13 * e + n) = zb (gG A (sS A l fr lr) n b e)
theorem zTB_of (hW : zWF A) (q : zM) {P : Nat → Bool} {b0 : Nat} (hP : ∀ b e n, b0 ≤ b → e ≤ 12 → n ≤ 12 → P (169 * b + 13 * e + n) = true) : zTB (qT q A l fr lr P) A l fr lr b0 := by
  intro b e n h1 h2 h3 h4 h5 h6
  have wB := hW.2.2.1
  obtain ⟨m, rfl⟩ : ∃ m, n = m + 1 := ⟨n - 1, by omega⟩
  rw [qT_at, if_pos ⟨rfl, by omega⟩, hP b e _ h1 h4 h6, tJ_at h4 h6, tT_gG h2]
  rfl
theorem pE_all {d b e n : Nat} (h : d ≤ b) (he : e ≤ 12) (hn : n ≤ 12) : pE d (169 * b + 13 * e + n) = true := by
  unfold pE
  rw [decide_eq_true_iff]
  omega
theorem pF_all {b0 n0 e0 b e n : Nat} (h : b0 + 1 ≤ b) (he : e ≤ 12) (hn : n ≤ 12) : pF b0 n0 e0 (169 * b + 13 * e + n) = true := by
  unfold pF
  rw [decide_eq_true_iff]
  omega
end FT

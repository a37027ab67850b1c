/-! the search, pure: rows of n words with e bends from beat b to the metre's end, S being which word may stand where -/
theorem anyTo_iff {p : Nat → Bool} {n : Nat} : anyTo p n = true ↔ ∃ i, i < n ∧ p i = true := by
  induction n with
  | zero => exact ⟨fun h => (by cases h), fun ⟨i, h, _⟩ => absurd h (Nat.not_lt_zero _)⟩
  | succ n ih =>
    unfold anyTo
    rw [Bool.or_eq_true, ih]
    constructor
    · rintro (⟨i, h1, h2⟩ | h)
      · exact ⟨i, by omega, h2⟩
      · exact ⟨n, by omega, h⟩
    · rintro ⟨i, h1, h2⟩
      by_cases e : i = n
      · subst e; exact Or.inr h2
      · exact Or.inl ⟨i, by omega, h2⟩
theorem fstTo_eq {p : Nat → Bool} {n x : Nat} (hx : x < n) (h1 : p x = true) (h2 : ∀ i, i < x → p i = false) : fstTo p n = x := by
  have hs := fstTo_spec p n
  rcases Nat.lt_trichotomy (fstTo p n) x with g | g | g
  · have a := hs.2 (by omega)
    rw [h2 _ g] at a
    cases a
  · exact g
  · have a := hs.1 x g
    rw [h1] at a
    cases a
theorem fstTo_any {p : Nat → Bool} {n : Nat} (h : anyTo p n = true) : fstTo p n < n ∧ p (fstTo p n) = true := by
  rw [anyTo_fst] at h
  have h := of_decide_eq_true h
  exact ⟨h, (fstTo_spec p n).2 h⟩
def gG (A : zT9) (S : Nat → Nat → Bool) : Nat → Nat → Nat → Bool
  | 0, b, e => decide (b = aB A) && decide (e = 0)
  | n + 1, b, e => anyTo (fun w => S w b && decide (aBd A w b ≤ e) && gG A S n (b + aSy A w) (e - aBd A w b)) (aN A)
/-- the word can be the first one of such a row of n words more -/
def gS (A : zT9) (S : Nat → Nat → Bool) (n b e w : Nat) : Bool := S w b && decide (aBd A w b ≤ e) && gG A S n (b + aSy A w) (e - aBd A w b)
def gF (A : zT9) (S : Nat → Nat → Bool) (n b e : Nat) : Nat := fstTo (gS A S n b e) (aN A)
/-- the cheapest rows -/
def gM (A : zT9) (S : Nat → Nat → Bool) (n b e : Nat) : Prop := gG A S n b e = true ∧ ∀ n' e', gG A S n' b e' = true → 13 * e + n ≤ 13 * e' + n'
def gOK (A : zT9) (S : Nat → Nat → Bool) : Prop := ∀ w b, w < aN A → S w b = true → aFitB A w b = true
theorem gS_iff {A : zT9} {S : Nat → Nat → Bool} {n b e w : Nat} : gS A S n b e w = true ↔ S w b = true ∧ aBd A w b ≤ e ∧ gG A S n (b + aSy A w) (e - aBd A w b) = true := by
  unfold gS
  rw [Bool.and_eq_true, Bool.and_eq_true, decide_eq_true_iff, and_assoc]
theorem gG_succ {A : zT9} {S : Nat → Nat → Bool} {n b e : Nat} : gG A S (n + 1) b e = true ↔ ∃ w, w < aN A ∧ S w b = true ∧ aBd A w b ≤ e ∧ gG A S n (b + aSy A w) (e - aBd A w b) = true := by
  show anyTo (gS A S n b e) (aN A) = true ↔ _
  rw [anyTo_iff]
  constructor
  · rintro ⟨w, h1, h2⟩
    exact ⟨w, h1, gS_iff.mp h2⟩
  · rintro ⟨w, h1, h2⟩
    exact ⟨w, h1, gS_iff.mpr h2⟩
theorem gF_spec {A : zT9} {S : Nat → Nat → Bool} {n b e : Nat} (h : gG A S (n + 1) b e = true) : gF A S n b e < aN A ∧ S (gF A S n b e) b = true ∧ aBd A (gF A S n b e) b ≤ e ∧ gG A S n (b + aSy A (gF A S n b e)) (e - aBd A (gF A S n b e) b) = true := by
  obtain ⟨h1, h2⟩ := fstTo_any (p := gS A S n b e) (n := aN A) h
  exact ⟨h1, gS_iff.mp h2⟩
section GG
variable {A : zT9} {S : Nat → Nat → Bool}
theorem gOK_fit (hW : zWF A) (hS : gOK A S) {w b : Nat} (hw : w < aN A) (h : S w b = true) : b + aSy A w ≤ aB A ∧ 1 ≤ aSy A w ∧ aBd A w b ≤ 1 := ⟨((aFitB_iff A w b).mp (hS w b hw h)).1, (hW.2.2.2.2.2.2.1 w hw).2.2.1, aBd_le A w b⟩
theorem gG_le (hW : zWF A) (hS : gOK A S) : ∀ {n b e : Nat}, gG A S n b e = true → b + n ≤ aB A ∧ e ≤ n := by
  intro n
  induction n with
  | zero =>
    intro b e h
    unfold gG at h
    rw [Bool.and_eq_true, decide_eq_true_iff, decide_eq_true_iff] at h
    omega
  | succ n ih =>
    intro b e h
    obtain ⟨w, h1, h2, h3, h4⟩ := gG_succ.mp h
    obtain ⟨f1, f2, f3⟩ := gOK_fit hW hS h1 h2
    have := ih h4
    omega
theorem gG_zero {b e : Nat} : gG A S 0 b e = true ↔ b = aB A ∧ e = 0 := by
  unfold gG
  rw [Bool.and_eq_true, decide_eq_true_iff, decide_eq_true_iff]
theorem gM_unique (hW : zWF A) (hS : gOK A S) {n n' b e e' : Nat} (h : gM A S n b e) (h' : gM A S n' b e') : n = n' ∧ e = e' := by
  have h1 := gG_le hW hS h.1
  have h2 := gG_le hW hS h'.1
  have h3 := h.2 _ _ h'.1
  have h4 := h'.2 _ _ h.1
  have hB := hW.2.2.1
  omega
theorem gM_next {n b e : Nat} (h : gM A S (n + 1) b e) : gM A S n (b + aSy A (gF A S n b e)) (e - aBd A (gF A S n b e) b) := by
  obtain ⟨f1, f2, f3, f4⟩ := gF_spec h.1
  refine ⟨f4, fun n' e' h' => ?_⟩
  have g : gG A S (n' + 1) b (e' + aBd A (gF A S n b e) b) = true := gG_succ.mpr ⟨_, f1, f2, Nat.le_add_left _ _, by rw [Nat.add_sub_cancel]; exact h'⟩
  have := h.2 _ _ g
  omega
/-- the row's words: where the k-th one begins and how many bends are left then -/
def rS (A : zT9) (S : Nat → Nat → Bool) (n e : Nat) : Nat → Nat × Nat
  | 0 => (0, e)
  | k + 1 => ((rS A S n e k).1 + aSy A (gF A S (n - k - 1) (rS A S n e k).1 (rS A S n e k).2), (rS A S n e k).2 - aBd A (gF A S (n - k - 1) (rS A S n e k).1 (rS A S n e k).2) (rS A S n e k).1)
def rW (A : zT9) (S : Nat → Nat → Bool) (n e k : Nat) : Nat := gF A S (n - k - 1) (rS A S n e k).1 (rS A S n e k).2
theorem rS_succ (A : zT9) (S : Nat → Nat → Bool) (n e k : Nat) : rS A S n e (k + 1) = ((rS A S n e k).1 + aSy A (rW A S n e k), (rS A S n e k).2 - aBd A (rW A S n e k) (rS A S n e k).1) := rfl
theorem rS_M {n e : Nat} (h : gM A S n 0 e) : ∀ k, k ≤ n → gM A S (n - k) (rS A S n e k).1 (rS A S n e k).2 := by
  intro k
  induction k with
  | zero => intro _; exact h
  | succ k ih =>
    intro hk
    have h1 := ih (by omega)
    rw [show n - k = (n - k - 1) + 1 by omega] at h1
    have h2 := gM_next h1
    rw [show n - (k + 1) = n - k - 1 by omega]
    exact h2
theorem rW_ok (hW : zWF A) (hS : gOK A S) {n e k : Nat} (h : gM A S n 0 e) (hk : k < n) : rW A S n e k < aN A ∧ S (rW A S n e k) (rS A S n e k).1 = true ∧ aBd A (rW A S n e k) (rS A S n e k).1 ≤ (rS A S n e k).2 ∧ (rS A S n e k).1 < aB A ∧ (rS A S n e (k + 1)).1 ≤ aB A := by
  have h1 := rS_M h k (by omega)
  rw [show n - k = (n - k - 1) + 1 by omega] at h1
  obtain ⟨f1, f2, f3, f4⟩ := gF_spec h1.1
  obtain ⟨a1, a2, a3⟩ := gOK_fit hW hS f1 f2
  have a1 : (rS A S n e k).1 + aSy A (rW A S n e k) ≤ aB A := a1
  have a2 : 1 ≤ aSy A (rW A S n e k) := a2
  refine ⟨f1, f2, f3, ?_, a1⟩
  omega
theorem rS_end {n e : Nat} (h : gM A S n 0 e) : (rS A S n e n).1 = aB A := by
  have h1 := (rS_M h n (Nat.le_refl _)).1
  rw [Nat.sub_self] at h1
  exact (gG_zero.mp h1).1
theorem gM_pos (hW : zWF A) {n e : Nat} (h : gM A S n 0 e) : 1 ≤ n := by
  have hB := hW.2.1
  rcases Nat.eq_zero_or_pos n with g | g
  · rw [g] at h
    have := (gG_zero.mp h.1).1
    omega
  · exact g
end GG
/-! the least of a row of numbers, and the first place where it stands -/
def minTo (k : Nat → Nat) : Nat → Nat
  | 0 => 1000000
  | i + 1 => if k i < minTo k i then k i else minTo k i
def argTo (k : Nat → Nat) (x : Int) : Nat → Int
  | 0 => x
  | i + 1 => if k i < minTo k i then (i : Int) else argTo k x i
theorem minTo_le (k : Nat → Nat) (n : Nat) : minTo k n ≤ 1000000 ∧ ∀ i, i < n → minTo k n ≤ k i := by
  induction n with
  | zero => exact ⟨Nat.le_refl _, fun i h => absurd h (Nat.not_lt_zero _)⟩
  | succ n ih =>
    unfold minTo
    by_cases c : k n < minTo k n
    · rw [if_pos c]
      refine ⟨by omega, fun i hi => ?_⟩
      by_cases e : i = n
      · subst e; exact Nat.le_refl _
      · have := ih.2 i (by omega)
        omega
    · rw [if_neg c]
      refine ⟨ih.1, fun i hi => ?_⟩
      by_cases e : i = n
      · subst e; omega
      · exact ih.2 i (by omega)
theorem minTo_arg (k : Nat → Nat) (x : Int) (n : Nat) (h : minTo k n < 1000000) : ∃ w, w < n ∧ k w = minTo k n ∧ argTo k x n = (w : Int) ∧ ∀ i, i < w → minTo k n < k i := by
  induction n with
  | zero => exact absurd h (Nat.lt_irrefl _)
  | succ n ih =>
    unfold minTo argTo
    unfold minTo at h
    by_cases c : k n < minTo k n
    · rw [if_pos c, if_pos c]
      exact ⟨n, Nat.lt_succ_self n, rfl, rfl, fun i hi => Nat.lt_of_lt_of_le c ((minTo_le k n).2 i hi)⟩
    · rw [if_neg c] at h
      rw [if_neg c, if_neg c]
      obtain ⟨w, h1, h2, h3, h4⟩ := ih h
      exact ⟨w, by omega, h2, h3, h4⟩
section OP
variable {A : zT9} {S : Nat → Nat → Bool}
/-- what the class keeps for a beat: the least cost, and the first word of a row of this cost -/
def opC (A : zT9) (S : Nat → Nat → Bool) (b : Nat) (v x : Int) : Prop := (v = 1000000 ∧ ∀ n e, gG A S n b e = false) ∨ ∃ n e, gM A S n b e ∧ v = ((13 * e + n : Nat) : Int) ∧ ∀ m, n = m + 1 → x = (gF A S m b e : Int)
def kW (A : zT9) (S : Nat → Nat → Bool) (c : Nat → Nat) (b w : Nat) : Nat := if S w b = true then (if c (b + aSy A w) = 1000000 then 1000000 else c (b + aSy A w) + 1 + 13 * aBd A w b) else 1000000
theorem opC_end (hW : zWF A) (hS : gOK A S) (x : Int) : opC A S (aB A) 0 x := by
  refine Or.inr ⟨0, 0, ⟨gG_zero.mpr ⟨rfl, rfl⟩, fun n e h => by omega⟩, rfl, fun m h => by omega⟩
theorem opC_step (hW : zWF A) (hS : gOK A S) {c : Nat → Nat} {xs : Nat → Int} {b : Nat} (hb : b < aB A) (hc : ∀ j, b < j → j ≤ aB A → opC A S j (c j : Int) (xs j)) (x : Int) : opC A S b (minTo (kW A S c b) (aN A) : Int) (argTo (kW A S c b) x (aN A)) := by
  have hB := hW.2.2.1
  have c2 : ∀ w n e, w < aN A → S w b = true → aBd A w b ≤ e → gG A S n (b + aSy A w) (e - aBd A w b) = true → kW A S c b w ≤ 13 * e + (n + 1) := by
    intro w n e h1 h2 h3 h4
    obtain ⟨f1, f2, f3⟩ := gOK_fit hW hS h1 h2
    unfold kW
    rw [if_pos h2]
    rcases hc (b + aSy A w) (by omega) f1 with ⟨_, g⟩ | ⟨n', e', g1, g2, _⟩
    · rw [g] at h4
      cases h4
    · have l1 := gG_le hW hS g1.1
      have l2 := g1.2 _ _ h4
      rw [if_neg (by omega)]
      omega
  have c3 : ∀ w, w < aN A → kW A S c b w < 1000000 → ∃ n' e', S w b = true ∧ gG A S n' (b + aSy A w) e' = true ∧ kW A S c b w = 13 * (e' + aBd A w b) + (n' + 1) := by
    intro w h1 h2
    unfold kW at h2
    by_cases s : S w b = true
    · rw [if_pos s] at h2
      by_cases m : c (b + aSy A w) = 1000000
      · rw [if_pos m] at h2
        exact absurd h2 (Nat.lt_irrefl _)
      · obtain ⟨f1, f2, f3⟩ := gOK_fit hW hS h1 s
        rcases hc (b + aSy A w) (by omega) f1 with ⟨g, _⟩ | ⟨n', e', g1, g2, _⟩
        · omega
        · refine ⟨n', e', s, g1.1, ?_⟩
          unfold kW
          rw [if_pos s, if_neg m]
          omega
    · rw [if_neg s] at h2
      exact absurd h2 (Nat.lt_irrefl _)
  have hz : ∀ e, gG A S 0 b e = true → False := fun e h => by
    have := (gG_zero.mp h).1
    omega
  obtain ⟨m1, m2⟩ := minTo_le (kW A S c b) (aN A)
  by_cases cm : minTo (kW A S c b) (aN A) = 1000000
  · left
    refine ⟨by omega, fun n e => ?_⟩
    cases h : gG A S n b e with
    | false => rfl
    | true =>
      exfalso
      cases n with
      | zero => exact hz e h
      | succ n =>
        obtain ⟨w, h1, h2, h3, h4⟩ := gG_succ.mp h
        have l := gG_le hW hS h
        have := c2 w n e h1 h2 h3 h4
        have := m2 w h1
        omega
  · right
    obtain ⟨w, h1, h2, h3, h4⟩ := minTo_arg (kW A S c b) x (aN A) (by omega)
    obtain ⟨n', e', s1, s2, s3⟩ := c3 w h1 (by omega)
    have hg : gS A S n' b (e' + aBd A w b) w = true := gS_iff.mpr ⟨s1, Nat.le_add_left _ _, by rw [Nat.add_sub_cancel]; exact s2⟩
    refine ⟨n' + 1, e' + aBd A w b, ⟨gG_succ.mpr ⟨w, h1, gS_iff.mp hg⟩, fun n2 e2 g => ?_⟩, by omega, fun m hm => ?_⟩
    · cases n2 with
      | zero => exact absurd g (fun h => hz e2 h)
      | succ n2 =>
        obtain ⟨w2, k1, k2, k3, k4⟩ := gG_succ.mp g
        have := c2 w2 n2 e2 k1 k2 k3 k4
        have := m2 w2 k1
        omega
    · have hm : m = n' := by omega
      subst hm
      rw [h3]
      have : gF A S m b (e' + aBd A w b) = w := by
        refine fstTo_eq h1 hg (fun i hi => ?_)
        cases hgi : gS A S m b (e' + aBd A w b) i with
        | false => rfl
        | true =>
          exfalso
          obtain ⟨k2, k3, k4⟩ := gS_iff.mp hgi
          have := c2 i m _ (by omega) k2 k3 k4
          have := h4 i hi
          omega
      rw [this]
end OP

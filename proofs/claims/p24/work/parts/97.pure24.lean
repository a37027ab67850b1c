/-! p24: rows of words, pure: how many there are, the line as a row, the bends of the row found, other lines -/
theorem sumTo_front (f : Nat → Nat) (n : Nat) : sumTo f (n + 1) = f 0 + sumTo (fun j => f (j + 1)) n := by
  induction n with
  | zero => show 0 + f 0 = f 0 + 0; omega
  | succ n ih =>
    show sumTo f (n + 1) + f (n + 1) = f 0 + (sumTo (fun j => f (j + 1)) n + f (n + 1))
    rw [ih]
    omega
theorem sumTo_zero {f : Nat → Nat} {n : Nat} : sumTo f n = 0 ↔ ∀ i, i < n → f i = 0 := by
  induction n with
  | zero => exact ⟨fun _ i h => absurd h (Nat.not_lt_zero _), fun _ => rfl⟩
  | succ n ih =>
    show sumTo f n + f n = 0 ↔ _
    constructor
    · intro h i hi
      by_cases e : i = n
      · subst e; omega
      · exact ih.mp (by omega) i (by omega)
    · intro h
      rw [ih.mpr (fun i hi => h i (by omega)), h n (by omega)]
section PU
variable {A B : zT9} {S T : Nat → Nat → Bool}
/-- rows are told as none just where there is none -/
theorem eqW_none (hW : zWF A) (hS : gOK A S) {g : Nat → Nat} (h : eqW A S 0 g) : ∀ (d b : Nat), b + d = aB A → (g b = 0 ↔ ∀ n e, gG A S n b e = false) := by
  intro d
  induction d using Nat.strongRecOn with
  | ind d ih =>
    intro b hb
    by_cases c : b = aB A
    · rw [c, h.1]
      refine ⟨fun q => absurd q (by decide), fun q => ?_⟩
      have := q 0 0
      rw [gG_zero.mpr ⟨rfl, rfl⟩] at this
      cases this
    · have e1 : g b = 0 ↔ sumTo (fun w => if S w b = true then g (b + aSy A w) else 0) (aN A) = 0 := by
        rw [h.2 b (Nat.zero_le _) (by omega)]
        omega
      rw [e1, sumTo_zero]
      constructor
      · intro q n e
        cases hg : gG A S n b e with
        | false => rfl
        | true =>
          exfalso
          cases n with
          | zero => exact c (gG_zero.mp hg).1
          | succ n =>
            obtain ⟨w, h1, h2, h3, h4⟩ := gG_succ.mp hg
            obtain ⟨f1, f2, f3⟩ := gOK_fit hW hS h1 h2
            have q1 := q w h1
            rw [if_pos h2] at q1
            rw [(ih (aB A - (b + aSy A w)) (by omega) (b + aSy A w) (by omega)).mp q1] at h4
            cases h4
      · intro q w hw
        by_cases s : S w b = true
        · obtain ⟨f1, f2, f3⟩ := gOK_fit hW hS hw s
          rw [if_pos s]
          refine (ih (aB A - (b + aSy A w)) (by omega) (b + aSy A w) (by omega)).mpr (fun n e => ?_)
          cases hg : gG A S n (b + aSy A w) e with
          | false => rfl
          | true =>
            have : gG A S (n + 1) b (e + aBd A w b) = true := gG_succ.mpr ⟨w, hw, s, Nat.le_add_left _ _, by rw [Nat.add_sub_cancel]; exact hg⟩
            rw [q] at this
            cases this
        · rw [if_neg s]
/-- words one behind the other are a row -/
theorem gG_of {ws bt : Nat → Nat} {n : Nat} (h1 : ∀ k, k < n → ws k < aN A ∧ S (ws k) (bt k) = true ∧ bt (k + 1) = bt k + aSy A (ws k)) (h2 : bt n = aB A) : ∀ (d k : Nat), k + d = n → gG A S d (bt k) (sumTo (fun j => aBd A (ws (k + j)) (bt (k + j))) d) = true := by
  intro d
  induction d with
  | zero =>
    intro k hk
    have e : k = n := by omega
    rw [e, h2]
    exact gG_zero.mpr ⟨rfl, rfl⟩
  | succ d ih =>
    intro k hk
    obtain ⟨a1, a2, a3⟩ := h1 k (by omega)
    refine gG_succ.mpr ⟨ws k, a1, a2, ?_, ?_⟩
    · rw [sumTo_front]
      show aBd A (ws (k + 0)) (bt (k + 0)) ≤ aBd A (ws (k + 0)) (bt (k + 0)) + _
      omega
    · have e := ih (k + 1) (by omega)
      rw [sumTo_front, a3] at *
      have e2 : aBd A (ws (k + 0)) (bt (k + 0)) + sumTo (fun j => aBd A (ws (k + (j + 1))) (bt (k + (j + 1)))) d - aBd A (ws k) (bt k) = sumTo (fun j => aBd A (ws (k + 1 + j)) (bt (k + 1 + j))) d := by
        rw [Nat.add_zero, Nat.add_sub_cancel_left]
        exact sumTo_congr (fun i _ => by rw [show k + (i + 1) = k + 1 + i by omega])
      rw [e2]
      exact e
/-- the bends of the row that is found -/
theorem rS_bends (hW : zWF A) (hS : gOK A S) {n e : Nat} (h : gM A S n 0 e) : sumTo (fun k => aBd A (rW A S n e k) (rS A S n e k).1) n = e := by
  have main : ∀ k, k ≤ n → sumTo (fun k => aBd A (rW A S n e k) (rS A S n e k).1) k + (rS A S n e k).2 = e := by
    intro k
    induction k with
    | zero => intro _; exact Nat.zero_add _
    | succ k ih =>
      intro hk
      have h1 := ih (by omega)
      have h2 := (rW_ok hW hS h (show k < n by omega)).2.2.1
      rw [rS_succ]
      show sumTo _ k + aBd A (rW A S n e k) (rS A S n e k).1 + ((rS A S n e k).2 - aBd A (rW A S n e k) (rS A S n e k).1) = e
      omega
  have h1 := main n (Nat.le_refl _)
  have h2 := (rS_M h n (Nat.le_refl _)).1
  rw [Nat.sub_self] at h2
  rw [(gG_zero.mp h2).2] at h1
  omega
/-- states with the same words and metre -/
def zSm (A B : zT9) : Prop := ∀ k, k ≠ 7 → k ≠ 8 → B k = A k
theorem zSm_get (h : zSm A B) : aN B = aN A ∧ aB B = aB A ∧ aS B = aS A ∧ aL B = aL A ∧ aNl B = aNl A ∧ aSy B = aSy A ∧ aSt B = aSt A ∧ aLi B = aLi A ∧ aFe B = aFe A ∧ aLe B = aLe A ∧ aLt B = aLt A ∧ aBd B = aBd A ∧ aFitB B = aFitB A := by
  have e0 := h 0 (by decide) (by decide)
  have e1 := h 1 (by decide) (by decide)
  have e2 := h 2 (by decide) (by decide)
  have e3 := h 3 (by decide) (by decide)
  have e4 := h 4 (by decide) (by decide)
  have e5 := h 5 (by decide) (by decide)
  have e6 := h 6 (by decide) (by decide)
  have e9 := h 9 (by decide) (by decide)
  have hBd : aBd B = aBd A := by
    funext w b
    unfold aBd aFr aS aSy aSt
    rw [e0, e2, e3]
  refine ⟨?_, ?_, ?_, ?_, ?_, ?_, ?_, ?_, ?_, ?_, ?_, hBd, ?_⟩
  · unfold aN; rw [e0]
  · unfold aB; rw [e0]
  · unfold aS; rw [e0]
  · unfold aL; rw [e0]
  · funext w; unfold aNl; rw [e1]
  · funext w; unfold aSy; rw [e2]
  · funext w; unfold aSt; rw [e3]
  · funext w; unfold aLi; rw [e4]
  · funext w; unfold aFe; rw [e5]
  · funext w; unfold aLe; rw [e6]
  · funext w k; unfold aLt; rw [e9]
  · funext w b
    unfold aFitB
    rw [hBd]
    unfold aSy aB
    rw [e0, e2]
theorem gG_same (h : zSm A B) (hST : ∀ w b, w < aN A → T w b = true → S w b = true) : ∀ {n b e : Nat}, gG B T n b e = true → gG A S n b e = true := by
  obtain ⟨g1, g2, g3, g4, g5, g6, g7, g8, g9, g10, g11, g12, g13⟩ := zSm_get h
  intro n
  induction n with
  | zero =>
    intro b e hg
    obtain ⟨a1, a2⟩ := gG_zero.mp hg
    exact gG_zero.mpr ⟨by rw [← g2]; exact a1, a2⟩
  | succ n ih =>
    intro b e hg
    obtain ⟨w, h1, h2, h3, h4⟩ := gG_succ.mp hg
    rw [g1] at h1
    rw [g12] at h3 h4
    rw [g6] at h4
    exact gG_succ.mpr ⟨w, h1, hST w b h1 h2, h3, ih h4⟩
theorem zSm_symm (h : zSm A B) : zSm B A := fun k h7 h8 => (h k h7 h8).symm
theorem zSm_trans {C : zT9} (h : zSm A B) (h' : zSm B C) : zSm A C := fun k h7 h8 => (h' k h7 h8).trans (h k h7 h8)
theorem gM_same (h : zSm A B) (hST : ∀ w b, w < aN A → T w b = S w b) {n b e : Nat} (hg : gM A S n b e) : gM B T n b e := by
  have hN := (zSm_get h).1
  refine ⟨gG_same (zSm_symm h) (fun w b hw s => by rw [hN] at hw; rw [hST w b hw]; exact s) hg.1, fun n' e' hg' => hg.2 n' e' (gG_same h (fun w b hw s => by rw [← hST w b hw]; exact s) hg')⟩
theorem aPut_sm (A : zT9) (l n : Nat) (row : Nat → Nat) : zSm A (aPut A l n row) := fun k h7 h8 => aPut_k A l n row h7 h8
theorem aEmpL_sm (A : zT9) (l : Nat) : zSm A (aEmpL A l) := fun k h7 _ => aEmpL_k A l h7
end PU
/-! uses of a word, with one line and without -/
theorem cntTo_split (p : Nat → Bool) {n l : Nat} (hl : l < n) : cntTo p n = cntTo (fun i => decide ((i : Int) ≠ (l : Int)) && p i) n + (if p l = true then 1 else 0) := by
  have none : ∀ m, m ≤ l → cntTo (fun i => decide ((i : Int) ≠ (l : Int)) && p i) m = cntTo p m := fun m hm => cntTo_congr (fun i hi => by
    rw [decide_eq_true (show (i : Int) ≠ (l : Int) by omega), Bool.true_and])
  have main : ∀ d, cntTo p (l + 1 + d) = cntTo (fun i => decide ((i : Int) ≠ (l : Int)) && p i) (l + 1 + d) + (if p l = true then 1 else 0) := by
    intro d
    induction d with
    | zero =>
      show cntTo p l + (if p l = true then 1 else 0) = cntTo _ l + (if (decide ((l : Int) ≠ (l : Int)) && p l) = true then 1 else 0) + (if p l = true then 1 else 0)
      rw [none l (Nat.le_refl _), decide_eq_false (show ¬ (l : Int) ≠ (l : Int) from fun g => g rfl), Bool.false_and, if_neg (c := false = true) (by decide)]
      omega
    | succ d ih =>
      show cntTo p (l + 1 + d) + (if p (l + 1 + d) = true then 1 else 0) = cntTo _ (l + 1 + d) + (if (decide (((l + 1 + d : Nat) : Int) ≠ (l : Int)) && p (l + 1 + d)) = true then 1 else 0) + (if p l = true then 1 else 0)
      rw [ih, decide_eq_true (show ((l + 1 + d : Nat) : Int) ≠ (l : Int) by omega), Bool.true_and]
      omega
  have := main (n - (l + 1))
  rw [show l + 1 + (n - (l + 1)) = n by omega] at this
  exact this
theorem aUB_split (A : zT9) {l : Nat} (hl : l < aL A) (w : Nat) : aUB A (-1) w = aUB A (l : Int) w + (if aUs A l w = true then 1 else 0) := by
  rw [aUB_all, cntTo_split (fun l => aUs A l w) hl]
  rfl
theorem cntTo_mono {p p' : Nat → Bool} {n : Nat} (h : ∀ i, i < n → p i = true → p' i = true) : cntTo p n ≤ cntTo p' n := by
  induction n with
  | zero => exact Nat.le_refl _
  | succ n ih =>
    show cntTo p n + (if p n = true then 1 else 0) ≤ cntTo p' n + (if p' n = true then 1 else 0)
    have h1 := ih (fun i hi => h i (by omega))
    by_cases c : p n = true
    · rw [if_pos c, if_pos (h n (by omega) c)]
      omega
    · rw [if_neg c]
      omega
theorem aUs_iff (A : zT9) (l w : Nat) : aUs A l w = true ↔ ∃ k, k < aSz A l ∧ aWd A l k = w := by
  rw [aUs_any, anyTo_iff]
  constructor
  · rintro ⟨k, h1, h2⟩; exact ⟨k, h1, of_decide_eq_true h2⟩
  · rintro ⟨k, h1, h2⟩; exact ⟨k, h1, decide_eq_true h2⟩
section PV
variable {A B : zT9} {l : Nat}
/-- only line l may differ -/
def zOL (A B : zT9) (l : Nat) : Prop := zSm A B ∧ ∀ i, i ≠ l → aSz B i = aSz A i ∧ ∀ k, k < aSz A i → aWd B i k = aWd A i k
theorem zOL_us (h : zOL A B l) {i : Nat} (hi : i ≠ l) (w : Nat) : aUs B i w = aUs A i w := by
  obtain ⟨h1, h2⟩ := h.2 i hi
  rw [Bool.eq_iff_iff, aUs_iff, aUs_iff, h1]
  constructor
  · rintro ⟨k, a, b⟩; exact ⟨k, a, by rw [← h2 k a]; exact b⟩
  · rintro ⟨k, a, b⟩; exact ⟨k, a, by rw [h2 k a]; exact b⟩
theorem zOL_ub (h : zOL A B l) (w : Nat) : aUB B (l : Int) w = aUB A (l : Int) w := by
  unfold aUB
  rw [(zSm_get h.1).2.2.2.1]
  apply cntTo_congr
  intro i _
  by_cases e : i = l
  · subst e
    rw [decide_eq_false (show ¬ (i : Int) ≠ (i : Int) from fun g => g rfl), Bool.false_and, Bool.false_and]
  · rw [zOL_us h e]
theorem zOL_sS (h : zOL A B l) (fr lr : Bool) (w b : Nat) : sS B l fr lr w b = sS A l fr lr w b := by
  obtain ⟨g1, g2, g3, g4, g5, g6, g7, g8, g9, g10, g11, g12, g13⟩ := zSm_get h.1
  unfold sS sU
  rw [zOL_ub h, g2, g5, g6, g8, g9, g10, g11, g13]
theorem aPut_ol (hn : ∀ i, aSz A i ≤ 12) (n : Nat) (row : Nat → Nat) : zOL A (aPut A l n row) l := ⟨aPut_sm A l n row, fun i hi => ⟨by rw [aPut_sz, if_neg hi], fun k hk => by rw [aPut_wd A l n row (Nat.lt_of_lt_of_le hk (hn i)), if_neg (fun g => hi g.1)]⟩⟩
theorem aEmpL_ol : zOL A (aEmpL A l) l := ⟨aEmpL_sm A l, fun i hi => ⟨by rw [aEmpL_sz, if_neg hi], fun k _ => by unfold aWd; rw [aEmpL_k A l (by decide)]⟩⟩
theorem aBt_words {i : Nat} : ∀ {k : Nat}, aSy B = aSy A → (∀ j, j < k → aWd B i j = aWd A i j) → aBt B i k = aBt A i k := by
  intro k
  induction k with
  | zero => intro _ _; rfl
  | succ k ih =>
    intro h1 h2
    show aBt B i k + aSy B (aWd B i k) = aBt A i k + aSy A (aWd A i k)
    rw [ih h1 (fun j hj => h2 j (by omega)), h1, h2 k (by omega)]
/-- a line that only the state's other lines tell apart keeps its metre and letters -/
theorem zOL_ln (h : zOL A B l) (hN : zLn A) {i : Nat} (hi : i ≠ l) (hl : i < aL A) (hs : 0 < aSz B i) : aBt B i (aSz B i) = aB B ∧ aLt B (aWd B i 0) 0 = aFe B i ∧ aLt B (aWd B i (aSz B i - 1)) (aNl B (aWd B i (aSz B i - 1)) - 1) = aLe B i := by
  obtain ⟨g1, g2, g3, g4, g5, g6, g7, g8, g9, g10, g11, g12, g13⟩ := zSm_get h.1
  obtain ⟨h1, h2⟩ := h.2 i hi
  rw [h1] at hs ⊢
  obtain ⟨n1, n2, n3⟩ := hN i hl hs
  rw [aBt_words g6 h2, g2, g11, g9, g10, g5, h2 0 hs, h2 (aSz A i - 1) (by omega)]
  exact ⟨n1, n2, n3⟩
theorem zIv_empL (hm : zLm A) (hN : zLn A) (l : Nat) : zLm (aEmpL A l) ∧ zLn (aEmpL A l) := by
  have ho : zOL A (aEmpL A l) l := aEmpL_ol
  obtain ⟨g1, g2, g3, g4, g5, g6, g7, g8, g9, g10, g11, g12, g13⟩ := zSm_get ho.1
  refine ⟨fun w hw => ?_, fun i hi hs => ?_⟩
  · rw [g1] at hw
    rw [g8]
    refine Nat.le_trans ?_ (hm w hw)
    rw [aUB_all, aUB_all, g4]
    refine cntTo_mono (fun i _ hu => ?_)
    by_cases e : i = l
    · subst e
      obtain ⟨k, k1, -⟩ := (aUs_iff _ _ _).mp hu
      rw [aEmpL_sz, if_pos rfl] at k1
      exact absurd k1 (Nat.not_lt_zero _)
    · rw [← zOL_us ho e]; exact hu
  · rw [g4] at hi
    by_cases e : i = l
    · subst e
      rw [aEmpL_sz, if_pos rfl] at hs
      exact absurd hs (Nat.lt_irrefl _)
    · exact zOL_ln ho hN e hi hs
theorem sS_use {fr lr : Bool} {w b : Nat} (h : sS A l fr lr w b = true) : aUB A (l : Int) w < aLi A w := of_decide_eq_true (sS_parts h).1
theorem zIv_put (hW : zWF A) (hm : zLm A) (hN : zLn A) (hl : l < aL A) {n e : Nat} (hg : gM A (sS A l true true) n 0 e) : zLm (aPut A l n (rW A (sS A l true true) n e)) ∧ zLn (aPut A l n (rW A (sS A l true true) n e)) := by
  have h12 : ∀ i, aSz A i ≤ 12 := fun i => (hW.2.2.2.2.2.2.2.2.1 i).1
  have ho : zOL A (aPut A l n (rW A (sS A l true true) n e)) l := aPut_ol h12 n _
  have hn : n ≤ 12 := by
    have := (gG_le hW (sS_ok A l true true) hg.1).1
    have := hW.2.2.1
    omega
  have hpos := gM_pos hW hg
  obtain ⟨g1, g2, g3, g4, g5, g6, g7, g8, g9, g10, g11, g12, g13⟩ := zSm_get ho.1
  have hwd : ∀ k, k < n → aWd (aPut A l n (rW A (sS A l true true) n e)) l k = rW A (sS A l true true) n e k := fun k hk => by rw [aPut_wd _ _ _ _ (by omega), if_pos ⟨rfl, hk⟩]
  refine ⟨fun w hw => ?_, fun i hi hs => ?_⟩
  · rw [g1] at hw
    have hl' : l < aL (aPut A l n (rW A (sS A l true true) n e)) := by rw [g4]; exact hl
    rw [g8, aUB_split _ hl', zOL_ub ho]
    by_cases c : aUs (aPut A l n (rW A (sS A l true true) n e)) l w = true
    · obtain ⟨k, k1, k2⟩ := (aUs_iff _ _ _).mp c
      rw [aPut_sz, if_pos rfl] at k1
      rw [hwd k k1] at k2
      have := sS_use (rW_ok hW (sS_ok A l true true) hg k1).2.1
      rw [k2] at this
      rw [if_pos c]
      exact this
    · rw [if_neg c]
      have h1 := aUB_split A hl w
      have h2 := hm w hw
      omega
  · rw [g4] at hi
    by_cases e2 : i = l
    · subst e2
      rw [aPut_sz, if_pos rfl] at hs ⊢
      obtain ⟨f1, f2, f3, f4, f5⟩ := rW_ok hW (sS_ok A i true true) hg (k := 0) hs
      obtain ⟨p1, p2, p3, p4, p5⟩ := rW_ok hW (sS_ok A i true true) hg (k := n - 1) (by omega)
      have hend := rS_end hg
      have hs1 := rS_succ A (sS A i true true) n e (n - 1)
      rw [show n - 1 + 1 = n by omega] at hs1
      rw [aPut_bt hn n (Nat.le_refl _), hend, g2, g11, g9, g10, g5, hwd 0 hs, hwd (n - 1) (by omega)]
      exact ⟨rfl, ((sS_parts f2).2.2.1 rfl).mpr rfl, ((sS_parts p2).2.2.2 (by rw [hs1] at hend; exact hend)).mpr rfl⟩
    · exact zOL_ln ho hN e2 hi hs
/-- a line that is made is one of the rows -/
theorem line_row (hW : zWF A) (hm : zLm A) (hN : zLn A) (hl : l < aL A) (hs : 0 < aSz A l) : gG A (sS A l true true) (aSz A l) 0 (aBI A l) = true := by
  obtain ⟨n1, n2, n3⟩ := hN l hl hs
  have h := gG_of (A := A) (S := sS A l true true) (ws := aWd A l) (bt := aBt A l) (n := aSz A l) (fun k hk => by
    obtain ⟨l1, l2, l3, l4⟩ := line_at hW hk
    refine ⟨l1, ?_, rfl⟩
    have hu : aUs A l (aWd A l k) = true := (aUs_iff _ _ _).mpr ⟨k, hk, rfl⟩
    have h1 := aUB_split A hl (aWd A l k)
    rw [if_pos hu] at h1
    have h2 := hm _ l1
    have hin := (aFitB_iff A _ _).mp l4
    unfold sS sU
    rw [l4, decide_eq_true (show aUB A (l : Int) (aWd A l k) < aLi A (aWd A l k) by omega), Bool.true_and, Bool.true_and, Bool.and_eq_true]
    refine ⟨?_, ?_⟩
    · by_cases c : k = 0
      · subst c
        rw [n2, decide_eq_true (rfl : aFe A l = aFe A l)]
        exact Bool.or_true _
      · have : aBt A l k ≠ 0 := by
          have h3 : ∀ j, j < k → 1 ≤ aBt A l (j + 1) := fun j hj => by
            have := (hW.2.2.2.2.2.2.1 _ (line_at hW (show j < aSz A l by omega)).1).2.2.1
            show 1 ≤ aBt A l j + aSy A (aWd A l j)
            omega
          have := h3 (k - 1) (by omega)
          rw [show k - 1 + 1 = k by omega] at this
          omega
        rw [decide_eq_true this]
        rfl
    · by_cases c : k = aSz A l - 1
      · rw [← c] at n3
        rw [n3, decide_eq_true (rfl : aLe A l = aLe A l)]
        exact Bool.or_true _
      · have : aBt A l k + aSy A (aWd A l k) ≠ aB A := by
          have hnx := line_at hW (show k + 1 < aSz A l by omega)
          have h4 := (aFitB_iff A _ _).mp hnx.2.2.2
          have h5 : aBt A l (k + 1) + aSy A (aWd A l (k + 1)) ≤ aB A := h4.1
          have h6 := (hW.2.2.2.2.2.2.1 _ hnx.1).2.2.1
          have h7 : aBt A l (k + 1) = aBt A l k + aSy A (aWd A l k) := rfl
          omega
        rw [decide_eq_true this]
        rfl) n1 (aSz A l) 0 (Nat.zero_add _)
  have e : sumTo (fun j => aBd A (aWd A l (0 + j)) (aBt A l (0 + j))) (aSz A l) = aBI A l := sumTo_congr (fun i _ => by rw [Nat.zero_add])
  rw [e] at h
  exact h
/-- the bends of a line that is put -/
theorem put_bends (hW : zWF A) {n e : Nat} (hg : gM A (sS A l true true) n 0 e) : aBI (aPut A l n (rW A (sS A l true true) n e)) l = e := by
  have hn : n ≤ 12 := by
    have := (gG_le hW (sS_ok A l true true) hg.1).1
    have := hW.2.2.1
    omega
  have g12 := (zSm_get (aPut_sm A l n (rW A (sS A l true true) n e))).2.2.2.2.2.2.2.2.2.2.2.1
  refine Eq.trans ?_ (rS_bends hW (sS_ok A l true true) hg)
  unfold aBI
  rw [aPut_sz, if_pos rfl, g12]
  refine sumTo_congr (fun k hk => ?_)
  rw [aPut_bt hn k (by omega), aPut_wd _ _ _ _ (by omega), if_pos ⟨rfl, hk⟩]
end PV

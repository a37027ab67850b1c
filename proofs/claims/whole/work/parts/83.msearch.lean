/-! the search: the reference finds the row -/
section MS
variable {q : zM} {A : zT9} {l : Nat} {fr lr : Bool}
theorem zPM_fr2 {q q' : zM} (h1 : ∀ k, k < 18 → q'.1 126 k = q.1 126 k) (h2 : q'.1 134 = q.1 134) (hP : zPM q A l fr lr) : zPM q' A l fr lr := by
  unfold zPM
  rw [h1 14 (by decide), h1 15 (by decide), h1 16 (by decide), h1 17 (by decide), h2]
  exact hP
theorem zTB_fr {q q' : zM} {b0 : Nat} (h : q'.1 135 = q.1 135) (hT : zTB q A l fr lr b0) : zTB q' A l fr lr b0 := by
  unfold zTB
  rw [h]
  exact hT
theorem zTB_up {b0 b1 : Nat} (h : b0 ≤ b1) (hT : zTB q A l fr lr b0) : zTB q A l fr lr b1 := fun b e n h1 h2 h3 h4 h5 h6 => hT b e n (Nat.le_trans h h1) h2 h3 h4 h5 h6
/-- so many bends: the fewest words from one on, less one -/
def fW (A : zT9) (S : Nat → Nat → Bool) (e : Nat) : Nat := fstTo (fun i => gG A S (i + 1) 0 e) (aB A)
theorem ar_s30 {i B : Nat} (h1 : i ≤ B) (h2 : B ≤ 12) : wrap (B : Int) = B ∧ wrap ((i + 1 : Nat) : Int) = ((i + 1 : Nat) : Int) ∧ ((B : Int) < ((i + 1 : Nat) : Int) ↔ B < i + 1) := ⟨wrap_n (by omega), wrap_n (by omega), by omega⟩
theorem search_L30 (hM : zRM (q.1 127) A) (hW : zWF A) (hP : zPM q A l fr lr) (hl : l < aL A) (hT : zTB q A l fr lr 1) (h20 : q.1 126 20 = 0) {e : Nat} (he : e ≤ 12) (K : Int → zM → Option (Int × zM)) (hK : ∀ x y z, K x z = K y z) : Mo_search_L30 (e : Int) K 5000 1 q = K 0 (if fW A (sS A l fr lr) e < aB A then qs (qs q 126 19 (e : Int)) 126 20 ((fW A (sS A l fr lr) e + 1 : Nat) : Int) else q) := by
  have wB := hW.2.2.1
  have wB2 := hW.2.1
  unfold fW
  have hs := fstTo_spec (fun i => gG A (sS A l fr lr) (i + 1) 0 e) (aB A)
  have hle := fstTo_le (fun i => gG A (sS A l fr lr) (i + 1) 0 e) (aB A)
  generalize fstTo (fun i => gG A (sS A l fr lr) (i + 1) 0 e) (aB A) = x at hs hle
  have e1 : q.1 127 1 = aB A := hM.2.1
  have low : ∀ i, i < aB A → Mo_lowest q 0 (e : Int) ((i + 1 : Nat) : Int) = some (if gG A (sS A l fr lr) (i + 1) 0 e = true then (gF A (sS A l fr lr) i 0 e : Int) else -5) := fun i hi => lowest_eq (b := 0) hM hW hP hl hT (by clear e1 h20; omega) he (by clear e1 h20; omega)
  have go : ∀ n i, i < aB A → Mo_search_L30 (e : Int) K (n + 1) ((i + 1 : Nat) : Int) q = if gG A (sS A l fr lr) (i + 1) 0 e = true then Mo_search_L30 (e : Int) K n ((i + 1 + 1 : Nat) : Int) (qs (qs q 126 19 (e : Int)) 126 20 ((i + 1 : Nat) : Int)) else Mo_search_L30 (e : Int) K n ((i + 1 + 1 : Nat) : Int) q := fun n i hi => by
    obtain ⟨a1, a2, a3⟩ := ar_s30 (Nat.le_of_lt hi) wB
    rw [Mo_search_L30, e1, a1, a2, if_neg (fun h => Nat.not_lt.mpr hi (a3.mp h)), h20, if_pos zero_eq, low i hi, Option.bind_some]
    clear e1 h20 low a1 a2 a3
    by_cases c : gG A (sS A l fr lr) (i + 1) 0 e = true
    · have f := (gF_spec c).1
      have wN := hW.1
      rw [if_pos c, if_pos c, wrap_n (by omega), if_neg (by omega)]
      rfl
    · rw [if_neg c, if_neg c, if_pos (by decide)]
      rfl
  have h2 := for_to (G := fun n i => Mo_search_L30 (e : Int) K n ((i + 1 : Nat) : Int) q) (k := x) (fun n i hi => by
    show Mo_search_L30 (e : Int) K (n + 1) ((i + 1 : Nat) : Int) q = _
    rw [go n i (Nat.lt_of_lt_of_le hi hle), if_neg (by rw [hs.1 i hi]; simp)]) x (5000 - x) (Nat.le_refl _)
  rw [Nat.sub_self, show 5000 - x + x = 5000 by clear e1 h20 h2; omega] at h2
  refine Eq.trans h2 ?_
  show Mo_search_L30 (e : Int) K (5000 - x) ((x + 1 : Nat) : Int) q = _
  clear h2
  obtain ⟨m, hm⟩ : ∃ m, 5000 - x = m + 1 + 1 := ⟨4998 - x, by clear e1 h20; omega⟩
  rw [hm]
  by_cases c : x < aB A
  · have e1' : (qs (qs q 126 19 (e : Int)) 126 20 ((x + 1 : Nat) : Int)).1 127 1 = aB A := (qs_na (by decide) 1).trans ((qs_na (by decide) 1).trans e1)
    have e20 : (qs (qs q 126 19 (e : Int)) 126 20 ((x + 1 : Nat) : Int)).1 126 20 = ((x + 1 : Nat) : Int) := by rw [qs_at, if_pos ⟨rfl, rfl⟩]
    obtain ⟨a1, a2, a3⟩ := ar_s30 (i := x) (Nat.le_of_lt c) wB
    have nz : ¬ (((x + 1 : Nat) : Int) = 0) := by clear e1 h20 e1' e20 a1 a2 a3; omega
    rw [go _ x c, if_pos (hs.2 c), if_pos c, Mo_search_L30, e1', e20, a2]
    split
    · exact hK _ _ _
    · exact hK _ _ _
  · have ex : x = aB A := Nat.le_antisymm hle (Nat.not_lt.mp c)
    obtain ⟨a1, a2, a3⟩ := ar_s30 (i := x) (B := aB A) hle wB
    rw [Mo_search_L30, e1, a1, a2, if_pos (a3.mpr (by clear e1 h20 a1 a2 a3; omega)), if_neg c]
    exact hK _ _ _
/-- the fewest bends -/
def fE (A : zT9) (S : Nat → Nat → Bool) : Nat := fstTo (fun e => decide (fW A S e < aB A)) (aB A + 1)
theorem fE_none (hW : zWF A) {S : Nat → Nat → Bool} (hS : gOK A S) (h : ¬ fE A S < aB A + 1) : ∀ n e, gG A S n 0 e = false := by
  intro n e
  have hle := fstTo_le (fun e => decide (fW A S e < aB A)) (aB A + 1)
  have hall := (fstTo_all (fun e => decide (fW A S e < aB A)) (aB A + 1)).mp (Nat.le_antisymm hle (Nat.not_lt.mp h))
  cases g : gG A S n 0 e with
  | false => rfl
  | true =>
    exfalso
    have l1 := gG_le hW hS g
    have n0 : n ≠ 0 := fun z => by
      rw [z] at g
      have := (gG_zero.mp g).1
      have := hW.2.1
      omega
    have h2 := of_decide_eq_false (hall e (by omega))
    have h3 := (fstTo_all (fun i => gG A S (i + 1) 0 e) (aB A)).mp (Nat.le_antisymm (fstTo_le _ _) (Nat.not_lt.mp h2)) (n - 1) (by omega)
    rw [show n - 1 + 1 = n by omega, g] at h3
    cases h3
theorem fE_some (hW : zWF A) {S : Nat → Nat → Bool} (hS : gOK A S) (h : fE A S < aB A + 1) : fW A S (fE A S) < aB A ∧ gM A S (fW A S (fE A S) + 1) 0 (fE A S) := by
  have hB := hW.2.2.1
  have hs := fstTo_spec (fun e => decide (fW A S e < aB A)) (aB A + 1)
  have h1 : fW A S (fE A S) < aB A := of_decide_eq_true (hs.2 h)
  have ht := fstTo_spec (fun i => gG A S (i + 1) 0 (fE A S)) (aB A)
  refine ⟨h1, ht.2 h1, fun n' e' g => ?_⟩
  have l1 := gG_le hW hS g
  have n0 : n' ≠ 0 := fun z => by
    rw [z] at g
    have := (gG_zero.mp g).1
    have := hW.2.1
    omega
  have hw : fW A S e' < aB A := by
    rcases Nat.lt_or_ge (fW A S e') (aB A) with c | c
    · exact c
    · have h3 := (fstTo_all (fun i => gG A S (i + 1) 0 e') (aB A)).mp (Nat.le_antisymm (fstTo_le _ _) c) (n' - 1) (by omega)
      rw [show n' - 1 + 1 = n' by omega, g] at h3
      cases h3
  have he : fE A S ≤ e' := by
    rcases Nat.lt_or_ge e' (fE A S) with c | c
    · have := of_decide_eq_false (hs.1 e' c)
      exact absurd hw this
    · exact c
  by_cases c : e' = fE A S
  · have hn : fW A S (fE A S) ≤ n' - 1 := by
      rcases Nat.lt_or_ge (n' - 1) (fW A S (fE A S)) with d | d
      · have h4 := ht.1 (n' - 1) d
        rw [show n' - 1 + 1 = n' by omega, ← c, g] at h4
        cases h4
      · exact d
    omega
  · omega
theorem ar_s11 {e B : Nat} (h1 : e ≤ B + 1) (h2 : B ≤ 12) : wrap (B : Int) = B ∧ wrap (e : Int) = e ∧ ((B : Int) < (e : Int) ↔ B < e) := ⟨wrap_n (by omega), wrap_n (by omega), by omega⟩
theorem search_L11 (hM : zRM (q.1 127) A) (hW : zWF A) (hP : zPM q A l fr lr) (hl : l < aL A) (hT : zTB q A l fr lr 1) (h20 : q.1 126 20 = 0) (K : Int → zM → Option (Int × zM)) (hK : ∀ x y z, K x z = K y z) : Mo_search_L11 K 5000 0 q = K 0 (if fE A (sS A l fr lr) < aB A + 1 then qs (qs q 126 19 (fE A (sS A l fr lr) : Int)) 126 20 ((fW A (sS A l fr lr) (fE A (sS A l fr lr)) + 1 : Nat) : Int) else q) := by
  have wB := hW.2.2.1
  have hs := fstTo_spec (fun e => decide (fW A (sS A l fr lr) e < aB A)) (aB A + 1)
  have hle := fstTo_le (fun e => decide (fW A (sS A l fr lr) e < aB A)) (aB A + 1)
  have hx : fE A (sS A l fr lr) = fstTo (fun e => decide (fW A (sS A l fr lr) e < aB A)) (aB A + 1) := rfl
  rw [hx]
  clear hx
  generalize fstTo (fun e => decide (fW A (sS A l fr lr) e < aB A)) (aB A + 1) = x at hs hle
  have e1 : q.1 127 1 = aB A := hM.2.1
  have go : ∀ n e, e < aB A + 1 → Mo_search_L11 K (n + 1) (e : Int) q = Mo_search_L11 K n ((e + 1 : Nat) : Int) (if fW A (sS A l fr lr) e < aB A then qs (qs q 126 19 (e : Int)) 126 20 ((fW A (sS A l fr lr) e + 1 : Nat) : Int) else q) := fun n e he => by
    obtain ⟨a1, a2, a3⟩ := ar_s11 (Nat.le_of_lt he) wB
    rw [Mo_search_L11, e1, a1, a2, if_neg (fun h => Nat.not_lt.mpr (Nat.le_of_lt_succ he) (a3.mp h)), h20, if_pos zero_eq, search_L30 hM hW hP hl hT h20 (Nat.le_trans (Nat.le_of_lt_succ he) wB) _ (fun _ _ _ => rfl)]
    rfl
  have h2 := for_to (G := fun n e => Mo_search_L11 K n (e : Int) q) (k := x) (fun n e he => by
    show Mo_search_L11 K (n + 1) (e : Int) q = _
    rw [go n e (Nat.lt_of_lt_of_le he hle), if_neg (of_decide_eq_false (hs.1 e he))]) x (5000 - x) (Nat.le_refl _)
  rw [Nat.sub_self, show 5000 - x + x = 5000 by clear e1 h20 h2; omega] at h2
  refine Eq.trans h2 ?_
  show Mo_search_L11 K (5000 - x) (x : Int) q = _
  clear h2
  obtain ⟨m, hm⟩ : ∃ m, 5000 - x = m + 1 + 1 := ⟨4998 - x, by clear e1 h20; omega⟩
  rw [hm]
  by_cases c : x < aB A + 1
  · have hc := of_decide_eq_true (hs.2 c)
    have e1' : (qs (qs q 126 19 (x : Int)) 126 20 ((fW A (sS A l fr lr) x + 1 : Nat) : Int)).1 127 1 = aB A := (qs_na (by decide) 1).trans ((qs_na (by decide) 1).trans e1)
    have e20 : (qs (qs q 126 19 (x : Int)) 126 20 ((fW A (sS A l fr lr) x + 1 : Nat) : Int)).1 126 20 = ((fW A (sS A l fr lr) x + 1 : Nat) : Int) := by rw [qs_at, if_pos ⟨rfl, rfl⟩]
    obtain ⟨a1, a2, a3⟩ := ar_s30 (i := fW A (sS A l fr lr) x) (Nat.le_of_lt hc) wB
    have nz : ¬ (((fW A (sS A l fr lr) x + 1 : Nat) : Int) = 0) := by clear e1 h20 e1' e20 a1 a2 a3; omega
    rw [go _ x c, if_pos hc, if_pos c, Mo_search_L11, e1', e20, a2]
    split
    · exact hK _ _ _
    · exact hK _ _ _
  · have ex : x = aB A + 1 := Nat.le_antisymm hle (Nat.not_lt.mp c)
    obtain ⟨a1, a2, a3⟩ := ar_s11 (e := x) (B := aB A) hle wB
    rw [Mo_search_L11, e1, a1, a2, if_pos (a3.mpr (by clear e1 h20 a1 a2 a3; omega)), if_neg c]
    exact hK _ _ _
def qg (q : zM) (A : zT9) (S : Nat → Nat → Bool) (n e k : Nat) : zM := (fun a j => if a = 136 ∧ j < k then (rW A S n e j : Int) else q.1 a j, q.2)
theorem qg_at (q : zM) (A : zT9) (S : Nat → Nat → Bool) (n e k a j : Nat) : (qg q A S n e k).1 a j = if a = 136 ∧ j < k then (rW A S n e j : Int) else q.1 a j := rfl
theorem qg_fr (q : zM) (A : zT9) (S : Nat → Nat → Bool) (n e k : Nat) {a : Nat} (h : a ≠ 136) : (qg q A S n e k).1 a = q.1 a := funext fun j => by rw [qg_at, if_neg (fun g => h g.1)]
theorem qg_zero (q : zM) (A : zT9) (S : Nat → Nat → Bool) (n e : Nat) : qg q A S n e 0 = q := by
  refine zM_ext (fun a j => ?_) (fun a j => rfl)
  rw [qg_at, if_neg (by omega)]
theorem qg_step (q : zM) (A : zT9) (S : Nat → Nat → Bool) (n e k : Nat) : qs (qg q A S n e k) 136 k (rW A S n e k : Int) = qg q A S n e (k + 1) := by
  refine zM_ext (fun a j => ?_) (fun a j => rfl)
  rw [qs_at, qg_at, qg_at]
  by_cases h1 : a = 136 ∧ j = k
  · rw [if_pos h1, if_pos (by omega), h1.2]
  · rw [if_neg h1]
    by_cases h2 : a = 136 ∧ j < k
    · rw [if_pos h2, if_pos (by omega)]
    · rw [if_neg h2, if_neg (by omega)]
theorem ar_s88 {k n b e s d : Nat} (h1 : k < n) (h2 : n ≤ 12) (h3 : d ≤ e) : wrap (k : Int) = k ∧ wrap (n : Int) = n ∧ (k : Int) < (n : Int) ∧ ((0 : Int) ≤ (k : Int) ∧ (k : Int) < 12) ∧ (n : Int) - (k : Int) = ((n - k - 1 + 1 : Nat) : Int) ∧ (b : Int) + (s : Int) = ((b + s : Nat) : Int) ∧ (e : Int) - (d : Int) = ((e - d : Nat) : Int) := ⟨wrap_n (by omega), wrap_n (by omega), by omega, by omega, by omega, by omega, by omega⟩
theorem search_L88 (hM : zRM (q.1 127) A) (hW : zWF A) (hP : zPM q A l fr lr) (hl : l < aL A) (hT : zTB q A l fr lr 1) {n e : Nat} (hg : gM A (sS A l fr lr) n 0 e) (h20 : q.1 126 20 = n) (K : Int → Int → Int → zM → Option (Int × zM)) (hK : ∀ x y z x' y' z' w, K x y z w = K x' y' z' w) : Mo_search_L88 K 5000 0 (e : Int) 0 q = K 0 0 0 (qg q A (sS A l fr lr) n e n) := by
  have wB := hW.2.2.1
  have hle := gG_le hW (sS_ok A l fr lr) hg.1
  have n12 : n ≤ 12 := by clear h20; omega
  refine Eq.trans (by rw [qg_zero]; rfl) (for_all (G := fun m k => Mo_search_L88 K m ((rS A (sS A l fr lr) n e k).1 : Int) ((rS A (sS A l fr lr) n e k).2 : Int) (k : Int) (qg q A (sS A l fr lr) n e k)) (N := n) (by clear h20; omega) (fun m k hk => ?_) (fun m => ?_))
  · show Mo_search_L88 K (m + 1) _ _ _ _ = Mo_search_L88 K m ((rS A (sS A l fr lr) n e (k + 1)).1 : Int) ((rS A (sS A l fr lr) n e (k + 1)).2 : Int) ((k + 1 : Nat) : Int) _
    obtain ⟨w1, w2, w3, w4, w5⟩ := rW_ok hW (sS_ok A l fr lr) hg hk
    have hk1 := rS_M hg k (Nat.le_of_lt hk)
    have hk2 := gG_le hW (sS_ok A l fr lr) hk1.1
    obtain ⟨a1, a2, a3, a4, a5, a6, a7⟩ := ar_s88 (b := (rS A (sS A l fr lr) n e k).1) (e := (rS A (sS A l fr lr) n e k).2) (s := aSy A (rW A (sS A l fr lr) n e k)) (d := aBd A (rW A (sS A l fr lr) n e k) (rS A (sS A l fr lr) n e k).1) hk n12 w3
    have x20 : (qg q A (sS A l fr lr) n e k).1 126 20 = n := (congrFun (qg_fr q A _ n e k (by decide)) 20).trans h20
    have hM1 : zRM ((qg q A (sS A l fr lr) n e k).1 127) A := by rw [qg_fr q A _ n e k (by decide)]; exact hM
    have hP1 : zPM (qg q A (sS A l fr lr) n e k) A l fr lr := zPM_fr (qg_fr q A _ n e k (by decide)) (qg_fr q A _ n e k (by decide)) hP
    have hT1 : zTB (qg q A (sS A l fr lr) n e k) A l fr lr ((rS A (sS A l fr lr) n e k).1 + 1) := zTB_up (Nat.succ_le_succ (Nat.zero_le _)) (zTB_fr (qg_fr q A _ n e k (by decide)) hT)
    have hlow := lowest_eq hM1 hW hP1 hl hT1 w4 (e := (rS A (sS A l fr lr) n e k).2) (n := n - k - 1) (by clear h20 x20 a1 a2 a3 a4 a5 a6 a7; omega) (by clear h20 x20 a1 a2 a3 a4 a5 a6 a7; omega)
    have hg1 : gG A (sS A l fr lr) (n - k - 1 + 1) (rS A (sS A l fr lr) n e k).1 (rS A (sS A l fr lr) n e k).2 = true := by
      rw [show n - k - 1 + 1 = n - k by clear h20 x20 a1 a2 a3 a4 a5 a6 a7 hlow; omega]
      exact hk1.1
    have hst := qg_step q A (sS A l fr lr) n e k
    have h136 : (qs (qg q A (sS A l fr lr) n e k) 136 k (rW A (sS A l fr lr) n e k : Int)).1 136 k = (rW A (sS A l fr lr) n e k : Int) := by rw [qs_at, if_pos ⟨rfl, rfl⟩]
    have hM2 : zRM ((qs (qg q A (sS A l fr lr) n e k) 136 k (rW A (sS A l fr lr) n e k : Int)).1 127) A := by
      rw [show (qs (qg q A (sS A l fr lr) n e k) 136 k (rW A (sS A l fr lr) n e k : Int)).1 127 = (qg q A (sS A l fr lr) n e k).1 127 from funext fun j => qs_na (by decide) j]
      exact hM1
    have hbd := Mo_bendsAt_eq hM2 hW w1 (b := (rS A (sS A l fr lr) n e k).1) (Nat.lt_trans w4 (Nat.lt_of_le_of_lt wB (by decide)))
    have hsy := Mo_syllables_eq hM2 hW w1
    have hfit := sS_ok A l fr lr _ _ w1 w2
    rw [if_pos hg1] at hlow
    rw [Mo_search_L88, x20, a1, a2, if_pos a3, a5, hlow, Option.bind_some, ck_in a4, ck_in a4, Int.toNat_natCast]
    show ((Mo_bendsAt (qs (qg q A (sS A l fr lr) n e k) 136 k (rW A (sS A l fr lr) n e k : Int)) ((qs (qg q A (sS A l fr lr) n e k) 136 k (rW A (sS A l fr lr) n e k : Int)).1 136 k) ((rS A (sS A l fr lr) n e k).1 : Int)).bind fun r_18 => ck (k : Int) 12 ((Mo_syllables (qs (qg q A (sS A l fr lr) n e k) 136 k (rW A (sS A l fr lr) n e k : Int)) ((qs (qg q A (sS A l fr lr) n e k) 136 k (rW A (sS A l fr lr) n e k : Int)).1 136 k)).bind fun r_20 => Mo_search_L88 K m (((rS A (sS A l fr lr) n e k).1 : Int) + r_20) (((rS A (sS A l fr lr) n e k).2 : Int) - r_18) ((k : Int) + 1) (qs (qg q A (sS A l fr lr) n e k) 136 k (rW A (sS A l fr lr) n e k : Int)))) = _
    rw [h136, hbd, hsy, hfit, if_pos rfl, Option.bind_some, ck_in a4, Option.bind_some, hst, a6, a7]
    rfl
  · show Mo_search_L88 K (m + 1) _ _ _ _ = _
    have x20 : (qg q A (sS A l fr lr) n e n).1 126 20 = n := (congrFun (qg_fr q A _ n e n (by decide)) 20).trans h20
    rw [Mo_search_L88, x20, if_neg (Int.lt_irrefl _)]
    exact hK _ _ _ _ _ _ _
/-- what a search of the reference leaves -/
def zMR (q : zM) (A : zT9) (S : Nat → Nat → Bool) (n : Nat) : Prop := (n = 0 ∧ ∀ n e, gG A S n 0 e = false) ∨ ∃ e, gM A S n 0 e ∧ q.1 126 19 = e ∧ q.1 126 20 = n ∧ ∀ k, k < n → q.1 136 k = rW A S n e k
theorem Mo_search_eq (hM : zRM (q.1 127) A) (hW : zWF A) (hP : zPM q A l fr lr) (hl : l < aL A) : ∃ (n : Nat) (q' : zM), Mo_search q = some ((n : Int), q') ∧ (∀ a, a ≠ 126 → a ≠ 135 → a ≠ 136 → q'.1 a = q.1 a) ∧ q'.2 = q.2 ∧ (∀ k, k < 19 → q'.1 126 k = q.1 126 k) ∧ zMR q' A (sS A l fr lr) n := by
  unfold Mo_search
  rw [Mo_fill_eq hM hW hP hl, Option.bind_some]
  unfold Mo_search_b9
  have hM1 : zRM ((qT q A l fr lr (pE 0)).1 127) A := by rw [qT_fr q _ (by decide)]; exact hM
  have hP1 : zPM (qT q A l fr lr (pE 0)) A l fr lr := zPM_fr (qT_fr q _ (by decide)) (qT_fr q _ (by decide)) hP
  have hT1 : zTB (qT q A l fr lr (pE 0)) A l fr lr 1 := zTB_of hW q (fun b' e' n' h1 h2 h3 => pE_all (Nat.zero_le _) h2 h3)
  have f1 : ∀ a, a ≠ 135 → (qT q A l fr lr (pE 0)).1 a = q.1 a := fun a ha => qT_fr q _ ha
  have f2 : (qT q A l fr lr (pE 0)).2 = q.2 := rfl
  generalize qT q A l fr lr (pE 0) = q1 at hM1 hP1 hT1 f1 f2
  have hM2 : zRM ((qs q1 126 20 0).1 127) A := by
    rw [show (qs q1 126 20 0).1 127 = q1.1 127 from funext fun j => qs_na (by decide) j]
    exact hM1
  have k18 : ∀ (x : Int) (r : zM) k, k < 18 → (qs r 126 20 x).1 126 k = r.1 126 k := fun x r k hk => by rw [qs_at, if_neg (fun g => by omega)]
  have k18' : ∀ (x : Int) (r : zM) k, k < 18 → (qs r 126 19 x).1 126 k = r.1 126 k := fun x r k hk => by rw [qs_at, if_neg (fun g => by omega)]
  have hP2 : zPM (qs q1 126 20 0) A l fr lr := zPM_fr2 (k18 0 q1) (funext fun j => qs_na (by decide) j) hP1
  have hT2 : zTB (qs q1 126 20 0) A l fr lr 1 := zTB_fr (funext fun j => qs_na (by decide) j) hT1
  have h20 : (qs q1 126 20 0).1 126 20 = 0 := by rw [qs_at, if_pos ⟨rfl, rfl⟩]
  rw [search_L11 hM2 hW hP2 hl hT2 h20 _ (fun _ _ _ => rfl)]
  by_cases c : fE A (sS A l fr lr) < aB A + 1
  · obtain ⟨c1, c2⟩ := fE_some hW (sS_ok A l fr lr) c
    rw [if_pos c]
    generalize fE A (sS A l fr lr) = e at c1 c2
    generalize fW A (sS A l fr lr) e + 1 = n at c2
    have hM3 : zRM ((qs (qs (qs q1 126 20 0) 126 19 (e : Int)) 126 20 (n : Int)).1 127) A := by
      rw [show (qs (qs (qs q1 126 20 0) 126 19 (e : Int)) 126 20 (n : Int)).1 127 = (qs q1 126 20 0).1 127 from funext fun j => (qs_na (by decide) j).trans (qs_na (by decide) j)]
      exact hM2
    have hP3 : zPM (qs (qs (qs q1 126 20 0) 126 19 (e : Int)) 126 20 (n : Int)) A l fr lr := zPM_fr2 (fun k hk => (k18 _ _ k hk).trans (k18' _ _ k hk)) (funext fun j => (qs_na (by decide) j).trans (qs_na (by decide) j)) hP2
    have hT3 : zTB (qs (qs (qs q1 126 20 0) 126 19 (e : Int)) 126 20 (n : Int)) A l fr lr 1 := zTB_fr (funext fun j => (qs_na (by decide) j).trans (qs_na (by decide) j)) hT2
    have z20 : (qs (qs (qs q1 126 20 0) 126 19 (e : Int)) 126 20 (n : Int)).1 126 20 = n := by rw [qs_at, if_pos ⟨rfl, rfl⟩]
    have z19 : (qs (qs (qs q1 126 20 0) 126 19 (e : Int)) 126 20 (n : Int)).1 126 19 = e := by rw [qs_at, if_neg (by decide), qs_at, if_pos ⟨rfl, rfl⟩]
    have far : ∀ a, a ≠ 126 → (qs (qs (qs q1 126 20 0) 126 19 (e : Int)) 126 20 (n : Int)).1 a = q1.1 a := fun a ha => funext fun j => (qs_na ha j).trans ((qs_na ha j).trans (qs_na ha j))
    have near : ∀ k, k < 19 → (qs (qs (qs q1 126 20 0) 126 19 (e : Int)) 126 20 (n : Int)).1 126 k = q1.1 126 k := fun k hk => by
      rw [qs_at, if_neg (fun g => by clear z20 z19; omega), qs_at, if_neg (fun g => by clear z20 z19; omega), qs_at, if_neg (fun g => by clear z20 z19; omega)]
    have f3 : (qs (qs (qs q1 126 20 0) 126 19 (e : Int)) 126 20 (n : Int)).2 = q1.2 := rfl
    generalize qs (qs (qs q1 126 20 0) 126 19 (e : Int)) 126 20 (n : Int) = q3 at hM3 hP3 hT3 z20 z19 far near f3
    rw [z19, search_L88 hM3 hW hP3 hl hT3 c2 z20 _ (fun _ _ _ _ _ _ _ => rfl)]
    have y20 : (qg q3 A (sS A l fr lr) n e n).1 126 20 = n := (congrFun (qg_fr q3 A _ n e n (by decide)) 20).trans z20
    rw [y20]
    refine ⟨n, _, rfl, fun a h1 h2 h3 => ?_, (f3.trans f2), fun k hk => ?_, Or.inr ⟨e, c2, ?_, y20, fun k hk => ?_⟩⟩
    · rw [qg_fr q3 A _ n e n h3, far a h1, f1 a h2]
    · rw [qg_fr q3 A _ n e n (by decide), near k hk, f1 126 (by decide)]
    · rw [qg_fr q3 A _ n e n (by decide)]
      exact z19
    · rw [qg_at, if_pos ⟨rfl, hk⟩]
  · rw [if_neg c, Mo_search_L88, h20, if_neg (by decide)]
    refine ⟨0, _, rfl, fun a h1 h2 h3 => ?_, f2, fun k hk => ?_, Or.inl ⟨rfl, fE_none hW (sS_ok A l fr lr) c⟩⟩
    · rw [← f1 a h2]
      exact funext fun j => qs_na h1 j
    · rw [← f1 126 (by decide), qs_at, if_neg (fun g => by clear h20; omega)]
end MS

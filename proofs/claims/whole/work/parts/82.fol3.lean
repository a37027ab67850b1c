/-! the search: the reference's loops over its table -/
section FL2
variable {q : zM} {A : zT9} {l : Nat} {fr lr : Bool}
theorem zb_mod (b : Bool) : zb b % 2 = zb b := by cases b <;> rfl
theorem ar_f54 {b n e B : Nat} (h1 : b < B) (h2 : B ≤ 12) (h3 : n ≤ 12) (h4 : e ≤ n + 1) : wrap (n : Int) = n ∧ wrap (e : Int) = e ∧ ((n : Int) < (e : Int) ↔ n < e) ∧ b < 13 := ⟨wrap_n (by omega), wrap_n (by omega), by omega, by omega⟩
theorem fill_L54 (hM : zRM (q.1 127) A) (hW : zWF A) (hP : zPM q A l fr lr) (hl : l < aL A) {b n : Nat} (hb : b < aB A) (hn : n ≤ 11) (v2 : Int) (K : Int → zM → Option zM) : Mo_fill_L54 (b : Int) v2 ((n + 1 : Nat) : Int) K 5000 0 (qT q A l fr lr (pF b (n + 1) 0)) = K ((n + 2 : Nat) : Int) (qT q A l fr lr (pF b (n + 2) 0)) := by
  have wB := hW.2.2.1
  have hbd := qT_bends (A := A) (l := l) (fr := fr) (lr := lr) hW q (b := b) (n := n + 1)
  rw [show n + 2 = n + 1 + 1 from rfl, ← hbd]
  refine for_all (G := fun m e => Mo_fill_L54 (b : Int) v2 ((n + 1 : Nat) : Int) K m (e : Int) (qT q A l fr lr (pF b (n + 1) e))) (N := n + 2) (by omega) (fun m e he => ?_) (fun m => ?_)
  · show Mo_fill_L54 _ _ _ _ (m + 1) _ _ = Mo_fill_L54 _ _ _ _ m ((e + 1 : Nat) : Int) _
    obtain ⟨a1, a2, a3, a4⟩ := ar_f54 (b := b) (n := n + 1) (e := e) hb wB (Nat.succ_le_succ hn) (Nat.le_of_lt he)
    have n1 : ¬ ((n + 1 : Nat) : Int) < (e : Int) := fun h => Nat.not_lt.mpr (Nat.le_of_lt_succ he) (a3.mp h)
    have e12 : e ≤ 12 := Nat.le_trans (Nat.le_of_lt_succ he) (Nat.succ_le_succ hn)
    have hM1 : zRM ((qT q A l fr lr (pF b (n + 1) e)).1 127) A := by rw [qT_fr q _ (by decide)]; exact hM
    have hP1 : zPM (qT q A l fr lr (pF b (n + 1) e)) A l fr lr := zPM_fr (qT_fr q _ (by decide)) (qT_fr q _ (by decide)) hP
    have hT1 : zTB (qT q A l fr lr (pF b (n + 1) e)) A l fr lr (b + 1) := zTB_of hW q (fun b' e' n' h1 h2 h3 => pF_all h1 h2 h3)
    obtain ⟨p1, p2⟩ := ar_pl (b := b) (e := e) (n := n + 1) a4 e12 (Nat.succ_le_succ hn)
    have st := qT_step (A := A) (l := l) (fr := fr) (lr := lr) q (b := b) (n := n + 1) (e := e) a4 (Nat.succ_le_succ hn) e12
    rw [Mo_fill_L54, a1, a2, if_neg n1, fill_L66 hM1 hW hP1 hl hT1 hb e12 hn v2 _ (fun _ _ _ => rfl)]
    unfold Mo_place
    rw [Option.bind_some, p1, ck_in p2, Int.toNat_natCast, zb_mod, st]
    rfl
  · show Mo_fill_L54 _ _ _ _ (m + 1) _ _ = _
    obtain ⟨a1, a2, a3, a4⟩ := ar_f54 (b := b) (n := n + 1) (e := n + 2) hb wB (Nat.succ_le_succ hn) (Nat.le_refl _)
    rw [Mo_fill_L54, a1, a2, if_pos (a3.mpr (Nat.lt_succ_self _))]
theorem ar_f46 {b i B : Nat} (h1 : b < B) (h2 : B ≤ 12) (h3 : i ≤ B - b) : wrap ((i + 1 : Nat) : Int) = ((i + 1 : Nat) : Int) ∧ wrap ((B - b : Nat) : Int) = ((B - b : Nat) : Int) ∧ (((B - b : Nat) : Int) < ((i + 1 : Nat) : Int) ↔ B - b < i + 1) := ⟨wrap_n (by omega), wrap_n (by omega), by omega⟩
theorem fill_L46 (hM : zRM (q.1 127) A) (hW : zWF A) (hP : zPM q A l fr lr) (hl : l < aL A) {b : Nat} (hb : b < aB A) (K : Int → zM → Option zM) : Mo_fill_L46 (b : Int) ((aB A - b : Nat) : Int) K 5000 1 (qT q A l fr lr (pE (b + 1))) = K ((aB A - b + 1 : Nat) : Int) (qT q A l fr lr (pE b)) := by
  have wB := hW.2.2.1
  rw [← qT_words hW q hb, ← qT_first hW q]
  refine for_all (G := fun m i => Mo_fill_L46 (b : Int) ((aB A - b : Nat) : Int) K m ((i + 1 : Nat) : Int) (qT q A l fr lr (pF b (i + 1) 0))) (N := aB A - b) (by omega) (fun m i hi => ?_) (fun m => ?_)
  · show Mo_fill_L46 _ _ _ (m + 1) _ _ = Mo_fill_L46 _ _ _ m ((i + 1 + 1 : Nat) : Int) _
    obtain ⟨a1, a2, a3⟩ := ar_f46 hb wB (Nat.le_of_lt hi)
    rw [Mo_fill_L46, a1, a2, if_neg (fun h => Nat.not_lt.mpr (Nat.succ_le_of_lt hi) (a3.mp h)), fill_L54 hM hW hP hl hb (Nat.le_of_lt_succ (Nat.lt_of_lt_of_le hi (Nat.le_trans (Nat.sub_le _ _) wB)))]
    rfl
  · show Mo_fill_L46 _ _ _ (m + 1) _ _ = _
    obtain ⟨a1, a2, a3⟩ := ar_f46 hb wB (Nat.le_refl _)
    rw [Mo_fill_L46, a1, a2, if_pos (a3.mpr (Nat.lt_succ_self _))]
theorem ar_f31 {d B : Nat} (h1 : d + 1 ≤ B) (h2 : B ≤ 12) : ((d + 1 : Nat) : Int) - 1 = (d : Int) ∧ wrap (d : Int) = d ∧ ¬ ((d : Int) < 0) ∧ (B : Int) - (d : Int) = ((B - d : Nat) : Int) := ⟨by omega, wrap_n (by omega), by omega, by omega⟩
theorem fill_L31 (hM : zRM (q.1 127) A) (hW : zWF A) (hP : zPM q A l fr lr) (hl : l < aL A) (K : Int → zM → Option zM) : ∀ (d n : Nat), d ≤ aB A → d < n → Mo_fill_L31 K n ((d : Int) - 1) (qT q A l fr lr (pE d)) = K (-1) (qT q A l fr lr (pE 0)) := by
  have wB := hW.2.2.1
  intro d
  induction d with
  | zero =>
    intro n _ hn
    obtain ⟨n, rfl⟩ : ∃ m, n = m + 1 := ⟨n - 1, by omega⟩
    rw [Mo_fill_L31, if_pos (by decide)]
    rfl
  | succ d ih =>
    intro n hd hn
    obtain ⟨n, rfl⟩ : ∃ m, n = m + 1 := ⟨n - 1, by omega⟩
    obtain ⟨a1, a2, a3, a4⟩ := ar_f31 hd wB
    have e1 : (qT q A l fr lr (pE (d + 1))).1 127 1 = aB A := (congrFun (qT_fr q _ (by decide)) 1).trans hM.2.1
    rw [a1, Mo_fill_L31, a2, if_neg a3, e1, a4, fill_L46 hM hW hP hl (Nat.lt_of_succ_le hd)]
    exact ih n (Nat.le_of_succ_le hd) (Nat.lt_of_succ_lt_succ hn)
theorem fill_L2 (q : zM) (K : Int → zM → Option zM) : Mo_fill_L2 K 5000 0 q = K 2197 (qz q 135 0 2197) := by
  refine Eq.trans (by rw [qz_zero q 135 0]; rfl) (for_all (G := fun n i => Mo_fill_L2 K n (i : Int) (qz q 135 0 i)) (N := 2197) (by omega) (fun n i hi => ?_) (fun n => ?_))
  · show Mo_fill_L2 _ (n + 1) _ _ = Mo_fill_L2 _ n ((i + 1 : Nat) : Int) _
    have e := qz_step q 135 0 i
    rw [Nat.zero_add] at e
    rw [Mo_fill_L2, wrap_n (n := i) (by omega), if_pos (by omega), ck_in (by omega), Int.toNat_natCast, show (0 : Int) % 2 = 0 from rfl, e]
    rfl
  · show Mo_fill_L2 _ (n + 1) _ _ = _
    rw [Mo_fill_L2, if_neg (by decide)]
    rfl
theorem qz_qT (hW : zWF A) (q : zM) : qz q 135 0 2197 = qT q A l fr lr (pE (aB A)) := by
  refine zM_ext (fun a j => ?_) (fun a j => rfl)
  rw [qz_at, qT_at]
  by_cases c : a = 135 ∧ j < 2197
  · rw [if_pos (by omega), if_pos c]
    cases h : (pE (aB A) j && tJ A l fr lr j) with
    | false => rfl
    | true =>
      rw [Bool.and_eq_true] at h
      have h1 := tT_le hW h.2
      have h2 : aB A ≤ j / 169 := of_decide_eq_true h.1
      omega
  · rw [if_neg (by omega), if_neg c]
theorem Mo_fill_eq (hM : zRM (q.1 127) A) (hW : zWF A) (hP : zPM q A l fr lr) (hl : l < aL A) : Mo_fill q = some (qT q A l fr lr (pE 0)) := by
  have wB := hW.2.2.1
  unfold Mo_fill
  have e1 : (qT q A l fr lr (pE (aB A))).1 127 1 = aB A := (congrFun (qT_fr q _ (by decide)) 1).trans hM.2.1
  rw [fill_L2, qz_qT (l := l) (fr := fr) (lr := lr) hW, e1]
  clear e1
  exact fill_L31 hM hW hP hl _ (aB A) 5000 (Nat.le_refl _) (by omega)
end FL2

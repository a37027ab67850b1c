/-! acts: setMetre, clearLine, setLimit -/
def qz (q : zM) (d dp n : Nat) : zM := (fun a k => if a = d ∧ dp ≤ k ∧ k < dp + n then 0 else q.1 a k, q.2)
theorem qz_at (q : zM) (d dp n a k : Nat) : (qz q d dp n).1 a k = if a = d ∧ dp ≤ k ∧ k < dp + n then 0 else q.1 a k := rfl
theorem qz_zero (q : zM) (d dp : Nat) : qz q d dp 0 = q := by
  refine zM_ext (fun a k => ?_) (fun a k => rfl)
  rw [qz_at, if_neg (by omega)]
theorem qz_step (q : zM) (d dp i : Nat) : qs (qz q d dp i) d (dp + i) 0 = qz q d dp (i + 1) := by
  refine zM_ext (fun a k => ?_) (fun a k => rfl)
  rw [qs_at, qz_at, qz_at]
  by_cases h1 : a = d ∧ k = dp + i
  · rw [if_pos h1, if_pos (by omega)]
  · rw [if_neg h1]
    by_cases h2 : a = d ∧ dp ≤ k ∧ k < dp + i
    · rw [if_pos h2, if_pos (by omega)]
    · rw [if_neg h2, if_neg (by omega)]
theorem qz_add (q : zM) (d dp n m : Nat) : qz (qz q d dp n) d (dp + n) m = qz q d dp (n + m) := by
  refine zM_ext (fun a k => ?_) (fun a k => rfl)
  rw [qz_at, qz_at, qz_at]
  by_cases h1 : a = d ∧ dp + n ≤ k ∧ k < dp + n + m
  · rw [if_pos h1, if_pos (by omega)]
  · rw [if_neg h1]
    by_cases h2 : a = d ∧ dp ≤ k ∧ k < dp + n
    · rw [if_pos h2, if_pos (by omega)]
    · rw [if_neg h2, if_neg (by omega)]
theorem aBt_congr {A B : zT9} {l : Nat} (h2 : B 2 = A 2) (h8 : B 8 = A 8) (k : Nat) : aBt B l k = aBt A l k := by
  induction k with
  | zero => rfl
  | succ k ih =>
    unfold aBt
    rw [ih]
    unfold aSy aWd
    rw [h2, h8]
/-- other lines, the same words and metre -/
theorem zWF_lines {A B : zT9} (hA : zWF A) (h0 : ∀ k, k ≠ 7 → k ≠ 8 → B k = A k) (hl : ∀ l, aSz B l ≤ 12 ∧ ∀ k, k < aSz B l → aWd B l k < aN A ∧ aFit A (aWd B l k) (aBt B l k)) (hz : ∀ l, aL A ≤ l → aSz B l = 0) : zWF B := by
  have e0 := h0 0 (by omega) (by omega)
  have e1 := h0 1 (by omega) (by omega)
  have e2 := h0 2 (by omega) (by omega)
  have e3 := h0 3 (by omega) (by omega)
  have e4 := h0 4 (by omega) (by omega)
  have e5 := h0 5 (by omega) (by omega)
  have e6 := h0 6 (by omega) (by omega)
  have e9 := h0 9 (by omega) (by omega)
  unfold zWF aFit aFr aN aB aS aL aNl aSy aSt aLi aFe aLe aLt at *
  rw [e0, e1, e2, e3, e4, e5, e6, e9]
  obtain ⟨a1, a2, a3, a4, a5, a6, a7, a8, -, -⟩ := hA
  exact ⟨a1, a2, a3, a4, a5, a6, a7, a8, hl, hz⟩
def aEmpL (A : zT9) (l : Nat) : zT9 := fun k i => if k = 7 ∧ i = l then 0 else A k i
theorem aEmpL_k (A : zT9) (l : Nat) {k : Nat} (hk : k ≠ 7) : aEmpL A l k = A k := by
  funext i
  unfold aEmpL
  rw [if_neg (fun h => hk h.1)]
theorem aEmpL_wf {A : zT9} (hA : zWF A) (l : Nat) : zWF (aEmpL A l) := by
  have hh := hA.2.2.2.2.2.2.2.2
  have hs : ∀ i, aSz (aEmpL A l) i = if i = l then 0 else aSz A i := fun i => by
    unfold aSz aEmpL
    by_cases h : i = l <;> simp [h]
  refine zWF_lines hA (fun k h7 h8 => aEmpL_k A l h7) (fun i => ?_) (fun i hi => ?_)
  · rw [hs]
    by_cases h : i = l
    · rw [if_pos h]; exact ⟨by omega, fun k hk => absurd hk (by omega)⟩
    · rw [if_neg h]
      refine ⟨(hh.1 i).1, fun k hk => ?_⟩
      rw [aBt_congr (aEmpL_k A l (by omega)) (aEmpL_k A l (by omega))]
      unfold aWd
      rw [aEmpL_k A l (by omega)]
      exact (hh.1 i).2 k hk
  · rw [hs]
    split
    · rfl
    · exact hh.2 i hi
def aMet (A : zT9) (b s : Nat) : zT9 := fun k i => if k = 7 then 0 else if k = 0 ∧ i = 1 then b else if k = 0 ∧ i = 2 then s else A k i
theorem aMet_wf {A : zT9} (hA : zWF A) {b s : Nat} (hb : 2 ≤ b ∧ b ≤ 12) (hs : s < 2 ^ b) : zWF (aMet A b s) := by
  obtain ⟨a1, a2, a3, a4, a5, a6, a7, a8, -, -⟩ := hA
  have ek : ∀ k, k ≠ 7 → k ≠ 0 → aMet A b s k = A k := fun k h7 h0 => by
    funext i
    unfold aMet
    rw [if_neg h7, if_neg (fun h => h0 h.1), if_neg (fun h => h0 h.1)]
  have e00 : aMet A b s 0 0 = A 0 0 := rfl
  have e01 : aMet A b s 0 1 = b := rfl
  have e02 : aMet A b s 0 2 = s := rfl
  have e03 : aMet A b s 0 3 = A 0 3 := rfl
  have e7 : ∀ l, aMet A b s 7 l = 0 := fun l => rfl
  unfold zWF aN aB aS aL aNl aSy aSt aLi aFe aLe aLt aSz at *
  rw [e00, e01, e02, e03, ek 1 (by omega) (by omega), ek 2 (by omega) (by omega), ek 3 (by omega) (by omega), ek 4 (by omega) (by omega), ek 5 (by omega) (by omega), ek 6 (by omega) (by omega), ek 9 (by omega) (by omega)]
  exact ⟨a1, hb.1, hb.2, hs, a5, a6, a7, a8, fun l => ⟨by rw [e7]; omega, fun k hk => absurd hk (by rw [e7]; omega)⟩, fun l _ => e7 l⟩
def aLim (A : zT9) (w v : Nat) : zT9 := fun k i => if k = 4 ∧ i = w then v else A k i
theorem aLim_k (A : zT9) (w v : Nat) {k : Nat} (hk : k ≠ 4) : aLim A w v k = A k := by
  funext i
  unfold aLim
  rw [if_neg (fun h => hk h.1)]
theorem aLim_wf {A : zT9} (hA : zWF A) {w v : Nat} (hv : 1 ≤ v ∧ v ≤ 9) : zWF (aLim A w v) := by
  obtain ⟨a1, a2, a3, a4, a5, a6, a7, a8, a9, a10⟩ := hA
  have hb : ∀ l k, aBt (aLim A w v) l k = aBt A l k := fun l k => aBt_congr (aLim_k A w v (by omega)) (aLim_k A w v (by omega)) k
  unfold zWF aFit aFr aN aB aS aL aNl aSy aSt aLi aFe aLe aLt aSz aWd at *
  rw [aLim_k A w v (k := 0) (by omega), aLim_k A w v (k := 1) (by omega), aLim_k A w v (k := 2) (by omega), aLim_k A w v (k := 3) (by omega), aLim_k A w v (k := 5) (by omega), aLim_k A w v (k := 6) (by omega), aLim_k A w v (k := 7) (by omega), aLim_k A w v (k := 8) (by omega), aLim_k A w v (k := 9) (by omega)]
  refine ⟨a1, a2, a3, a4, a5, a6, fun x hx => ?_, a8, fun l => ⟨(a9 l).1, fun k hk => by rw [hb]; exact (a9 l).2 k hk⟩, a10⟩
  obtain ⟨b1, b2, b3, b4, b5, b6, b7, b8⟩ := a7 x hx
  refine ⟨b1, b2, b3, b4, b5, ?_, ?_, b8⟩
  · unfold aLim
    split
    · omega
    · exact b6
  · unfold aLim
    split
    · omega
    · exact b7
/-- the class's live state alone has changed -/
theorem zGX_mut {q1 q2 : zM} {A B : zT9} {hs : List zT9} {sn : Nat → Option zT9} {tx : List Nat} (h : zGX q1 A hs sn tx) (hf : ∀ a, a < 5 ∨ 17 < a → a < 126 → q2.1 a = q1.1 a ∧ q2.2 a = q1.2 a) (hB : zRX q2 5 B) : zGX q2 B hs sn tx := by
  obtain ⟨g1, g2, g3, ⟨o, g4, g5, g6, g7⟩, g8⟩ := h
  have rr : ∀ {s' : Nat} {B : zT9}, 17 < s' → s' + 12 < 126 → zRX q1 s' B → zRX q2 s' B := fun h1 h2 hb => zRX_congr (fun a h3 h4 => hf a (by omega) (by omega)) hb
  exact ⟨hB, by rw [(hf 2 (by omega) (by omega)).1]; exact g2, fun i hi => by rw [(hf 3 (by omega) (by omega)).1]; exact g3 i hi, ⟨o, g4, by rw [(hf 18 (by omega) (by omega)).1]; exact g5, by rw [(hf 18 (by omega) (by omega)).1]; exact g6, fun j hj => rr (by omega) (by omega) (g7 j hj)⟩, fun i hi => ⟨by rw [(hf 87 (by omega) (by omega)).1]; exact (g8 i hi).1, fun A' hA => rr (by omega) (by omega) ((g8 i hi).2 A' hA)⟩⟩
theorem cntTo_cut {p : Nat → Bool} {n m : Nat} (hnm : n ≤ m) (h : ∀ i, n ≤ i → p i = false) : cntTo p m = cntTo p n := by
  induction hnm with
  | refl => rfl
  | step hm ih =>
    rename_i m
    show cntTo p m + (if p m then 1 else 0) = _
    rw [ih, h m hm]
    simp
section A1
variable {q : zM} {A : zT9} {hs : List zT9} {sn : Nat → Option zT9} {tx : List Nat}
theorem Po_emptyLine_raw {N l : Nat} (hN : q.1 13 0 = N) (h8 : N ≤ 8) (hl : l < N) : Po_emptyLine q (l : Int) = some (qs q 16 l 0) := by
  unfold Po_emptyLine Po_has
  rw [hN, wrap_n (n := l) (by omega), wrap_n (n := N) (by omega), if_neg (by omega), if_pos (by omega), Option.bind_some, if_neg one_ne, ck_in (by omega), Int.toNat_natCast]
theorem Po_wordsIn_raw {N l : Nat} {x : Int} (hN : q.1 13 0 = N) (h8 : N ≤ 8) (hl : l < N) (hx : q.1 16 l = x) : Po_wordsIn q (l : Int) = some x := by
  unfold Po_wordsIn Po_has
  rw [hN, wrap_n (n := l) (by omega), wrap_n (n := N) (by omega), if_neg (by omega), if_pos (by omega), Option.bind_some, if_neg one_ne, ck_in (by omega), Int.toNat_natCast, hx]
theorem Po_madeLines_raw {N : Nat} {f : Nat → Nat} (hN : q.1 13 0 = N) (h8 : N ≤ 8) (hx : ∀ l, l < N → q.1 16 l = f l) (hf : ∀ l, f l ≤ 12) : Po_madeLines q = some (cntTo (fun l => decide (0 < f l)) N : Int) := by
  unfold Po_madeLines
  refine for_all (G := fun n i => Po_madeLines_L4 q (fun v _ => some v) n (cntTo (fun l => decide (0 < f l)) i : Int) (i : Int)) (N := N) (by omega) (fun n i hi => ?_) (fun n => ?_)
  · show Po_madeLines_L4 _ _ (n + 1) _ _ = Po_madeLines_L4 _ _ n (cntTo _ (i + 1) : Int) ((i + 1 : Nat) : Int)
    have w2 := hf i
    rw [Po_madeLines_L4, hN, wrap_n (n := i) (by omega), wrap_n (n := N) (by omega), if_pos (by omega), Po_wordsIn_raw hN h8 hi (hx i hi), Option.bind_some, wrap_n (by omega)]
    by_cases h1 : 0 < f i
    · rw [if_pos (by omega)]
      simp [cntTo, h1]
    · rw [if_neg (by omega)]
      simp [cntTo, h1]
  · show Po_madeLines_L4 _ _ (n + 1) _ _ = _
    rw [Po_madeLines_L4, hN, if_neg (by omega)]
theorem Po_emptyAllLines_eq {N : Nat} {f : Nat → Nat} (hN : q.1 13 0 = N) (h8 : N ≤ 8) (hx : ∀ l, l < N → q.1 16 l = f l) (hf : ∀ l, f l ≤ 12) : Po_emptyAllLines q = some ((cntTo (fun l => decide (0 < f l)) N : Int), qz q 16 0 N) := by
  unfold Po_emptyAllLines
  rw [Po_madeLines_raw hN h8 hx hf, Option.bind_some]
  refine Eq.trans (by rw [qz_zero q 16 0]; rfl) (for_all (G := fun n i => Po_emptyAllLines_L7 (cntTo (fun l => decide (0 < f l)) N : Int) (fun _ q_5 => some ((cntTo (fun l => decide (0 < f l)) N : Int), q_5)) n (i : Int) (qz q 16 0 i)) (N := N) (by omega) (fun n i hi => ?_) (fun n => ?_))
  · show Po_emptyAllLines_L7 _ _ (n + 1) _ _ = Po_emptyAllLines_L7 _ _ n ((i + 1 : Nat) : Int) _
    have e3 : (qz q 16 0 i).1 13 0 = N := by rw [qz_at, if_neg (by omega)]; exact hN
    have e := qz_step q 16 0 i
    rw [Nat.zero_add] at e
    rw [Po_emptyAllLines_L7, e3, wrap_n (n := i) (by omega), wrap_n (n := N) (by omega), if_pos (by omega), Po_emptyLine_raw e3 h8 hi, Option.bind_some, e]
    rfl
  · show Po_emptyAllLines_L7 _ _ (n + 1) _ _ = _
    have e3 : (qz q 16 0 N).1 13 0 = N := by rw [qz_at, if_neg (by omega)]; exact hN
    rw [Po_emptyAllLines_L7, e3, if_neg (by omega)]
end A1

/-! removeWord: the reference -/
theorem pk4_cong {f g : Nat → Nat} : ∀ {n : Nat}, (∀ k, k < n → f k = g k) → pk4 f n = pk4 g n := by
  intro n
  induction n with
  | zero => intro _; rfl
  | succ n ih =>
    intro h
    unfold pk4
    rw [ih (fun k hk => h k (Nat.lt_succ_of_lt hk)), h n (Nat.lt_succ_self n)]
/-- the row of lines once the word is out -/
def rv (A : zT9) (w : Nat) (r : Nat → Int) (j : Nat) : Int := if aUs A ((j - 140) / 13) w = true then 0 else if (j - 140) % 13 = 0 then r j else if (j - 140) % 13 ≤ aSz A ((j - 140) / 13) then ((dn1 w (aWd A ((j - 140) / 13) ((j - 140) % 13 - 1)) : Nat) : Int) else r j
theorem rv_at (A : zT9) (w : Nat) (r : Nat → Int) (l k : Nat) (hk : k < 13) : rv A w r (140 + 13 * l + k) = if aUs A l w = true then 0 else if k = 0 then r (140 + 13 * l + k) else if k ≤ aSz A l then ((dn1 w (aWd A l (k - 1)) : Nat) : Int) else r (140 + 13 * l + k) := by
  unfold rv
  rw [show (140 + 13 * l + k - 140) / 13 = l by omega, show (140 + 13 * l + k - 140) % 13 = k by omega]
def qp (q : zM) (f : Nat → Int) (p : Nat) : zM := (fun a k => if a = 127 ∧ 140 ≤ k ∧ k < 140 + p then f k else q.1 a k, q.2)
theorem qp_at (q : zM) (f : Nat → Int) (p a k : Nat) : (qp q f p).1 a k = if a = 127 ∧ 140 ≤ k ∧ k < 140 + p then f k else q.1 a k := rfl
theorem qp_zero (q : zM) (f : Nat → Int) : qp q f 0 = q := by
  refine zM_ext (fun a k => ?_) (fun a k => rfl)
  rw [qp_at, if_neg (by omega)]
theorem qp_one (q : zM) (f : Nat → Int) (p : Nat) {j : Nat} (hj : j = 140 + p) {x : Int} (hx : x = f j) : qs (qp q f p) 127 j x = qp q f (p + 1) := by
  subst hx
  refine zM_ext (fun a k => ?_) (fun a k => rfl)
  rw [qs_at, qp_at, qp_at]
  by_cases h1 : a = 127 ∧ k = j
  · rw [if_pos h1, if_pos (by omega), h1.2]
  · rw [if_neg h1]
    by_cases h2 : a = 127 ∧ 140 ≤ k ∧ k < 140 + p
    · rw [if_pos h2, if_pos (by omega)]
    · rw [if_neg h2, if_neg (by omega)]
theorem qp_z (q : zM) (f : Nat → Int) (p : Nat) (h : ∀ j, j < 13 → f (140 + p + j) = 0) : qz (qp q f p) 127 (140 + p) 13 = qp q f (p + 13) := by
  refine zM_ext (fun a k => ?_) (fun a k => rfl)
  rw [qz_at, qp_at, qp_at]
  by_cases h1 : a = 127 ∧ 140 + p ≤ k ∧ k < 140 + p + 13
  · have := h (k - (140 + p)) (by omega)
    rw [show 140 + p + (k - (140 + p)) = k by omega] at this
    rw [if_pos h1, if_pos (by clear this; omega), this]
  · rw [if_neg h1]
    by_cases h2 : a = 127 ∧ 140 ≤ k ∧ k < 140 + p
    · rw [if_pos h2, if_pos (by omega)]
    · rw [if_neg h2, if_neg (by omega)]
theorem qp_to (q : zM) (f : Nat → Int) {p p' : Nat} (hp : p ≤ p') (h : ∀ j, 140 + p ≤ j → j < 140 + p' → f j = q.1 127 j) : qp q f p = qp q f p' := by
  refine zM_ext (fun a k => ?_) (fun a k => rfl)
  rw [qp_at, qp_at]
  by_cases h2 : a = 127 ∧ 140 ≤ k ∧ k < 140 + p
  · rw [if_pos h2, if_pos (by omega)]
  · rw [if_neg h2]
    by_cases h1 : a = 127 ∧ 140 ≤ k ∧ k < 140 + p'
    · rw [if_pos h1, h k (by omega) (by omega), h1.1]
    · rw [if_neg h1]
def qt (q : zM) (s i : Nat) : zM := (fun a k => if a = 127 ∧ s ≤ k ∧ k < s + i then q.1 127 (k + 3) else q.1 a k, q.2)
theorem qt_at (q : zM) (s i a k : Nat) : (qt q s i).1 a k = if a = 127 ∧ s ≤ k ∧ k < s + i then q.1 127 (k + 3) else q.1 a k := rfl
theorem qt_zero (q : zM) (s : Nat) : qt q s 0 = q := by
  refine zM_ext (fun a k => ?_) (fun a k => rfl)
  rw [qt_at, if_neg (by omega)]
theorem qt_step (q : zM) (s i : Nat) : qs (qt q s i) 127 (s + i) ((qt q s i).1 127 (s + i + 3)) = qt q s (i + 1) := by
  have r : (qt q s i).1 127 (s + i + 3) = q.1 127 (s + i + 3) := by rw [qt_at, if_neg (by omega)]
  rw [r]
  clear r
  refine zM_ext (fun a k => ?_) (fun a k => rfl)
  rw [qs_at, qt_at, qt_at]
  by_cases h1 : a = 127 ∧ k = s + i
  · rw [if_pos h1, if_pos (by omega), h1.2]
  · rw [if_neg h1]
    by_cases h2 : a = 127 ∧ s ≤ k ∧ k < s + i
    · rw [if_pos h2, if_pos (by omega)]
    · rw [if_neg h2, if_neg (by omega)]
section RM4
variable {q : zM} {A : zT9} {hs : List zT9} {sn : Nat → Option zT9} {tx : List Nat}
theorem rem_L124 {s m : Nat} (hs20 : 20 ≤ s) (hm : s ≤ 20 + 3 * m) (hm40 : m < 40) (h0 : q.1 127 0 = m) (v1 v2 : Int) (K : Int → zM → Option (Int × zM)) : Mo_removeWord_L124 v1 v2 K 5000 (s : Int) q = K ((20 + 3 * m : Nat) : Int) (qt q s (20 + 3 * m - s)) := by
  refine Eq.trans (by rw [qt_zero q s]; rfl) (for_all (G := fun n i => Mo_removeWord_L124 v1 v2 K n ((s + i : Nat) : Int) (qt q s i)) (N := 20 + 3 * m - s) (by omega) (fun n i hi => ?_) (fun n => ?_))
  · have e0 : (qt q s i).1 127 0 = m := by rw [qt_at, if_neg (by omega)]; exact h0
    have e := qt_step q s i
    show Mo_removeWord_L124 _ _ _ (n + 1) _ _ = Mo_removeWord_L124 _ _ _ n ((s + (i + 1) : Nat) : Int) _
    rw [← e, Mo_removeWord_L124, e0]
    clear e e0 h0
    rw [show ((20 : Int) + 3 * (m : Int)) = ((20 + 3 * m : Nat) : Int) by omega, show (((s + i : Nat) : Int) + 3) = ((s + i + 3 : Nat) : Int) by omega, wrap_n (n := s + i) (by omega), wrap_n (n := 20 + 3 * m) (by omega), wrap_n (n := s + i + 3) (by omega), if_pos (by omega), ck_in (by omega), ck_in (by omega), Int.toNat_natCast, Int.toNat_natCast]
    rfl
  · have e0 : (qt q s (20 + 3 * m - s)).1 127 0 = m := by rw [qt_at, if_neg (by omega)]; exact h0
    show Mo_removeWord_L124 _ _ _ (n + 1) ((s + (20 + 3 * m - s) : Nat) : Int) _ = _
    rw [Mo_removeWord_L124, e0, show s + (20 + 3 * m - s) = 20 + 3 * m by omega, show ((20 : Int) + 3 * (m : Int)) = ((20 + 3 * m : Nat) : Int) by omega, if_neg (Int.lt_irrefl _)]
/-- a line that doesn't use the word -/
theorem rem_L48N (hW : zWF A) (hM : zRM (q.1 127) A) {i w : Nat} (hi : i < aL A) (hw : w < 40) (hu : aUs A i w = false) (v2 : Int) (K : Int → zM → Option (Int × zM)) : Mo_removeWord_L48 (w : Int) v2 (i : Int) K 5000 0 (qp q (rv A w (q.1 127)) (13 * i)) = K (aSz A i : Int) (qp q (rv A w (q.1 127)) (13 * (i + 1))) := by
  have w1 := hW.2.2.2.2.2.1
  have w2 := (hW.2.2.2.2.2.2.2.2.1 i).1
  have hsz : q.1 127 (140 + 13 * i) = aSz A i := hM.2.2.2.2.2.2.1 i (by omega)
  have hwd : ∀ k, k < aSz A i → q.1 127 (141 + 13 * i + k) = aWd A i k := fun k hk => hM.2.2.2.2.2.2.2 i k hi hk
  have wdlt : ∀ k, k < aSz A i → aWd A i k < 40 := fun k hk => Nat.lt_of_lt_of_le ((hW.2.2.2.2.2.2.2.2.1 i).2 k hk).1 hW.1
  have f0 : rv A w (q.1 127) (140 + 13 * i) = aSz A i := by
    have := rv_at A w (q.1 127) i 0 (by omega)
    rw [Nat.add_zero, hu, if_neg (c := false = true) (by simp), if_pos rfl] at this
    exact this.trans hsz
  have fk : ∀ k, k < aSz A i → rv A w (q.1 127) (140 + 13 * i + (k + 1)) = ((dn1 w (aWd A i k) : Nat) : Int) := fun k hk => by
    rw [rv_at A w (q.1 127) i (k + 1) (by omega), hu, if_neg (c := false = true) (by simp), if_neg (by omega), if_pos (by omega), Nat.add_sub_cancel]
  have fr : ∀ k, aSz A i < k → k < 13 → rv A w (q.1 127) (140 + 13 * i + k) = q.1 127 (140 + 13 * i + k) := fun k hk hk2 => by
    rw [rv_at A w (q.1 127) i k hk2, hu, if_neg (c := false = true) (by simp), if_neg (by omega), if_neg (by omega)]
  clear hM
  generalize rv A w (q.1 127) = f at f0 fk fr
  have st : qp q f (13 * i) = qp q f (13 * i + 1 + 0) := qp_to q f (by clear f0 hsz; omega) (fun j h1 h2 => by
    rw [show j = 140 + 13 * i by clear f0 hsz; omega, f0, hsz])
  have en : qp q f (13 * i + 1 + aSz A i) = qp q f (13 * (i + 1)) := qp_to q f (by clear f0 hsz; omega) (fun j h1 h2 => by
    have := fr (j - (140 + 13 * i)) (by clear f0 hsz; omega) (by clear f0 hsz; omega)
    rw [show 140 + 13 * i + (j - (140 + 13 * i)) = j by clear f0 hsz this; omega] at this
    exact this)
  rw [st, ← en]
  clear st en fr
  have rs : ∀ k, Mo_size (qp q f (13 * i + 1 + k)) (i : Int) = some (aSz A i : Int) := fun k => Mo_size_raw (by clear f0 hsz; omega) (by rw [qp_at, if_pos (by clear f0 hsz; omega)]; exact f0)
  have rw' : ∀ k, k < aSz A i → (qp q f (13 * i + 1 + k)).1 127 (141 + 13 * i + k) = aWd A i k := fun k hk => by
    rw [qp_at, if_neg (by clear f0 hsz; omega)]; exact hwd k hk
  clear f0 hsz hwd
  refine for_all (G := fun n k => Mo_removeWord_L48 (w : Int) v2 (i : Int) K n (k : Int) (qp q f (13 * i + 1 + k))) (N := aSz A i) (by omega) (fun n k hk => ?_) (fun n => ?_)
  · show Mo_removeWord_L48 _ _ _ _ (n + 1) _ _ = Mo_removeWord_L48 _ _ _ _ n ((k + 1 : Nat) : Int) (qp q f (13 * i + 1 + (k + 1)))
    have hlt := wdlt k hk
    have hr := rw' k hk
    have hf := fk k hk
    have hwi := Mo_wordIn_raw (q := qp q f (13 * i + 1 + k)) (l := i) (k := k) (by clear hr hf; omega) (by clear hr hf; omega) hr
    rw [Mo_removeWord_L48, rs k, Option.bind_some, hwi, Option.bind_some, show ((((140 : Int) + 13 * (i : Int)) + 1) + (k : Int)) = ((141 + 13 * i + k : Nat) : Int) by clear hr hf; omega, wrap_n (n := 141 + 13 * i + k) (by clear hr hf; omega), Int.toNat_natCast, hr]
    rw [show 140 + 13 * i + (k + 1) = 141 + 13 * i + k by clear hr hf; omega] at hf
    clear hr hwi
    have one : ∀ x, x = ((dn1 w (aWd A i k) : Nat) : Int) → qs (qp q f (13 * i + 1 + k)) 127 (141 + 13 * i + k) x = qp q f (13 * i + 1 + (k + 1)) := fun x hx => qp_one q f (13 * i + 1 + k) (j := 141 + 13 * i + k) (by clear hf hx; omega) (hx.trans hf.symm)
    clear hf
    rw [wrap_n (n := k) (by omega), wrap_n (n := aSz A i) (by omega), if_pos (by omega), ck_in (by omega), wrap_n (n := w) (by omega), wrap_n (n := aWd A i k) (by omega), ck_in (by omega), ck_in (by omega)]
    by_cases c : w < aWd A i k
    · rw [if_pos (by omega), one _ (by unfold dn1; rw [if_pos c]; omega)]
      rfl
    · rw [if_neg (by omega), one _ (by unfold dn1; rw [if_neg c]; omega)]
      rfl
  · show Mo_removeWord_L48 _ _ _ _ (n + 1) _ _ = _
    rw [Mo_removeWord_L48, rs, Option.bind_some, if_neg (Int.lt_irrefl _)]
end RM4

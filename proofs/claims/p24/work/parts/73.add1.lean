/-! addWord: the new state -/
def aAdd (A : zT9) (σ : zW) : zT9 := fun k i => if k = 0 ∧ i = 0 then A 0 0 + 1 else if k = 1 ∧ i = A 0 0 then σ.2.1 else if k = 2 ∧ i = A 0 0 then σ.2.2.1 else if k = 3 ∧ i = A 0 0 then σ.2.2.2.1 else if k = 4 ∧ i = A 0 0 then σ.2.2.2.2.1 else if k = 9 ∧ i / 8 = A 0 0 then σ.2.2.2.2.2 (i % 8) else A k i
section AD
variable {A : zT9} {σ : zW}
theorem aAdd_old {w : Nat} (h : w < aN A) : aNl (aAdd A σ) w = aNl A w ∧ aSy (aAdd A σ) w = aSy A w ∧ aSt (aAdd A σ) w = aSt A w ∧ aLi (aAdd A σ) w = aLi A w := by
  have h : w < A 0 0 := h
  have e : ¬ w = A 0 0 := by omega
  refine ⟨?_, ?_, ?_, ?_⟩
  · simp [aNl, aAdd, e]
  · simp [aSy, aAdd, e]
  · simp [aSt, aAdd, e]
  · simp [aLi, aAdd, e]
theorem aAdd_new : aNl (aAdd A σ) (aN A) = σ.2.1 ∧ aSy (aAdd A σ) (aN A) = σ.2.2.1 ∧ aSt (aAdd A σ) (aN A) = σ.2.2.2.1 ∧ aLi (aAdd A σ) (aN A) = σ.2.2.2.2.1 := by
  refine ⟨?_, ?_, ?_, ?_⟩
  · simp [aNl, aAdd, aN]
  · simp [aSy, aAdd, aN]
  · simp [aSt, aAdd, aN]
  · simp [aLi, aAdd, aN]
theorem aAdd_lt {w k : Nat} (hk : k < 8) : aLt (aAdd A σ) w k = if w = aN A then σ.2.2.2.2.2 k else aLt A w k := by
  have e1 : (8 * w + k) / 8 = w := by omega
  have e2 : (8 * w + k) % 8 = k := by omega
  show aAdd A σ 9 (8 * w + k) = _
  unfold aAdd aN aLt
  rw [e1, e2]
  by_cases c : w = A 0 0
  · simp [c]
  · simp [c]
theorem aAdd_bt (hW : zWF A) (l : Nat) : ∀ k, k ≤ aSz A l → aBt (aAdd A σ) l k = aBt A l k := by
  intro k
  induction k with
  | zero => intro _; rfl
  | succ k ih =>
    intro hk
    unfold aBt
    rw [ih (by omega)]
    show aBt A l k + aSy (aAdd A σ) (aWd A l k) = _
    rw [(aAdd_old ((hW.2.2.2.2.2.2.2.2.1 l).2 k (by omega)).1).2.1]
theorem aAdd_wf (hW : zWF A) (hN : aN A < 40) (hI : wI σ) (hp : 2 ≤ σ.1) : zWF (aAdd A σ) := by
  obtain ⟨a1, a2, a3, a4, a5, a6, a7, a8, a9, a10⟩ := id hW
  obtain ⟨-, b2, b3, -, -, b6, b7, b8, b9⟩ := hI
  obtain ⟨c1, c2, c3⟩ := b6 hp
  refine ⟨by show aN A + 1 ≤ 40; omega, a2, a3, a4, a5, a6, fun w hw => ?_, a8, fun l => ⟨(a9 l).1, fun k hk => ?_⟩, a10⟩
  · have hw : w < aN A + 1 := hw
    by_cases e : w = aN A
    · subst e
      obtain ⟨n1, n2, n3, n4⟩ := aAdd_new (A := A) (σ := σ)
      rw [n1, n2, n3, n4]
      refine ⟨c1, b2, c2, b3, c3, b7, b8, fun k hk => ?_⟩
      rw [aAdd_lt (by omega), if_pos rfl]
      exact b9 k hk
    · obtain ⟨n1, n2, n3, n4⟩ := aAdd_old (A := A) (σ := σ) (w := w) (by omega)
      obtain ⟨d1, d2, d3, d4, d5, d6, d7, d8⟩ := a7 w (by omega)
      rw [n1, n2, n3, n4]
      refine ⟨d1, d2, d3, d4, d5, d6, d7, fun k hk => ?_⟩
      rw [aAdd_lt (by omega), if_neg e]
      exact d8 k hk
  · have hk : k < aSz A l := hk
    obtain ⟨d1, d2⟩ := (a9 l).2 k hk
    obtain ⟨n1, n2, n3, n4⟩ := aAdd_old (A := A) (σ := σ) d1
    rw [aAdd_bt hW l k (by omega)]
    show aWd A l k < aN A + 1 ∧ (aBt A l k + aSy (aAdd A σ) (aWd A l k) ≤ aB A ∧ (aSy (aAdd A σ) (aWd A l k) = 1 ∨ aFr A (aBt A l k) (aSy (aAdd A σ) (aWd A l k)) = aSt (aAdd A σ) (aWd A l k)))
    rw [n2, n3]
    exact ⟨by omega, d2⟩
end AD
section AD2
variable {q : zM} {A : zT9} {hs : List zT9} {sn : Nat → Option zT9} {tx : List Nat} {σ : zW}
theorem qs_na {q : zM} {o k : Nat} {v : Int} {a : Nat} (h : a ≠ o) (j : Nat) : (qs q o k v).1 a j = q.1 a j := by rw [qs_at, if_neg (fun g => h g.1)]
theorem Ws_append_raw {n : Nat} (hn : n < 40) (x1 : q.1 6 0 = n) : Ws_append q = some (qs (qs (qs (qs (qs (ql q 7 n (q.2 4 1)) 8 n (q.1 4 2)) 9 n (q.1 4 3)) 10 n (q.1 4 4)) 11 n (q.1 4 5)) 6 0 ((n : Int) + 1)) := by
  have wn : wrap (n : Int) = n := wrap_n (by clear x1; omega)
  have cn : (0 : Int) ≤ (n : Int) ∧ (n : Int) < 40 := by clear x1; omega
  have e0 : (ql q 7 n (q.2 4 1)).1 6 0 = n := x1
  have e1 : (qs (ql q 7 n (q.2 4 1)) 8 n (q.1 4 2)).1 6 0 = n := (qs_na (by decide) 0).trans e0
  have e2 : (qs (qs (ql q 7 n (q.2 4 1)) 8 n (q.1 4 2)) 9 n (q.1 4 3)).1 6 0 = n := (qs_na (by decide) 0).trans e1
  have e3 : (qs (qs (qs (ql q 7 n (q.2 4 1)) 8 n (q.1 4 2)) 9 n (q.1 4 3)) 10 n (q.1 4 4)).1 6 0 = n := (qs_na (by decide) 0).trans e2
  have e4 : (qs (qs (qs (qs (ql q 7 n (q.2 4 1)) 8 n (q.1 4 2)) 9 n (q.1 4 3)) 10 n (q.1 4 4)) 11 n (q.1 4 5)).1 6 0 = n := (qs_na (by decide) 0).trans e3
  have k2 : (ql q 7 n (q.2 4 1)).1 4 2 = q.1 4 2 := rfl
  have k3 : (qs (ql q 7 n (q.2 4 1)) 8 n (q.1 4 2)).1 4 3 = q.1 4 3 := qs_na (by decide) 3
  have k4 : (qs (qs (ql q 7 n (q.2 4 1)) 8 n (q.1 4 2)) 9 n (q.1 4 3)).1 4 4 = q.1 4 4 := (qs_na (by decide) 4).trans (qs_na (by decide) 4)
  have k5 : (qs (qs (qs (ql q 7 n (q.2 4 1)) 8 n (q.1 4 2)) 9 n (q.1 4 3)) 10 n (q.1 4 4)).1 4 5 = q.1 4 5 := (qs_na (by decide) 5).trans ((qs_na (by decide) 5).trans (qs_na (by decide) 5))
  unfold Ws_append Ws_isFull
  rw [x1, wn, if_pos cn.2, Option.bind_some, if_pos zero_eq, ck_in cn, Int.toNat_natCast]
  unfold Ws_append_b21
  rw [e0, wn, ck_in cn, Int.toNat_natCast, k2]
  unfold Ws_append_b34
  rw [e1, wn, ck_in cn, Int.toNat_natCast, k3]
  unfold Ws_append_b47
  rw [e2, wn, ck_in cn, Int.toNat_natCast, k4]
  unfold Ws_append_b60
  rw [e3, wn, ck_in cn, Int.toNat_natCast, k5]
  unfold Ws_append_b73
  rw [e4]
theorem Ws_append_eq (h : zRX q 5 A) (hW : zWF A) (hN : aN A < 40) (hX : zWX q σ) (hI : wI σ) : ∃ q', Ws_append q = some q' ∧ zRX q' 5 (aAdd A σ) ∧ ∀ a, a < 5 ∨ 17 < a → q'.1 a = q.1 a ∧ q'.2 a = q.2 a := by
  have hm8 : σ.2.1 ≤ 8 := hI.2.1
  obtain ⟨x1, x2, x3, x4, x5, x6, x7⟩ := h
  obtain ⟨p1, p2, p3, p4, p5, p6⟩ := hX
  have ev := Ws_append_raw hN x1
  have hat : ∀ a k, (qs (qs (qs (qs (qs (ql q 7 (aN A) (q.2 4 1)) 8 (aN A) (q.1 4 2)) 9 (aN A) (q.1 4 3)) 10 (aN A) (q.1 4 4)) 11 (aN A) (q.1 4 5)) 6 0 ((aN A : Int) + 1)).1 a k = if a = 6 ∧ k = 0 then (aN A : Int) + 1 else if a = 11 ∧ k = aN A then q.1 4 5 else if a = 10 ∧ k = aN A then q.1 4 4 else if a = 9 ∧ k = aN A then q.1 4 3 else if a = 8 ∧ k = aN A then q.1 4 2 else q.1 a k := fun a k => rfl
  have hat2 : ∀ a k, (qs (qs (qs (qs (qs (ql q 7 (aN A) (q.2 4 1)) 8 (aN A) (q.1 4 2)) 9 (aN A) (q.1 4 3)) 10 (aN A) (q.1 4 4)) 11 (aN A) (q.1 4 5)) 6 0 ((aN A : Int) + 1)).2 a k = if a = 7 ∧ k = aN A then q.2 4 1 else q.2 a k := fun a k => rfl
  generalize qs (qs (qs (qs (qs (ql q 7 (aN A) (q.2 4 1)) 8 (aN A) (q.1 4 2)) 9 (aN A) (q.1 4 3)) 10 (aN A) (q.1 4 4)) 11 (aN A) (q.1 4 5)) 6 0 ((aN A : Int) + 1) = q' at ev hat hat2
  have far : ∀ a, (a < 6 ∨ 11 < a) → ∀ k, q'.1 a k = q.1 a k := fun a ha k => by
    clear x1 x2 x3 x4 p1 p2 p3 p4 p5 ev
    rw [hat, if_neg (by omega), if_neg (by omega), if_neg (by omega), if_neg (by omega), if_neg (by omega)]
  have old : ∀ a k, a ≠ 6 → k ≠ aN A → q'.1 a k = q.1 a k := fun a k ha hk => by rw [hat, if_neg (fun g => ha g.1), if_neg (fun g => hk g.2), if_neg (fun g => hk g.2), if_neg (fun g => hk g.2), if_neg (fun g => hk g.2)]
  refine ⟨q', ev, ⟨?_, ?_, ?_, ?_, fun w hw => ?_, fun l hl => ?_, fun l k hl hk => ?_⟩, fun a ha => ⟨funext fun k => far a (by clear x1 x2 x3 x4 p1 p2 p3 p4 p5 ev; omega) k, funext fun k => by rw [hat2, if_neg (fun g => by clear x1 x2 x3 x4 p1 p2 p3 p4 p5 ev; omega)]⟩⟩
  · show q'.1 6 0 = ((aN A + 1 : Nat) : Int)
    rw [hat, if_pos ⟨rfl, rfl⟩]
    rfl
  · exact (far 12 (by decide) 0).trans x2
  · exact (far 12 (by decide) 1).trans x3
  · exact (far 13 (by decide) 0).trans x4
  · have hw : w < aN A + 1 := hw
    show q'.1 8 w = _ ∧ q'.1 9 w = _ ∧ q'.1 10 w = _ ∧ q'.1 11 w = _ ∧ q'.2 7 w = _
    by_cases e : w = aN A
    · obtain ⟨n1, n2, n3, n4⟩ := aAdd_new (A := A) (σ := σ)
      rw [e, n1, n2, n3, n4]
      refine ⟨?_, ?_, ?_, ?_, ?_⟩
      · rw [hat, if_neg (fun g => absurd g.1 (by decide)), if_neg (fun g => absurd g.1 (by decide)), if_neg (fun g => absurd g.1 (by decide)), if_neg (fun g => absurd g.1 (by decide)), if_pos ⟨rfl, rfl⟩]; exact p2
      · rw [hat, if_neg (fun g => absurd g.1 (by decide)), if_neg (fun g => absurd g.1 (by decide)), if_neg (fun g => absurd g.1 (by decide)), if_pos ⟨rfl, rfl⟩]; exact p3
      · rw [hat, if_neg (fun g => absurd g.1 (by decide)), if_neg (fun g => absurd g.1 (by decide)), if_pos ⟨rfl, rfl⟩]; exact p4
      · rw [hat, if_neg (fun g => absurd g.1 (by decide)), if_pos ⟨rfl, rfl⟩]; exact p5
      · rw [hat2, if_pos ⟨rfl, rfl⟩, p6]
        exact pkL_cong (fun k hk => by rw [aAdd_lt (Nat.lt_of_lt_of_le hk hm8), if_pos rfl])
    · have hwn : w < aN A := Nat.lt_of_le_of_ne (Nat.le_of_lt_succ hw) e
      obtain ⟨n1, n2, n3, n4⟩ := aAdd_old (A := A) (σ := σ) hwn
      have h8 := (hW.2.2.2.2.2.2.1 w hwn).2.1
      have xw := x5 w hwn
      rw [old _ _ (by decide) e, old _ _ (by decide) e, old _ _ (by decide) e, old _ _ (by decide) e, hat2, if_neg (fun g => e g.2), n1, n2, n3, n4]
      refine ⟨xw.1, xw.2.1, xw.2.2.1, xw.2.2.2.1, xw.2.2.2.2.trans ?_⟩
      exact pkL_cong (fun k hk => by rw [aAdd_lt (Nat.lt_of_lt_of_le hk h8), if_neg e])
  · show q'.1 14 l = _ ∧ q'.1 15 l = _ ∧ q'.1 16 l = _
    rw [far 14 (by decide), far 15 (by decide), far 16 (by decide)]
    exact x6 l hl
  · show q'.1 17 _ = _
    rw [far 17 (by decide)]
    exact x7 l k hl hk
end AD2

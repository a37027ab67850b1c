/-! makeLine: both sides -/
section ML
variable {q : zM} {A : zT9} {hs : List zT9} {sn : Nat → Option zT9} {tx : List Nat}
theorem seek11 {l : Nat} (hX : zRX q 5 A) (hW : zWF A) (hl : l < aL A) : ∃ (f : Bool) (q' : zM), Ls_seek_114_5 q (l : Int) 1 1 = some (zb f, q') ∧ (∀ a, a < 114 ∨ 119 < a → q'.1 a = q.1 a) ∧ q'.2 = q.2 ∧ zXR_114 q' A (sS A l true true) f := seek_114 hX hW hl true true
theorem zGX_sk {q' : zM} (h : zGX q A hs sn tx) (h1 : ∀ a, a < 114 ∨ 119 < a → q'.1 a = q.1 a) (h2 : q'.2 = q.2) : zGX q' A hs sn tx := zGX_cells h (fun a h3 _ => ⟨h1 a (Or.inl h3), by rw [h2]⟩)
theorem zFX_sk {q' : zM} (h1 : ∀ a, a < 114 ∨ 119 < a → q'.1 a = q.1 a) : zFX q q' := fun a ha => h1 a (Or.inr (Nat.lt_of_lt_of_le (by decide) ha))
theorem zFX_trans {q q1 q2 : zM} (h1 : zFX q q1) (h2 : zFX q1 q2) : zFX q q2 := fun a ha => (h2 a ha).trans (h1 a ha)
/-- what makeLine() answers and leaves -/
def mlR (A B : zT9) (hs hs' : List zT9) (l : Nat) (r : Int) : Prop := ((∀ n e, gG A (sS A l true true) n 0 e = false) ∧ r = -5 ∧ B = A ∧ hs' = hs) ∨ ∃ n e, gM A (sS A l true true) n 0 e ∧ r = (n : Int) ∧ B = aPut A l n (rW A (sS A l true true) n e) ∧ hs' = pushH hs A
theorem mlR_det {A B B' : zT9} {hs h1 h2 : List zT9} {l : Nat} {r r' : Int} (hW : zWF A) (h : mlR A B hs h1 l r) (h' : mlR A B' hs h2 l r') : r = r' ∧ B = B' ∧ h1 = h2 := by
  rcases h with ⟨a1, a2, a3, a4⟩ | ⟨n, e, a1, a2, a3, a4⟩
  · rcases h' with ⟨b1, b2, b3, b4⟩ | ⟨n', e', b1, b2, b3, b4⟩
    · exact ⟨a2.trans b2.symm, a3.trans b3.symm, a4.trans b4.symm⟩
    · have := b1.1
      rw [a1] at this
      cases this
  · rcases h' with ⟨b1, b2, b3, b4⟩ | ⟨n', e', b1, b2, b3, b4⟩
    · have := a1.1
      rw [b1] at this
      cases this
    · obtain ⟨c1, c2⟩ := gM_unique hW (sS_ok A l true true) a1 b1
      subst c1
      subst c2
      exact ⟨a2.trans b2.symm, a3.trans b3.symm, a4.trans b4.symm⟩
theorem Ev_makeLine_in (h : zGX q A hs sn tx) (hk : zOK A hs sn tx) {l : Nat} (hl : l < aL A) : ∃ (r : Int) (q' : zM) (B : zT9) (hs' : List zT9), Ev_makeLine q (l : Int) = some (r, q') ∧ zGX q' B hs' sn tx ∧ zFX q q' ∧ mlR A B hs hs' l r := by
  have hW := hk.1
  have w8 := hW.2.2.2.2.2.1
  obtain ⟨f, q1, s1, s2, s3, s4⟩ := seek11 h.1 hW hl
  have g1 := zGX_sk h s2 s3
  have x1 := zFX_sk s2
  unfold Ev_makeLine
  rw [Po_has_in h.1 hW hl, Option.bind_some, if_neg one_ne, s1, Option.bind_some, wrap_zb]
  rcases s4 with ⟨f1, -, -, f4⟩ | ⟨f1, n, e, f2, f3, f4, f5⟩
  · rw [f1, if_pos (show zb false = 0 from rfl)]
    exact ⟨-5, q1, A, hs, rfl, g1, x1, Or.inl ⟨f4, rfl, rfl, rfl⟩⟩
  · have hle := gG_le hW (sS_ok A l true true) f2.1
    have wB := hW.2.2.1
    have n12 : n ≤ 12 := by clear f3 f4; omega
    obtain ⟨q2, r1, r2, r3⟩ := record_eq g1 hk
    have e5 : q2.1 114 5 = n := by rw [(r3 114 (Or.inr (by decide))).1]; exact f4
    have er : ∀ k, k < n → q2.1 119 k = rW A (sS A l true true) n e k := fun k hk => by rw [(r3 119 (Or.inr (by decide))).1]; exact f5 k hk
    obtain ⟨q3, t1, t2, t3, t4⟩ := put_X r2.1 hW hl n12 e5 er
    have hsz : Po_wordsIn q3 (l : Int) = some (n : Int) := by
      have := Po_wordsIn_eq t2 (aPut_wf hW (sS_ok A l true true) hl f2) (l := l) hl
      rw [aPut_sz, if_pos rfl] at this
      exact this
    rw [f1, if_neg (show ¬ zb true = 0 by decide), r1, Option.bind_some, t1, Option.bind_some, hsz, Option.bind_some]
    refine ⟨(n : Int), q3, _, _, rfl, zGX_mut r2 (fun a ha _ => ⟨t3 a (by clear f3 f4 e5; omega) (by clear f3 f4 e5; omega), by rw [t4]⟩) t2, zFX_trans x1 (fun a ha => ?_), Or.inr ⟨n, e, f2, rfl, rfl, rfl⟩⟩
    rw [t3 a (by clear f3 f4 e5; omega) (by clear f3 f4 e5; omega)]
    exact (r3 a (Or.inr (Nat.le_trans (by decide) ha))).1
theorem mlR_ok {A B : zT9} {hs hs' : List zT9} {l : Nat} {r : Int} (hk : zOK A hs sn tx) (hl : l < aL A) (h : mlR A B hs hs' l r) : zOK B hs' sn tx ∧ -2147483648 ≤ r ∧ r < 2147483648 := by
  have hW := hk.1
  have wB := hW.2.2.1
  rcases h with ⟨a1, a2, a3, a4⟩ | ⟨n, e, a1, a2, a3, a4⟩
  · rw [a2, a3, a4]
    exact ⟨hk, by decide, by decide⟩
  · have hle := gG_le hW (sS_ok A l true true) a1.1
    rw [a2, a3, a4]
    exact ⟨zOK_push hk (aPut_wf hW (sS_ok A l true true) hl a1), by omega, by omega⟩
end ML

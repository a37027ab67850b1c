/-! makeLine: both sides -/
section ML
variable {q : zM} {A : zT9} {hs : List zT9} {sn : Nat → Option zT9} {tx : List Nat}
theorem seek11 {l : Nat} (hX : zRX q 5 A) (hW : zWF A) (hl : l < aL A) : ∃ (f : Bool) (q' : zM), Ls_seek_114_5 q (l : Int) 1 1 = some (zb f, q') ∧ (∀ a, a < 114 ∨ 119 < a → q'.1 a = q.1 a) ∧ q'.2 = q.2 ∧ zXR_114 q' A (sS A l true true) f := seek_114 hX hW hl true true
theorem zGX_sk {q' : zM} (h : zGX q A hs sn tx) (h1 : ∀ a, a < 114 ∨ 119 < a → q'.1 a = q.1 a) (h2 : q'.2 = q.2) : zGX q' A hs sn tx := zGX_cells h (fun a h3 _ => ⟨h1 a (Or.inl h3), by rw [h2]⟩)
theorem zFX_sk {q' : zM} (h1 : ∀ a, a < 114 ∨ 119 < a → q'.1 a = q.1 a) : zFX q q' := fun a ha => h1 a (Or.inr (Nat.lt_of_lt_of_le (by decide) ha))
theorem zFX_trans {q q1 q2 : zM} (h1 : zFX q q1) (h2 : zFX q1 q2) : zFX q q2 := fun a ha => (h2 a ha).trans (h1 a ha)
theorem zGM_fs {q' : zM} (h : zGM q A hs sn tx) (hf : zFS q q') (h127 : q'.1 127 = q.1 127) : zGM q' A hs sn tx := zGM_cells h (fun a ha => by
  by_cases e : a = 127
  · rw [e, h127]
  · exact hf.1 a (by omega) e (by omega) (by omega) (by omega)) (hf.2.2 3 (by decide)) (hf.2.2 6 (by decide))
theorem zFM_fs {q' : zM} (hf : zFS q q') : zFM q q' := ⟨fun a ha => hf.1 a (by omega) (by omega) (by omega) (by omega) (by omega), hf.2.1⟩
/-- what makeLine() answers and leaves -/
def mlR (A B : zT9) (hs hs' : List zT9) (l : Nat) (r : Int) : Prop := ((∀ n e, gG A (sS A l true true) n 0 e = false) ∧ r = -5 ∧ B = A ∧ hs' = hs) ∨ ∃ n e, gM A (sS A l true true) n 0 e ∧ r = (n : Int) ∧ B = aPut A l n (rW A (sS A l true true) n e) ∧ hs' = pushH hs A
theorem mlR_det {A B B' : zT9} {hs h1 h2 : List zT9} {l : Nat} {r r' : Int} (hW : zWF A) (h : mlR A B hs h1 l r) (h' : mlR A B' hs h2 l r') : r = r' ∧ B = B' ∧ h1 = h2 := by
  rcases h with ⟨a1, a2, a3, a4⟩ | ⟨n, e, a1, a2, a3, a4⟩
  · rcases h' with ⟨b1, b2, b3, b4⟩ | ⟨n', e', b1, b2, b3, b4⟩
    · exact ⟨a2.trans b2.symm, a3.trans b3.symm, a4.trans b4.symm⟩
    · have := b1.1
      rw [a1] at this
      cases this
  · rcases h' with ⟨b1, b2, b3, b4⟩ | ⟨n', e', b1, b2, b3, b4⟩
    · have := a1.1
      rw [b1] at this
      cases this
    · obtain ⟨c1, c2⟩ := gM_unique hW (sS_ok A l true true) a1 b1
      subst c1
      subst c2
      exact ⟨a2.trans b2.symm, a3.trans b3.symm, a4.trans b4.symm⟩
theorem makeLine_out (hX : zRX q 5 A) (hM : zRM (q.1 127) A) (hW : zWF A) {v : Int} (hv : -2147483648 ≤ v ∧ v < 2147483648) (ho : ¬ (0 ≤ v ∧ v < aL A)) : Ev_makeLine q v = some (-1, q) ∧ Mo_makeLine q v = some (-1, q) := by
  constructor
  · unfold Ev_makeLine
    rw [Po_has_eq hX hW hv, Option.bind_some, if_neg ho, if_pos zero_eq]
  · unfold Mo_makeLine
    rw [Mo_noLine_eq hM hW hv, Option.bind_some, if_neg ho, if_neg one_ne]
theorem Ev_makeLine_in (h : zGX q A hs sn tx) (hk : zOK A hs sn tx) {l : Nat} (hl : l < aL A) : ∃ (r : Int) (q' : zM) (B : zT9) (hs' : List zT9), Ev_makeLine q (l : Int) = some (r, q') ∧ zGX q' B hs' sn tx ∧ zFX q q' ∧ mlR A B hs hs' l r := by
  have hW := hk.1
  have w8 := hW.2.2.2.2.2.1
  obtain ⟨f, q1, s1, s2, s3, s4⟩ := seek11 h.1 hW hl
  have g1 := zGX_sk h s2 s3
  have x1 := zFX_sk s2
  unfold Ev_makeLine
  rw [Po_has_in h.1 hW hl, Option.bind_some, if_neg one_ne, s1, Option.bind_some, wrap_zb]
  rcases s4 with ⟨f1, -, -, f4⟩ | ⟨f1, n, e, f2, f3, f4, f5⟩
  · rw [f1, if_pos (show zb false = 0 from rfl)]
    exact ⟨-5, q1, A, hs, rfl, g1, x1, Or.inl ⟨f4, rfl, rfl, rfl⟩⟩
  · have hle := gG_le hW (sS_ok A l true true) f2.1
    have wB := hW.2.2.1
    have n12 : n ≤ 12 := by clear f3 f4; omega
    obtain ⟨q2, r1, r2, r3⟩ := record_eq g1 hk
    have e5 : q2.1 114 5 = n := by rw [(r3 114 (Or.inr (by decide))).1]; exact f4
    have er : ∀ k, k < n → q2.1 119 k = rW A (sS A l true true) n e k := fun k hk => by rw [(r3 119 (Or.inr (by decide))).1]; exact f5 k hk
    obtain ⟨q3, t1, t2, t3, t4⟩ := put_X r2.1 hW hl n12 e5 er
    have hsz : Po_wordsIn q3 (l : Int) = some (n : Int) := by
      have := Po_wordsIn_eq t2 (aPut_wf hW (sS_ok A l true true) hl f2) (l := l) hl
      rw [aPut_sz, if_pos rfl] at this
      exact this
    rw [f1, if_neg (show ¬ zb true = 0 by decide), r1, Option.bind_some, t1, Option.bind_some, hsz, Option.bind_some]
    refine ⟨(n : Int), q3, _, _, rfl, zGX_mut r2 (fun a ha _ => ⟨t3 a (by clear f3 f4 e5; omega) (by clear f3 f4 e5; omega), by rw [t4]⟩) t2, zFX_trans x1 (fun a ha => ?_), Or.inr ⟨n, e, f2, rfl, rfl, rfl⟩⟩
    rw [t3 a (by clear f3 f4 e5; omega) (by clear f3 f4 e5; omega)]
    exact (r3 a (Or.inr (Nat.le_trans (by decide) ha))).1
theorem begin_fs (h : zGM q A hs sn tx) : zGM (qc q 127 0 128 0 244) A hs sn tx := zGM_cells h (fun a ha => funext fun k => by rw [qc_at, if_neg (by omega)]) (by rw [qc_at, if_neg (by omega)]) (by rw [qc_at, if_neg (by omega)])
theorem begin_fm (q : zM) : zFM q (qc q 127 0 128 0 244) := ⟨fun a ha => funext fun k => by rw [qc_at, if_neg (by omega)], rfl⟩
theorem zFM_trans {q q1 q2 : zM} (h1 : zFM q q1) (h2 : zFM q1 q2) : zFM q q2 := ⟨fun a ha => (h2.1 a ha).trans (h1.1 a ha), h2.2.trans h1.2⟩
/-- the end of an act of the reference that began with begin() -/
theorem done_fs (h : zGM q A hs sn tx) (hk : zOK A hs sn tx) {q1 : zM} {B : zT9} (hf : zFS (qc q 127 0 128 0 244) q1) (hB : zWF B) (h1 : zRM (q1.1 127) B) {v : Int} (hv : 0 ≤ v ∧ v < 2147483648) : ∃ q', Mo_done q1 v = some (v, q') ∧ zGM q' B (pushH hs A) sn tx ∧ zFM q q' := by
  have e126 : ∀ k, k < 14 → q1.1 126 k = q.1 126 k := fun k hk2 => by rw [hf.2.2 k hk2, qc_at, if_neg (fun g => absurd g.1 (by decide))]
  obtain ⟨q', r1, r2, r3, r4⟩ := zGM_done h hk (q1 := q1) hB h1 (fun k hk2 => by rw [hf.1 128 (by decide) (by decide) (by decide) (by decide) (by decide), qc_at, if_pos ⟨rfl, Nat.zero_le _, by omega⟩, Nat.sub_zero, Nat.zero_add]) (e126 6 (by decide)) (e126 3 (by decide)) (fun a ha => by
    rw [hf.1 a (by omega) (by omega) (by omega) (by omega) (by omega)]
    exact funext fun k => by rw [qc_at, if_neg (fun g => by omega)]) hv
  refine ⟨q', r1, r2, fun a ha => ?_, r3.trans hf.2.1⟩
  rw [r4 a ha, hf.1 a (by omega) (by omega) (by omega) (by omega) (by omega)]
  exact funext fun k => by rw [qc_at, if_neg (fun g => by omega)]
theorem Mo_makeLine_in (h : zGM q A hs sn tx) (hk : zOK A hs sn tx) {l : Nat} (hl : l < aL A) : ∃ (r : Int) (q' : zM) (B : zT9) (hs' : List zT9), Mo_makeLine q (l : Int) = some (r, q') ∧ zGM q' B hs' sn tx ∧ zFM q q' ∧ mlR A B hs hs' l r := by
  have hW := hk.1
  have w8 := hW.2.2.2.2.2.1
  have g1 := begin_fs h
  unfold Mo_makeLine
  rw [Mo_noLine_eq h.1 hW (by omega), Option.bind_some, if_pos (c := (0 : Int) ≤ (l : Int) ∧ (l : Int) < (aL A : Int)) (by omega), if_pos zero_eq, Mo_begin_eq, Option.bind_some]
  obtain ⟨q2, fs, hc⟩ := Mo_makes_eq g1.1 hW hl
  rcases hc with ⟨c1, c2, c3⟩ | ⟨n, e, c1, c2, c3⟩
  · rw [c1, Option.bind_some]
    have hd : Mo_done q2 (-5) = some (-5, q2) := by
      unfold Mo_done
      rw [if_pos (by decide)]
    dsimp only
    rw [hd, Option.bind_some]
    exact ⟨-5, q2, A, hs, rfl, zGM_fs g1 fs c2, zFM_trans (begin_fm q) (zFM_fs fs), Or.inl ⟨c3, rfl, rfl, rfl⟩⟩
  · have hle := gG_le hW (sS_ok A l true true) c1.1
    have wB := hW.2.2.1
    obtain ⟨q', r1, r2, r3⟩ := done_fs h hk fs (aPut_wf hW (sS_ok A l true true) hl c1) c3 (v := (n : Int)) (by omega)
    rw [c2, Option.bind_some]
    dsimp only
    rw [r1, Option.bind_some]
    exact ⟨(n : Int), q', _, _, rfl, r2, r3, Or.inr ⟨n, e, c1, rfl, rfl, rfl⟩⟩
theorem mlR_ok {A B : zT9} {hs hs' : List zT9} {l : Nat} {r : Int} (hk : zOK A hs sn tx) (hl : l < aL A) (h : mlR A B hs hs' l r) : zOK B hs' sn tx ∧ -2147483648 ≤ r ∧ r < 2147483648 := by
  have hW := hk.1
  have wB := hW.2.2.1
  rcases h with ⟨a1, a2, a3, a4⟩ | ⟨n, e, a1, a2, a3, a4⟩
  · rw [a2, a3, a4]
    exact ⟨hk, by decide, by decide⟩
  · have hle := gG_le hW (sS_ok A l true true) a1.1
    rw [a2, a3, a4]
    exact ⟨zOK_push hk (aPut_wf hW (sS_ok A l true true) hl a1), by omega, by omega⟩
end ML

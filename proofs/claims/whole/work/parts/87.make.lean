/-! make: both sides together -/
section MA
variable {A : zT9} {hs : List zT9} {sn : Nat → Option zT9} {tx : List Nat}
/-- the class puts a found row into a state that it has recorded -/
theorem put_step {q : zM} {B : zT9} {H : List zT9} {l n e : Nat} (h : zGX q B H sn tx) (hW : zWF B) (hl : l < aL B) (hg : gM B (sS B l true true) n 0 e) (h5 : q.1 114 5 = n) (hr : ∀ k, k < n → q.1 119 k = rW B (sS B l true true) n e k) : ∃ q', Ls_putInto q (l : Int) = some q' ∧ zGX q' (aPut B l n (rW B (sS B l true true) n e)) H sn tx ∧ zFX q q' := by
  have hle := gG_le hW (sS_ok B l true true) hg.1
  have wB := hW.2.2.1
  have n12 : n ≤ 12 := by clear h5; omega
  obtain ⟨q', t1, t2, t3, t4⟩ := put_X h.1 hW hl n12 h5 hr
  exact ⟨q', t1, zGX_mut h (fun a ha _ => ⟨t3 a (by clear h5; omega) (by clear h5; omega), by rw [t4]⟩) t2, fun a ha => t3 a (by clear h5; omega) (by clear h5; omega)⟩
theorem ar_ma {i L c : Nat} (h1 : i < L) (h2 : L ≤ 8) (h3 : c ≤ i) : wrap (i : Int) = i ∧ wrap (L : Int) = L ∧ (i : Int) < (L : Int) ∧ wrap (c : Int) = c ∧ ((c : Int) = 0 ↔ c = 0) := ⟨wrap_n (by omega), wrap_n (by omega), by omega, wrap_n (by omega), by omega⟩
theorem ar_sz {s : Nat} (h : s ≤ 12) : wrap (s : Int) = s ∧ ((s : Int) = 0 ↔ s = 0) ∧ (0 < (s : Int) ↔ 0 < s) := ⟨wrap_n (by omega), by omega, by omega⟩
theorem make_loop (hk : zOK A hs sn tx) (Kx Km : Int → Int → zM → Option (Int × zM)) : ∀ (d i n m cnt : Nat) (qx qm : zM) (B : zT9), i + d = aL B → d < n → d < m → zWF B → (cnt = 0 → B = A) → cnt ≤ i → zGX qx B (if cnt = 0 then hs else pushH hs A) sn tx → zRM (qm.1 127) B → ∃ (cnt' : Nat) (B' : zT9) (qx' qm' : zM), Ev_make_L4 Kx n (cnt : Int) (i : Int) qx = Kx (cnt' : Int) (aL B : Int) qx' ∧ Mo_make_L8 Km m (cnt : Int) (i : Int) qm = Km (cnt' : Int) (aL B : Int) qm' ∧ zWF B' ∧ (cnt' = 0 → B' = A) ∧ cnt' ≤ aL B ∧ zGX qx' B' (if cnt' = 0 then hs else pushH hs A) sn tx ∧ zFX qx qx' ∧ zRM (qm'.1 127) B' ∧ zFS qm qm' := by
  intro d
  induction d with
  | zero =>
    intro i n m cnt qx qm B hi hn hm hW hc hle hX hM
    obtain ⟨n, rfl⟩ : ∃ m, n = m + 1 := ⟨n - 1, by omega⟩
    obtain ⟨m, rfl⟩ : ∃ k, m = k + 1 := ⟨m - 1, by omega⟩
    have ei : i = aL B := by omega
    refine ⟨cnt, B, qx, qm, ?_, ?_, hW, hc, by omega, hX, fun a _ => rfl, hM, fun a _ _ _ _ _ => rfl, rfl, fun k _ => rfl⟩
    · rw [Ev_make_L4, show Po_size qx = some (aL B : Int) from congrArg some hX.1.2.2.2.1, Option.bind_some, ei, if_neg (Int.lt_irrefl _)]
    · rw [Mo_make_L8, show qm.1 127 3 = (aL B : Int) from hM.2.2.2.1, ei, if_neg (Int.lt_irrefl _)]
  | succ d ih =>
    intro i n m cnt qx qm B hi hn hm hW hc hle hX hM
    obtain ⟨n, rfl⟩ : ∃ m, n = m + 1 := ⟨n - 1, by omega⟩
    obtain ⟨m, rfl⟩ : ∃ k, m = k + 1 := ⟨m - 1, by omega⟩
    have w8 := hW.2.2.2.2.2.1
    have hil : i < aL B := by omega
    have i8 : i < 8 := by omega
    obtain ⟨a1, a2, a3, a4, a5⟩ := ar_ma hil w8 hle
    obtain ⟨b1, b2, b3⟩ := ar_sz (hW.2.2.2.2.2.2.2.2.1 i).1
    have x0 : Po_size qx = some (aL B : Int) := congrArg some hX.1.2.2.2.1
    have m0 : qm.1 127 3 = (aL B : Int) := hM.2.2.2.1
    have x1 := Po_wordsIn_eq hX.1 hW hil
    have m1 := Mo_size_eq hM i8
    have hi' : i + 1 + d = aL B := by clear m0 a1 a2 a3 a4 a5 b1 b2 b3; omega
    rw [Ev_make_L4, x0, Option.bind_some, a1, a2, if_pos a3, x1, Option.bind_some, b1, Mo_make_L8, m0, a1, a2, if_pos a3, m1, Option.bind_some, b1]
    clear x0 m0 x1 m1
    by_cases c0 : aSz B i = 0
    · rw [if_pos (b2.mpr c0), if_pos (b2.mpr c0)]
      obtain ⟨f, q1, s1, s2, s3, s4⟩ := seek11 hX.1 hW hil
      have g1 := zGX_sk hX s2 s3
      have fx1 := zFX_sk s2
      obtain ⟨p1, fs, hcm⟩ := Mo_makes_eq hM hW hil
      rw [s1, Option.bind_some, wrap_zb]
      rcases s4 with ⟨f1, -, -, f4⟩ | ⟨f1, k, e, f2, f3, f4, f5⟩
      · rcases hcm with ⟨y1, y2, y3⟩ | ⟨k', e', y1, y2, y3⟩
        · rw [f1, if_pos (show zb false = 0 from rfl), y1, Option.bind_some, if_neg (c := (0 : Int) < wrap (-5)) (by decide)]
          have hM1 : zRM (p1.1 127) B := by rw [y2]; exact hM
          obtain ⟨cnt', B', qx', qm', r1, r2, r3, r4, r5, r6, r7, r8, r9⟩ := ih (i + 1) n m cnt q1 p1 B hi' (Nat.lt_of_succ_lt_succ hn) (Nat.lt_of_succ_lt_succ hm) hW hc (Nat.le_succ_of_le hle) g1 hM1
          exact ⟨cnt', B', qx', qm', r1, by rw [← r2]; rfl, r3, r4, r5, r6, zFX_trans fx1 r7, r8, zFS_trans fs r9⟩
        · have := y1.1
          rw [f4] at this
          cases this
      · rcases hcm with ⟨y1, y2, y3⟩ | ⟨k', e', y1, y2, y3⟩
        · have := f2.1
          rw [y3] at this
          cases this
        · obtain ⟨u1, u2⟩ := gM_unique hW (sS_ok B i true true) y1 f2
          subst u1
          subst u2
          have kp := gM_pos hW y1
          have kle := (gG_le hW (sS_ok B i true true) y1.1).1
          have wB := hW.2.2.1
          have hW1 := aPut_wf hW (sS_ok B i true true) hil y1
          obtain ⟨k1, k2, k3⟩ := ar_sz (s := k') (by clear f3 f4 a1 a2 a3 a4 a5 b1 b2 b3; omega)
          rw [f1, if_neg (show ¬ zb true = 0 by decide), y2, Option.bind_some, k1, if_pos (c := (0 : Int) < (k' : Int)) (k3.mpr kp), a4]
          by_cases cc : cnt = 0
          · have hBA := hc cc
            rw [if_pos cc] at g1
            rw [if_pos (a5.mpr cc)]
            have g1' : zGX q1 A hs sn tx := by rw [← hBA]; exact g1
            obtain ⟨q2, t1, t2, t3⟩ := record_eq g1' hk
            have e5 : q2.1 114 5 = k' := by rw [(t3 114 (Or.inr (by decide))).1]; exact f4
            have er : ∀ j, j < k' → q2.1 119 j = rW B (sS B i true true) k' e' j := fun j hj => by rw [(t3 119 (Or.inr (by decide))).1]; exact f5 j hj
            have t2' : zGX q2 B (pushH hs A) sn tx := by rw [hBA]; exact t2
            obtain ⟨q3, v1, v2, v3⟩ := put_step t2' hW hil y1 e5 er
            rw [t1, Option.bind_some, v1, Option.bind_some]
            obtain ⟨cnt', B', qx', qm', r1, r2, r3, r4, r5, r6, r7, r8, r9⟩ := ih (i + 1) n m (cnt + 1) q3 p1 (aPut B i k' (rW B (sS B i true true) k' e')) hi' (Nat.lt_of_succ_lt_succ hn) (Nat.lt_of_succ_lt_succ hm) hW1 (fun h => absurd h (Nat.succ_ne_zero _)) (Nat.succ_le_succ hle) (by rw [if_neg (Nat.succ_ne_zero _)]; exact v2) y3
            exact ⟨cnt', B', qx', qm', r1, r2, r3, r4, r5, r6, zFX_trans fx1 (zFX_trans (fun a ha => (t3 a (Or.inr (Nat.le_trans (by decide) ha))).1) (zFX_trans v3 r7)), r8, zFS_trans fs r9⟩
          · rw [if_neg cc] at g1
            rw [if_neg (fun h => cc (a5.mp h))]
            obtain ⟨q3, v1, v2, v3⟩ := put_step g1 hW hil y1 f4 f5
            rw [v1, Option.bind_some]
            obtain ⟨cnt', B', qx', qm', r1, r2, r3, r4, r5, r6, r7, r8, r9⟩ := ih (i + 1) n m (cnt + 1) q3 p1 (aPut B i k' (rW B (sS B i true true) k' e')) hi' (Nat.lt_of_succ_lt_succ hn) (Nat.lt_of_succ_lt_succ hm) hW1 (fun h => absurd h (Nat.succ_ne_zero _)) (Nat.succ_le_succ hle) (by rw [if_neg (Nat.succ_ne_zero _)]; exact v2) y3
            exact ⟨cnt', B', qx', qm', r1, r2, r3, r4, r5, r6, zFX_trans fx1 (zFX_trans v3 r7), r8, zFS_trans fs r9⟩
    · rw [if_neg (fun h => c0 (b2.mp h)), if_neg (fun h => c0 (b2.mp h))]
      obtain ⟨cnt', B', qx', qm', r1, r2, r3, r4, r5, r6, r7, r8, r9⟩ := ih (i + 1) n m cnt qx qm B hi' (Nat.lt_of_succ_lt_succ hn) (Nat.lt_of_succ_lt_succ hm) hW hc (Nat.le_succ_of_le hle) hX hM
      exact ⟨cnt', B', qx', qm', r1, by rw [← r2]; rfl, r3, r4, r5, r6, r7, r8, r9⟩
theorem make_both {qx qm : zM} (hX : zGX qx A hs sn tx) (hM : zGM qm A hs sn tx) (hk : zOK A hs sn tx) : ∃ (r : Int) (qx' qm' : zM) (B : zT9) (hs' : List zT9), Ev_make qx = some (r, qx') ∧ zGX qx' B hs' sn tx ∧ zFX qx qx' ∧ Mo_make qm = some (r, qm') ∧ zGM qm' B hs' sn tx ∧ zFM qm qm' ∧ zOK B hs' sn tx := by
  have hW := hk.1
  have w8 := hW.2.2.2.2.2.1
  have g1 := begin_fs hM
  obtain ⟨cnt, B, qx', qm', r1, r2, r3, r4, r5, r6, r7, r8, r9⟩ := make_loop hk (fun v1_11 v2_12 q_13 => if wrap v1_11 = (0 : Int) then some ((-5 : Int), q_13) else some (v1_11, q_13)) (fun v1_8 v2_9 q_10 => if wrap v1_8 = (0 : Int) then some ((-5 : Int), q_10) else (Mo_done q_10 v1_8).bind fun r_12 => some (r_12.1, r_12.2)) (aL A) 0 5000 5000 0 qx (qc qm 127 0 128 0 244) A (Nat.zero_add _) (by omega) (by omega) hW (fun _ => rfl) (Nat.le_refl _) (by rw [if_pos rfl]; exact hX) g1.1
  have c8 : cnt ≤ 8 := Nat.le_trans r5 w8
  obtain ⟨k1, k2, k3⟩ := ar_sz (s := cnt) (Nat.le_trans c8 (by decide))
  have ex : Ev_make qx = if wrap (cnt : Int) = (0 : Int) then some ((-5 : Int), qx') else some ((cnt : Int), qx') := r1
  have em : Mo_make qm = if wrap (cnt : Int) = (0 : Int) then some ((-5 : Int), qm') else (Mo_done qm' (cnt : Int)).bind fun r_12 => some (r_12.1, r_12.2) := by
    unfold Mo_make
    rw [Mo_begin_eq, Option.bind_some]
    exact r2
  rw [k1] at ex em
  by_cases c : cnt = 0
  · have hBA := r4 c
    rw [if_pos (k2.mpr c)] at ex em
    rw [if_pos c] at r6
    subst hBA
    have e127 : zGM qm' B hs sn tx := by
      unfold zGM at hM ⊢
      refine ⟨r8, ?_⟩
      rw [r9.1 132 (by decide) (by decide) (by decide) (by decide) (by decide), r9.1 129 (by decide) (by decide) (by decide) (by decide) (by decide), r9.1 130 (by decide) (by decide) (by decide) (by decide) (by decide), r9.1 131 (by decide) (by decide) (by decide) (by decide) (by decide), r9.2.2 3 (by decide), r9.2.2 6 (by decide)]
      exact g1.2
    exact ⟨-5, qx', qm', B, hs, ex, r6, r7, em, e127, zFM_trans (begin_fm qm) (zFM_fs r9), hk⟩
  · rw [if_neg (fun h => c (k2.mp h))] at ex em
    rw [if_neg c] at r6
    obtain ⟨q', t1, t2, t3⟩ := done_fs hM hk r9 r3 r8 (v := (cnt : Int)) (by clear k1 k2 k3; omega)
    rw [t1, Option.bind_some] at em
    exact ⟨(cnt : Int), qx', q', B, pushH hs A, ex, r6, r7, em, t2, t3, zOK_push hk r3⟩
end MA

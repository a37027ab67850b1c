/-! addWord: what it answers and leaves; the class -/
def awR (A : zT9) (hs : List zT9) (tx : List Nat) : Int × zT9 × List zT9 := match wres (fun i => tx.getD i 0) tx.length 0 zW0 with
  | .inl j => (-100 - (j : Int), A, hs)
  | .inr σ => if fstTo (isW A σ.2.1 σ.2.2.2.2.2) (aN A) < aN A then (-4, A, hs) else if aN A = 40 then (-3, A, hs) else ((aN A : Int), aAdd A σ, pushH hs A)
theorem pushH_mem {h : List zT9} {A B : zT9} (hb : B ∈ pushH h A) : B ∈ h ∨ B = A := by
  unfold pushH at hb
  rcases List.mem_append.mp hb with g | g
  · left
    split at g
    · exact List.mem_of_mem_tail g
    · exact g
  · right
    exact List.mem_singleton.mp g
theorem zOK_push {A B : zT9} {hs : List zT9} {sn : Nat → Option zT9} {tx : List Nat} (h : zOK A hs sn tx) (hB : zWF B) : zOK B (pushH hs A) sn tx := by
  obtain ⟨k1, k2, k3, k4, k5, k6⟩ := h
  refine ⟨hB, (pushH_len A k2).1, fun C hC => ?_, k4, k5, k6⟩
  rcases pushH_mem hC with g | g
  · exact k3 C g
  · rw [g]; exact k1
theorem awR_ok {A : zT9} {hs : List zT9} {sn : Nat → Option zT9} {tx : List Nat} (h : zOK A hs sn tx) : zOK (awR A hs tx).2.1 (awR A hs tx).2.2 sn tx ∧ -2147483648 ≤ (awR A hs tx).1 ∧ (awR A hs tx).1 < 2147483648 := by
  have hl := h.2.2.2.2.1
  have hN := h.1.1
  unfold awR
  cases hw : wres (fun i => tx.getD i 0) tx.length 0 zW0 with
  | inl j =>
    have := wres_le (Nat.zero_le _) hw
    exact ⟨h, by dsimp only; omega, by dsimp only; omega⟩
  | inr σ =>
    obtain ⟨hI, hp⟩ := wres_I wI0 hw
    dsimp only
    by_cases c1 : fstTo (isW A σ.2.1 σ.2.2.2.2.2) (aN A) < aN A
    · rw [if_pos c1]
      exact ⟨h, by dsimp only; decide, by dsimp only; decide⟩
    · rw [if_neg c1]
      by_cases c2 : aN A = 40
      · rw [if_pos c2]
        exact ⟨h, by dsimp only; decide, by dsimp only; decide⟩
      · rw [if_neg c2]
        exact ⟨zOK_push h (aAdd_wf h.1 (by omega) hI (by omega)), by dsimp only; omega, by dsimp only; omega⟩
section AW
variable {q : zM} {A : zT9} {hs : List zT9} {sn : Nat → Option zT9} {tx : List Nat}
theorem Ev_addWord_eq (h : zGX q A hs sn tx) (hk : zOK A hs sn tx) : ∃ q', Ev_addWord q = some ((awR A hs tx).1, q') ∧ zGX q' (awR A hs tx).2.1 (awR A hs tx).2.2 sn tx ∧ zFX q q' := by
  have hl := hk.2.2.2.2.1
  have hW := hk.1
  have hN := hW.1
  obtain ⟨q1, f1, r1⟩ := Wr_readWord_eq hl (tx_rng hk) h.2.1 h.2.2.1
  have g1 : zGX q1 A hs sn tx := zGX_cells h (fun a _ h4 => f1 a h4)
  have x1 : zFX q q1 := fun a ha => (f1 a (by omega)).1
  unfold Ev_addWord awR
  rcases r1 with ⟨j, e1, e2⟩ | ⟨σ, e1, e3, e2⟩
  · have hj := wres_le (Nat.zero_le _) e1
    rw [e1, e2, Option.bind_some, wrap_n (n := j) (by omega), if_neg (by omega)]
    exact ⟨q1, rfl, g1, x1⟩
  · obtain ⟨hI, hp⟩ := wres_I wI0 e1
    have hg : ∀ i, i < σ.2.1 → 1 ≤ σ.2.2.2.2.2 i ∧ σ.2.2.2.2.2 i < 256 := fun i hi => by
      have := hI.2.2.2.2.2.2.2.2 i hi
      omega
    have hix := Ws_indexOf_eq g1.1 hW (m := σ.2.1) (g := σ.2.2.2.2.2) hI.2.1 hg
    have hp6 : q1.2 4 1 = pkL σ.2.2.2.2.2 σ.2.1 := e3.2.2.2.2.2
    have h6 : q1.1 6 0 = aN A := g1.1.1
    rw [e1, e2, Option.bind_some, if_pos wl_m1]
    dsimp only
    rw [hp6, hix, Option.bind_some]
    by_cases c1 : fstTo (isW A σ.2.1 σ.2.2.2.2.2) (aN A) < aN A
    · rw [if_pos c1, if_pos c1, wrap_n (by clear h6 hp6; omega), if_neg (by clear h6 hp6; omega)]
      exact ⟨q1, rfl, g1, x1⟩
    · rw [if_neg c1, if_neg c1, if_pos (by decide)]
      unfold Ws_isFull
      rw [h6]
      clear h6 hp6
      rw [wrap_n (n := aN A) (by omega)]
      by_cases c2 : aN A = 40
      · rw [if_neg (c := (aN A : Int) < 40) (by omega), if_pos c2, Option.bind_some, if_neg one_ne]
        exact ⟨q1, rfl, g1, x1⟩
      · rw [if_pos (c := (aN A : Int) < 40) (by omega), if_neg c2, Option.bind_some, if_pos zero_eq]
        obtain ⟨q2, s1, s2, s3⟩ := record_eq g1 hk
        have s4 := s3 4 (Or.inl (by decide))
        have wx2 : zWX q2 σ := by
          unfold zWX
          rw [s4.1, s4.2]
          exact e3
        obtain ⟨q3, t1, t2, t3⟩ := Ws_append_eq s2.1 hW (by omega) wx2 hI
        have h63 : q3.1 6 0 = ((aN A + 1 : Nat) : Int) := t2.1
        unfold Ws_size
        rw [s1, Option.bind_some, t1, Option.bind_some, Option.bind_some, h63]
        refine ⟨q3, ?_, zGX_mut s2 (fun a ha _ => t3 a ha) t2, fun a ha => ?_⟩
        · exact congrArg (fun z => some (z, q3)) (by clear h63; omega)
        · rw [(t3 a (Or.inr (Nat.lt_of_lt_of_le (by decide) ha))).1, (s3 a (Or.inr (Nat.le_trans (by decide) ha))).1]
          exact x1 a ha
end AW

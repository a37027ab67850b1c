/-! the class's history and snapshots -/
theorem wrem5 : ∀ k : Fin 12, wrem (k.val : Int) (5 : Int) = ((k.val % 5 : Nat) : Int) := by decide
/-- the class's cells hold the state, the history, the snapshots and the text -/
def zGX (q : zM) (A : zT9) (hs : List zT9) (sn : Nat → Option zT9) (tx : List Nat) : Prop :=
  zRX q 5 A ∧ q.1 2 1 = tx.length ∧ (∀ i, i < tx.length → q.1 3 i = tx.getD i 0) ∧ (∃ o : Nat, o < 5 ∧ q.1 18 1 = o ∧ q.1 18 2 = hs.length ∧ ∀ j, j < hs.length → zRX q (20 + 13 * ((o + j) % 5)) (hs.getD j zA0)) ∧ ∀ i, i < 2 → (q.1 87 i = if (sn i).isSome then 1 else 0) ∧ ∀ A', sn i = some A' → zRX q (88 + 13 * i) A'
/-- nothing from the reference's cells on has changed -/
def zFX (q q' : zM) : Prop := ∀ a, 126 ≤ a → q'.1 a = q.1 a
section HX
variable {q : zM} {A : zT9} {hs : List zT9} {sn : Nat → Option zT9} {tx : List Nat}
theorem slotOf_eq {o n : Nat} (ho : q.1 18 1 = o) (hn : o + n < 12) : Hi_slotOf q (n : Int) = some (((o + n) % 5 : Nat) : Int) := by
  unfold Hi_slotOf
  rw [ho, show ((o : Int) + (n : Int)) = ((o + n : Nat) : Int) by omega, wrem5 ⟨o + n, hn⟩]
theorem record_raw {o n : Nat} (ho : q.1 18 1 = o) (ho5 : o < 5) (hn : q.1 18 2 = n) (hn5 : n ≤ 5) : Hi_record q = some (if n < 5 then qs (stCp q 5 (20 + 13 * ((o + n) % 5))) 18 2 ((n : Int) + 1) else qs (stCp q 5 (20 + 13 * ((o + n) % 5))) 18 1 (((o + 1) % 5 : Nat) : Int)) := by
  have hc : (o + n) % 5 < 5 := Nat.mod_lt _ (by decide)
  unfold Hi_record
  rw [hn, slotOf_eq ho (by omega), Option.bind_some, wrap_n (by omega)]
  have fr : ∀ c, c < 5 → (stCp q 5 (20 + 13 * c)).1 18 = q.1 18 := fun c hc => (stCp_fr q (by omega)).1
  have fin : ∀ c, c < 5 → (if wrap ((stCp q 5 (20 + 13 * c)).1 18 2) < (5 : Int) then some (qs (stCp q 5 (20 + 13 * c)) 18 2 (((stCp q 5 (20 + 13 * c)).1 18 2) + (1 : Int))) else (Hi_slotOf (stCp q 5 (20 + 13 * c)) (1 : Int)).bind fun r => some (qs (stCp q 5 (20 + 13 * c)) 18 1 r)) = some (if n < 5 then qs (stCp q 5 (20 + 13 * c)) 18 2 ((n : Int) + 1) else qs (stCp q 5 (20 + 13 * c)) 18 1 (((o + 1) % 5 : Nat) : Int)) := by
    intro c hc
    rw [fr c hc, hn, wrap_n (by omega)]
    by_cases h5 : n < 5
    · rw [if_pos (by omega), if_pos h5]
    · rw [if_neg (by omega), if_neg h5, show (1 : Int) = ((1 : Nat) : Int) from rfl, slotOf_eq (o := o) (by rw [fr c hc, ho]) (by omega)]
      rfl
  generalize (o + n) % 5 = c at hc
  match c, hc with
  | 0, _ => rw [if_pos (by decide), St_copyFrom_20_5_eq, Option.bind_some]; exact fin 0 (by omega)
  | 1, _ => rw [if_neg (by decide), if_pos (by decide), St_copyFrom_33_5_eq, Option.bind_some]; exact fin 1 (by omega)
  | 2, _ => rw [if_neg (by decide), if_neg (by decide), if_pos (by decide), St_copyFrom_46_5_eq, Option.bind_some]; exact fin 2 (by omega)
  | 3, _ => rw [if_neg (by decide), if_neg (by decide), if_neg (by decide), if_pos (by decide), St_copyFrom_59_5_eq, Option.bind_some]; exact fin 3 (by omega)
  | 4, _ => rw [if_neg (by decide), if_neg (by decide), if_neg (by decide), if_neg (by decide), if_pos (by decide), St_copyFrom_72_5_eq, Option.bind_some]; exact fin 4 (by omega)
theorem record_eq (h : zGX q A hs sn tx) (hk : zOK A hs sn tx) : ∃ q', Hi_record q = some q' ∧ zGX q' A (pushH hs A) sn tx ∧ (∀ a, a < 18 ∨ 85 ≤ a → q'.1 a = q.1 a ∧ q'.2 a = q.2 a) := by
  obtain ⟨k1, k2, k3, k4, -⟩ := hk
  obtain ⟨g1, g2, g3, ⟨o, g4, g5, g6, g7⟩, g8⟩ := h
  have hc : (o + hs.length) % 5 < 5 := Nat.mod_lt _ (by decide)
  rw [record_raw g5 g4 g6 k2]
  have fr : ∀ a, (a < 20 + 13 * ((o + hs.length) % 5) ∨ 20 + 13 * ((o + hs.length) % 5) + 12 < a) → (stCp q 5 (20 + 13 * ((o + hs.length) % 5))).1 a = q.1 a ∧ (stCp q 5 (20 + 13 * ((o + hs.length) % 5))).2 a = q.2 a := fun a ha => stCp_fr q ha
  have rx := stCp_rx (q := q) (s := 5) (d := 20 + 13 * ((o + hs.length) % 5)) (by omega) k1 g1
  generalize hr : stCp q 5 (20 + 13 * ((o + hs.length) % 5)) = r at fr rx
  by_cases h5 : hs.length < 5
  · rw [if_pos h5]
    have hp : pushH hs A = hs ++ [A] := by unfold pushH; rw [if_neg (by omega)]
    have f2 : ∀ a, a ≠ 18 → (qs r 18 2 ((hs.length : Int) + 1)).1 a = r.1 a := fun a ha => funext fun k => by rw [qs_at, if_neg (by omega)]
    have rr : ∀ {s : Nat} {B : zT9}, s + 12 < 18 ∨ 18 < s → zRX r s B → zRX (qs r 18 2 ((hs.length : Int) + 1)) s B := fun hs' hb => zRX_congr (fun a h1 h2 => ⟨f2 a (by omega), rfl⟩) hb
    have rq : ∀ {s : Nat} {B : zT9}, (s + 12 < 20 + 13 * ((o + hs.length) % 5) ∨ 20 + 13 * ((o + hs.length) % 5) + 12 < s) → zRX q s B → zRX r s B := fun hs' hb => zRX_congr (fun a h1 h2 => fr a (by omega)) hb
    refine ⟨_, rfl, ⟨rr (by omega) (rq (by omega) g1), ?_, fun i hi => ?_, ⟨o, g4, ?_, ?_, fun j hj => ?_⟩, fun i hi => ⟨?_, fun A' hA => rr (by omega) (rq (by omega) ((g8 i hi).2 A' hA))⟩⟩, fun a ha => ?_⟩
    · rw [f2 2 (by omega), (fr 2 (by omega)).1]; exact g2
    · rw [f2 3 (by omega), (fr 3 (by omega)).1]; exact g3 i hi
    · rw [qs_at, if_neg (by omega), (fr 18 (by omega)).1]; exact g5
    · rw [qs_at, if_pos ⟨rfl, rfl⟩, hp]; simp
    · rw [hp, List.length_append, List.length_singleton] at hj
      rcases Nat.lt_or_ge j hs.length with q4 | q4
      · have eg : (pushH hs A).getD j zA0 = hs.getD j zA0 := by
          rw [hp, List.getD_eq_getElem?_getD, List.getD_eq_getElem?_getD, List.getElem?_append_left q4]
        rw [eg]
        exact rr (by omega) (rq (by omega) (g7 j q4))
      · have ej : j = hs.length := by omega
        subst ej
        have eg : (pushH hs A).getD hs.length zA0 = A := by
          rw [hp, List.getD_eq_getElem?_getD, List.getElem?_append_right (Nat.le_refl _)]
          simp
        rw [eg]
        exact rr (by omega) rx
    · rw [f2 87 (by omega), (fr 87 (by omega)).1]; exact (g8 i hi).1
    · rw [f2 a (by omega)]
      exact fr a (by omega)
  · rw [if_neg h5]
    have h55 : hs.length = 5 := by omega
    have hp : pushH hs A = hs.tail ++ [A] := by unfold pushH; rw [if_pos h55]
    have f2 : ∀ a, a ≠ 18 → (qs r 18 1 (((o + 1) % 5 : Nat) : Int)).1 a = r.1 a := fun a ha => funext fun k => by rw [qs_at, if_neg (by omega)]
    have rr : ∀ {s : Nat} {B : zT9}, s + 12 < 18 ∨ 18 < s → zRX r s B → zRX (qs r 18 1 (((o + 1) % 5 : Nat) : Int)) s B := fun hs' hb => zRX_congr (fun a h1 h2 => ⟨f2 a (by omega), rfl⟩) hb
    have rq : ∀ {s : Nat} {B : zT9}, (s + 12 < 20 + 13 * ((o + hs.length) % 5) ∨ 20 + 13 * ((o + hs.length) % 5) + 12 < s) → zRX q s B → zRX r s B := fun hs' hb => zRX_congr (fun a h1 h2 => fr a (by omega)) hb
    refine ⟨_, rfl, ⟨rr (by omega) (rq (by omega) g1), ?_, fun i hi => ?_, ⟨(o + 1) % 5, by omega, ?_, ?_, fun j hj => ?_⟩, fun i hi => ⟨?_, fun A' hA => rr (by omega) (rq (by omega) ((g8 i hi).2 A' hA))⟩⟩, fun a ha => ?_⟩
    · rw [f2 2 (by omega), (fr 2 (by omega)).1]; exact g2
    · rw [f2 3 (by omega), (fr 3 (by omega)).1]; exact g3 i hi
    · rw [qs_at, if_pos ⟨rfl, rfl⟩]
    · rw [qs_at, if_neg (by omega), (fr 18 (by omega)).1, g6, hp]; simp; omega
    · rw [hp, List.length_append, List.length_singleton, List.length_tail] at hj
      rcases Nat.lt_or_ge j 4 with q4 | q4
      · have eg : (pushH hs A).getD j zA0 = hs.getD (j + 1) zA0 := by
          rw [hp, List.getD_eq_getElem?_getD, List.getD_eq_getElem?_getD, List.getElem?_append_left (by simp; omega), List.getElem?_tail]
        rw [eg, show ((o + 1) % 5 + j) % 5 = (o + (j + 1)) % 5 by omega]
        exact rr (by omega) (rq (by omega) (g7 (j + 1) (by omega)))
      · have ej : j = 4 := by omega
        subst ej
        have eg : (pushH hs A).getD 4 zA0 = A := by
          rw [hp, List.getD_eq_getElem?_getD, List.getElem?_append_right (by simp; omega)]
          simp [h55]
        rw [eg, show ((o + 1) % 5 + 4) % 5 = (o + hs.length) % 5 by omega]
        exact rr (by omega) rx
    · rw [f2 87 (by omega), (fr 87 (by omega)).1]; exact (g8 i hi).1
    · rw [f2 a (by omega)]
      exact fr a (by omega)
end HX

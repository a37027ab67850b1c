/-! copies of cells; the reference's history and snapshots -/
theorem zM_ext {q q' : zM} (h1 : ∀ a k, q.1 a k = q'.1 a k) (h2 : ∀ a k, q.2 a k = q'.2 a k) : q = q' := Prod.ext (funext fun a => funext fun k => h1 a k) (funext fun a => funext fun k => h2 a k)
theorem qc_zero (q : zM) (o sp d dp : Nat) : qc q o sp d dp 0 = q := by
  refine zM_ext (fun a k => ?_) (fun a k => rfl)
  show cp2 q.1 o sp d dp 0 a k = _
  unfold cp2
  rw [if_neg (by omega)]
theorem qc_at (q : zM) (o sp d dp n a k : Nat) : (qc q o sp d dp n).1 a k = if a = d ∧ dp ≤ k ∧ k < dp + n then q.1 o (sp + (k - dp)) else q.1 a k := rfl
theorem qs_at (q : zM) (o k : Nat) (v : Int) (a j : Nat) : (qs q o k v).1 a j = if a = o ∧ j = k then v else q.1 a j := rfl
theorem qc_step (q : zM) {o sp d dp i : Nat} (h : o ≠ d ∨ dp ≤ sp) : qs (qc q o sp d dp i) d (dp + i) ((qc q o sp d dp i).1 o (sp + i)) = qc q o sp d dp (i + 1) := by
  refine zM_ext (fun a k => ?_) (fun a k => rfl)
  rw [qs_at, qc_at, qc_at, qc_at, if_neg (c := o = d ∧ dp ≤ sp + i ∧ sp + i < dp + i) (by omega)]
  by_cases h1 : a = d ∧ k = dp + i
  · rw [if_pos h1, if_pos (by omega), h1.2, show dp + i - dp = i by omega]
  · rw [if_neg h1]
    by_cases h2 : a = d ∧ dp ≤ k ∧ k < dp + i
    · rw [if_pos h2, if_pos (by omega)]
    · rw [if_neg h2, if_neg (by omega)]
theorem zRM_congr {r r' : Nat → Int} {A : zT9} (hW : zWF A) (h : ∀ k, k < 244 → r' k = r k) (hr : zRM r A) : zRM r' A := by
  have hN := hW.1
  have hL := hW.2.2.2.2.2.1
  obtain ⟨a1, a2, a3, a4, a5, a6, a7, a8⟩ := hr
  refine ⟨by rw [h _ (by omega)]; exact a1, by rw [h _ (by omega)]; exact a2, by rw [h _ (by omega)]; exact a3, by rw [h _ (by omega)]; exact a4, fun w hw => ?_, fun l hl => ?_, fun l hl => ?_, fun l k hl hk => ?_⟩
  · rw [h _ (by omega), h _ (by omega), h _ (by omega)]; exact a5 w hw
  · rw [h _ (by omega), h _ (by omega)]; exact a6 l hl
  · rw [h _ (by omega)]; exact a7 l hl
  · have hs := (hW.2.2.2.2.2.2.2.2.1 l).1
    rw [h _ (by omega)]; exact a8 l k hl hk
def zA0 : zT9 := fun _ _ => 0
/-- the history with one more state -/
def pushH (h : List zT9) (A : zT9) : List zT9 := (if h.length = 5 then h.tail else h) ++ [A]
theorem pushH_len {h : List zT9} (A : zT9) (hl : h.length ≤ 5) : (pushH h A).length ≤ 5 ∧ (pushH h A).length = (if h.length = 5 then 5 else h.length + 1) := by
  unfold pushH
  split <;> simp <;> omega
/-- the reference's cells hold the state, the history, the snapshots and the text -/
def zGM (q : zM) (A : zT9) (hs : List zT9) (sn : Nat → Option zT9) (tx : List Nat) : Prop :=
  zRM (q.1 127) A ∧ q.1 126 6 = tx.length ∧ (∀ i, i < tx.length → q.1 132 i = tx.getD i 0) ∧ q.1 126 3 = hs.length ∧ (∀ j, j < hs.length → zRM (fun k => q.1 129 (244 * j + k)) (hs.getD j zA0)) ∧ ∀ i, i < 2 → (q.1 131 i = if (sn i).isSome then 1 else 0) ∧ ∀ A', sn i = some A' → zRM (fun k => q.1 130 (244 * i + k)) A'
section HM
variable {q : zM} {A : zT9} {hs : List zT9} {sn : Nat → Option zT9} {tx : List Nat}
theorem Mo_begin_eq (q : zM) : Mo_begin q = some (qc q 127 0 128 0 244) := by
  unfold Mo_begin
  refine Eq.trans (by rw [qc_zero q 127 0 128 0]; rfl) (for_all (G := fun n i => Mo_begin_L2 (fun _ q => some q) n (i : Int) (qc q 127 0 128 0 i)) (N := 244) (by omega) (fun n i hi => ?_) (fun n => ?_))
  · show Mo_begin_L2 _ (n + 1) _ _ = Mo_begin_L2 _ n ((i + 1 : Nat) : Int) _
    have e := qc_step q (o := 127) (sp := 0) (d := 128) (dp := 0) (i := i) (by omega)
    simp only [Nat.zero_add] at e
    rw [Mo_begin_L2, wrap_n (n := i) (by omega), if_pos (by omega), ck_in (by omega), ck_in (by omega), Int.toNat_natCast, e]
    rfl
  · show Mo_begin_L2 _ (n + 1) _ _ = _
    rw [Mo_begin_L2, if_neg (by decide)]
theorem done_L62_eq (q : zM) (v : Int) (K : Int → zM → Option (Int × zM)) {m : Nat} (hm : m < 5) (h3 : q.1 126 3 = m) : Mo_done_L62 v K 5000 0 q = K 244 (qc q 128 0 129 (244 * m) 244) := by
  refine Eq.trans (by rw [qc_zero q 128 0 129 (244 * m)]; rfl) (for_all (G := fun n i => Mo_done_L62 v K n (i : Int) (qc q 128 0 129 (244 * m) i)) (N := 244) (by omega) (fun n i hi => ?_) (fun n => ?_))
  · show Mo_done_L62 _ _ (n + 1) _ _ = Mo_done_L62 _ _ n ((i + 1 : Nat) : Int) _
    have e := qc_step q (o := 128) (sp := 0) (d := 129) (dp := 244 * m) (i := i) (by omega)
    simp only [Nat.zero_add] at e
    have e3 : (qc q 128 0 129 (244 * m) i).1 126 3 = m := by rw [qc_at, if_neg (by omega), h3]
    rw [Mo_done_L62, e3, wrap_n (n := i) (by omega), if_pos (by omega), ck_in (by omega), Int.toNat_natCast, show ((244 : Int) * (m : Int) + (i : Int)) = ((244 * m + i : Nat) : Int) by omega, wrap_n (by omega), ck_in (by omega), Int.toNat_natCast, e]
    rfl
  · show Mo_done_L62 _ _ (n + 1) _ _ = _
    rw [Mo_done_L62, if_neg (by decide)]
    rfl
theorem done_L26_eq (q : zM) (v : Int) (K : Int → zM → Option (Int × zM)) (h3 : q.1 126 3 = 4) : Mo_done_L26 v K 5000 0 q = K 976 (qc q 129 244 129 0 976) := by
  refine Eq.trans (by rw [qc_zero q 129 244 129 0]; rfl) (for_all (G := fun n i => Mo_done_L26 v K n (i : Int) (qc q 129 244 129 0 i)) (N := 976) (by omega) (fun n i hi => ?_) (fun n => ?_))
  · show Mo_done_L26 _ _ (n + 1) _ _ = Mo_done_L26 _ _ n ((i + 1 : Nat) : Int) _
    have e := qc_step q (o := 129) (sp := 244) (d := 129) (dp := 0) (i := i) (by omega)
    simp only [Nat.zero_add] at e
    have e3 : (qc q 129 244 129 0 i).1 126 3 = 4 := by rw [qc_at, if_neg (by omega), h3]
    rw [Mo_done_L26, e3, wrap_n (n := i) (by omega), show wrap ((244 : Int) * 4) = 976 by decide, if_pos (by omega), show ((i : Int) + 244) = ((244 + i : Nat) : Int) by omega, wrap_n (n := 244 + i) (by omega), ck_in (by omega), ck_in (by omega), Int.toNat_natCast, Int.toNat_natCast, e]
    rfl
  · show Mo_done_L26 _ _ (n + 1) _ _ = _
    have e3 : (qc q 129 244 129 0 976).1 126 3 = 4 := by rw [qc_at, if_neg (by omega), h3]
    rw [Mo_done_L26, e3, if_neg (by decide)]
    rfl
/-- done(): what was put aside is put behind the history -/
theorem Mo_done_eq {v : Int} (hv : 0 ≤ v ∧ v < 2147483648) {B : zT9} (hB : zWF B) (hw : ∀ A' ∈ hs, zWF A') (hl : hs.length ≤ 5) (h3 : q.1 126 3 = hs.length) (hh : ∀ j, j < hs.length → zRM (fun k => q.1 129 (244 * j + k)) (hs.getD j zA0)) (hb : zRM (q.1 128) B) :
    ∃ q', Mo_done q v = some (v, q') ∧ q'.2 = q.2 ∧ (∀ a k, a ≠ 129 → (a ≠ 126 ∨ k ≠ 3) → q'.1 a k = q.1 a k) ∧ q'.1 126 3 = (pushH hs B).length ∧ ∀ j, j < (pushH hs B).length → zRM (fun k => q'.1 129 (244 * j + k)) ((pushH hs B).getD j zA0) := by
  unfold Mo_done
  rw [wrap_eq (by omega), if_neg (by omega), h3, wrap_n (by omega)]
  by_cases h5 : hs.length = 5
  · rw [if_pos (by omega), h5]
    unfold Mo_done_b24
    have e1 : (qs q 126 3 (((5 : Nat) : Int) - 1)).1 126 3 = 4 := by rw [qs_at, if_pos ⟨rfl, rfl⟩]; rfl
    rw [done_L26_eq _ _ _ e1]
    have e2 : (qc (qs q 126 3 (((5 : Nat) : Int) - 1)) 129 244 129 0 976).1 126 3 = ((4 : Nat) : Int) := by rw [qc_at, if_neg (by omega), e1]; rfl
    rw [done_L62_eq _ _ _ (m := 4) (by omega) e2]
    have e3 : (qc (qc (qs q 126 3 (((5 : Nat) : Int) - 1)) 129 244 129 0 976) 128 0 129 (244 * 4) 244).1 126 3 = 4 := by rw [qc_at, if_neg (by omega), e2]; rfl
    rw [e3]
    have hp : pushH hs B = hs.tail ++ [B] := by unfold pushH; rw [if_pos h5]
    have hpl : (pushH hs B).length = 5 := by rw [hp]; simp; omega
    refine ⟨_, rfl, rfl, fun a k h1 h2 => ?_, ?_, fun j hj => ?_⟩
    · rw [qs_at, if_neg (by omega), qc_at, if_neg (by omega), qc_at, if_neg (by omega), qs_at, if_neg (by omega)]
    · rw [qs_at, if_pos ⟨rfl, rfl⟩, hpl]; rfl
    · rw [hpl] at hj
      rcases Nat.lt_or_ge j 4 with q4 | q4
      · have eg : (pushH hs B).getD j zA0 = hs.getD (j + 1) zA0 := by
          rw [hp, List.getD_eq_getElem?_getD, List.getD_eq_getElem?_getD, List.getElem?_append_left (by simp; omega), List.getElem?_tail]
        rw [eg]
        have hm : hs.getD (j + 1) zA0 ∈ hs := by
          rw [List.getD_eq_getElem?_getD, List.getElem?_eq_getElem (by omega)]
          exact List.getElem_mem _
        refine zRM_congr (hw _ hm) (fun k hk => ?_) (hh (j + 1) (by omega))
        show (qs _ 126 3 _).1 129 (244 * j + k) = q.1 129 (244 * (j + 1) + k)
        rw [qs_at, if_neg (by omega), qc_at, if_neg (by omega), qc_at, if_pos (by omega), qs_at, if_neg (by omega)]
        rw [show 244 + (244 * j + k - 0) = 244 * (j + 1) + k by omega]
      · have ej : j = 4 := by omega
        subst ej
        have eg : (pushH hs B).getD 4 zA0 = B := by
          rw [hp, List.getD_eq_getElem?_getD, List.getElem?_append_right (by simp; omega)]
          simp [h5]
        rw [eg]
        refine zRM_congr hB (fun k hk => ?_) hb
        show (qs _ 126 3 _).1 129 (244 * 4 + k) = q.1 128 k
        rw [qs_at, if_neg (by omega), qc_at, if_pos (by omega), qc_at, if_neg (by omega), qs_at, if_neg (by omega)]
        rw [show 0 + (244 * 4 + k - 244 * 4) = k by omega]
  · rw [if_neg (by omega), done_L62_eq q v _ (m := hs.length) (by omega) h3]
    have e3 : (qc q 128 0 129 (244 * hs.length) 244).1 126 3 = hs.length := by rw [qc_at, if_neg (by omega), h3]
    rw [e3]
    have hp : pushH hs B = hs ++ [B] := by unfold pushH; rw [if_neg h5]
    have hpl : (pushH hs B).length = hs.length + 1 := by rw [hp]; simp
    refine ⟨_, rfl, rfl, fun a k h1 h2 => ?_, ?_, fun j hj => ?_⟩
    · rw [qs_at, if_neg (by omega), qc_at, if_neg (by omega)]
    · rw [qs_at, if_pos ⟨rfl, rfl⟩, hpl]; omega
    · rw [hpl] at hj
      rcases Nat.lt_or_ge j hs.length with q4 | q4
      · have eg : (pushH hs B).getD j zA0 = hs.getD j zA0 := by
          rw [hp, List.getD_eq_getElem?_getD, List.getD_eq_getElem?_getD, List.getElem?_append_left q4]
        rw [eg]
        have hm : hs.getD j zA0 ∈ hs := by
          rw [List.getD_eq_getElem?_getD, List.getElem?_eq_getElem q4]
          exact List.getElem_mem _
        refine zRM_congr (hw _ hm) (fun k hk => ?_) (hh j q4)
        show (qs _ 126 3 _).1 129 (244 * j + k) = q.1 129 (244 * j + k)
        rw [qs_at, if_neg (by omega), qc_at, if_neg (by omega)]
      · have ej : j = hs.length := by omega
        subst ej
        have eg : (pushH hs B).getD hs.length zA0 = B := by
          rw [hp, List.getD_eq_getElem?_getD, List.getElem?_append_right (Nat.le_refl _)]
          simp
        rw [eg]
        refine zRM_congr hB (fun k hk => ?_) hb
        show (qs _ 126 3 _).1 129 (244 * hs.length + k) = q.1 128 k
        rw [qs_at, if_neg (by omega), qc_at, if_pos (by omega)]
        rw [show 0 + (244 * hs.length + k - 244 * hs.length) = k by omega]
end HM

/-! the functions that the methods are, over the cells that both constructors make -/
def SH0 : List zSh := [.inl 9, .inl 6, .inr (0, 40), .inl 7, .inl 5, .inl 8, .inr (1, 40), .inr (0, 40), .inr (0, 40), .inr (0, 40), .inr (0, 40), .inl 2, .inl 3, .inr (0, 8), .inr (0, 8), .inr (0, 8), .inr (0, 96), .inl 0, .inr (4, 5), .inl 5, .inl 8, .inr (1, 40), .inr (0, 40), .inr (0, 40), .inr (0, 40), .inr (0, 40), .inl 2, .inl 3, .inr (0, 8), .inr (0, 8), .inr (0, 8), .inr (0, 96), .inl 5, .inl 8, .inr (1, 40), .inr (0, 40), .inr (0, 40), .inr (0, 40), .inr (0, 40), .inl 2, .inl 3, .inr (0, 8), .inr (0, 8), .inr (0, 8), .inr (0, 96), .inl 5, .inl 8, .inr (1, 40), .inr (0, 40), .inr (0, 40), .inr (0, 40), .inr (0, 40), .inl 2, .inl 3, .inr (0, 8), .inr (0, 8), .inr (0, 8), .inr (0, 96), .inl 5, .inl 8, .inr (1, 40), .inr (0, 40), .inr (0, 40), .inr (0, 40), .inr (0, 40), .inl 2, .inl 3, .inr (0, 8), .inr (0, 8), .inr (0, 8), .inr (0, 96), .inl 5, .inl 8, .inr (1, 40), .inr (0, 40), .inr (0, 40), .inr (0, 40), .inr (0, 40), .inl 2, .inl 3, .inr (0, 8), .inr (0, 8), .inr (0, 8), .inr (0, 96), .inl 4, .inr (4, 2), .inr (2, 2), .inl 5, .inl 8, .inr (1, 40), .inr (0, 40), .inr (0, 40), .inr (0, 40), .inr (0, 40), .inl 2, .inl 3, .inr (0, 8), .inr (0, 8), .inr (0, 8), .inr (0, 96), .inl 5, .inl 8, .inr (1, 40), .inr (0, 40), .inr (0, 40), .inr (0, 40), .inr (0, 40), .inl 2, .inl 3, .inr (0, 8), .inr (0, 8), .inr (0, 8), .inr (0, 96), .inl 1, .inr (2, 40), .inr (0, 13), .inr (0, 12), .inr (0, 13), .inr (0, 12), .inl 1, .inr (2, 40), .inr (0, 13), .inr (0, 12), .inr (0, 13), .inr (0, 12)]
def MR0 : List (List (Option Nat)) := [[], [some 2, some 4, some 5, some 18, some 85, some 114, some 120], [some 3, none], [], [none, none, none, none, none, none], [some 6, some 12, some 13], [none, some 7, some 8, some 9, some 10, some 11], [], [], [], [], [], [none, none], [none, some 14, some 15, some 16, some 17], [], [], [], [], [some 19, none, none], [some 20, some 33, some 46, some 59, some 72], [some 21, some 27, some 28], [none, some 22, some 23, some 24, some 25, some 26], [], [], [], [], [], [none, none], [none, some 29, some 30, some 31, some 32], [], [], [], [], [some 34, some 40, some 41], [none, some 35, some 36, some 37, some 38, some 39], [], [], [], [], [], [none, none], [none, some 42, some 43, some 44, some 45], [], [], [], [], [some 47, some 53, some 54], [none, some 48, some 49, some 50, some 51, some 52], [], [], [], [], [], [none, none], [none, some 55, some 56, some 57, some 58], [], [], [], [], [some 60, some 66, some 67], [none, some 61, some 62, some 63, some 64, some 65], [], [], [], [], [], [none, none], [none, some 68, some 69, some 70, some 71], [], [], [], [], [some 73, some 79, some 80], [none, some 74, some 75, some 76, some 77, some 78], [], [], [], [], [], [none, none], [none, some 81, some 82, some 83, some 84], [], [], [], [], [some 86, some 87], [some 88, some 101], [], [some 89, some 95, some 96], [none, some 90, some 91, some 92, some 93, some 94], [], [], [], [], [], [none, none], [none, some 97, some 98, some 99, some 100], [], [], [], [], [some 102, some 108, some 109], [none, some 103, some 104, some 105, some 106, some 107], [], [], [], [], [], [none, none], [none, some 110, some 111, some 112, some 113], [], [], [], [], [some 115, some 116, some 117, some 118, some 119, none, none, none, none, none], [], [], [], [], [], [some 121, some 122, some 123, some 124, some 125, none, none, none, none, none], [], [], [], [], []]
abbrev zM : Type := (Nat → Nat → Int) × (Nat → Nat → Int64)
def hp (q : zM) : zH := (SH0, q.1, q.2, MR0)
def qs (q : zM) (o k : Nat) (v : Int) : zM := (up2 q.1 o k v, q.2)
def ql (q : zM) (o k : Nat) (v : Int64) : zM := (q.1, up2 q.2 o k v)
def qc (q : zM) (o sp d dp n : Nat) : zM := (cp2 q.1 o sp d dp n, q.2)
def qcl (q : zM) (o sp d dp n : Nat) : zM := (q.1, cp2 q.2 o sp d dp n)
/-- how a method's answer stands in the small machine -/
abbrev eP (q : zM) : Int → zR := fun r => (some (vI r), hp q)
abbrev eI : Int × zM → zR := fun r => (some (vI r.1), hp r.2)
abbrev eV : zM → zR := fun r => (none, hp r)
abbrev eL (q : zM) : Int64 → zR := fun r => (some (vL r), hp q)
def zgoN (E : zE) (m : Nat) : Nat → zF → Option zF
  | 0, f => some f
  | n + 1, f => match lstep E m f with
    | some (.inl f') => zgoN E m n f'
    | _ => none
/-- what the function o says, the small machine does -/
def SimV {α : Type} (E : zE) (m : Nat) (f : zF) (enc : α → zR) (o : Option α) : Prop := ∀ r, o = some r → Ax E m f = some (enc r)
section SIMV
variable {α β : Type} {E : zE} {m : Nat} {f f' : zF} {enc : α → zR} {o a b : Option α}
theorem S_none : SimV E m f enc none := fun r h => by cases h
theorem zgoN_Ax : ∀ (n : Nat) {f f' : zF}, zgoN E m n f = some f' → Ax E m f = Ax E m f' := by
  intro n
  induction n with
  | zero => intro f f' h; cases h; rfl
  | succ n ih =>
    intro f f' h
    rw [zgoN] at h
    split at h
    · next g hg => rw [Ax_go hg]; exact ih h
    · cases h
theorem S_run (n : Nat) (h : zgoN E m n f = some f') (s : SimV E m f' enc o) : SimV E m f enc o := fun r hr => by rw [zgoN_Ax n h]; exact s r hr
theorem S_ret {r : α} (h : lstep E m f = some (.inr (.inr (enc r)))) : SimV E m f enc (some r) := fun r' hr => by cases hr; exact Ax_ret h
theorem S_ite {P : Prop} [Decidable P] (h1 : P → SimV E m f enc a) (h2 : ¬ P → SimV E m f enc b) : SimV E m f enc (if P then a else b) := by
  by_cases h : P
  · rw [if_pos h]; exact h1 h
  · rw [if_neg h]; exact h2 h
theorem S_go (h : lstep E m f = some (.inl f')) (s : SimV E m f' enc o) : SimV E m f enc o := fun r hr => by rw [Ax_go h]; exact s r hr
theorem S_call {m' : Nat} {args : List zV} {h : zH} {k : zR → zF} {enc' : β → zR} {oc : Option β} {kk : β → Option α} (hs : lstep E m f = some (.inr (.inl (m', args, h, k)))) (hc : SimV E m' (entF args h) enc' oc) (hk : ∀ r, SimV E m (k (enc' r)) enc (kk r)) : SimV E m f enc (oc.bind kk) := by
  intro r hr
  obtain ⟨x, hx, hr⟩ := Option.bind_eq_some_iff.mp hr
  rw [Ax_call hs]
  show (Ax E m' (entF args h)).bind _ = _
  rw [hc x hx]
  exact hk x r hr
end SIMV
/-! jumps: one step, whose condition is known -/
section SIMB
variable {E : zE} {m kc ks pc len a' b' c' d' : Nat} {ls : zL} {st : List zV} {h : zH} {off : Int} {x y : Int}
theorem J_icmp {cd : Jvm.ClassFile.Cond} (hl : lkp (mt_k.getD m []) pc = some (.if_icmp cd off, len, a', b', c', d')) {t : Bool} (ht : cmpB cd (wrap x) (wrap y) = t) : lstep E m (kc, ks, pc, ls, .inl y :: .inl x :: st, h) = some (.inl (kc, ks, cond t ((pc : Int) + off).toNat (pc + len), ls, st, h)) := by
  unfold lstep
  dsimp only
  rw [hl]
  dsimp only [kin, jop]
  rw [ht]
  rfl
theorem J_if {cd : Jvm.ClassFile.Cond} (hl : lkp (mt_k.getD m []) pc = some (.ifCond cd off, len, a', b', c', d')) {t : Bool} (ht : cmpB cd (wrap x) 0 = t) : lstep E m (kc, ks, pc, ls, .inl x :: st, h) = some (.inl (kc, ks, cond t ((pc : Int) + off).toNat (pc + len), ls, st, h)) := by
  unfold lstep
  dsimp only
  rw [hl]
  dsimp only [kin, jop]
  rw [ht]
  rfl
theorem J_tin {dflt lo hi : Int} {offs : Array Int} {w : Int} (hl : lkp (mt_k.getD m []) pc = some (.tableswitch dflt lo hi offs, len, a', b', c', d')) (hw : wrap x = w) (hr : ¬ (w < lo ∨ hi < w)) (ho : offs[(w - lo).toNat]? = some off) : lstep E m (kc, ks, pc, ls, .inl x :: st, h) = some (.inl (kc, ks, ((pc : Int) + off).toNat, ls, st, h)) := by
  unfold lstep
  dsimp only
  rw [hl]
  dsimp only [kin, jop]
  rw [hw, if_neg hr, ho]
  rfl
theorem J_tout {dflt lo hi : Int} {offs : Array Int} (hl : lkp (mt_k.getD m []) pc = some (.tableswitch dflt lo hi offs, len, a', b', c', d')) (hr : wrap x < lo ∨ hi < wrap x) : lstep E m (kc, ks, pc, ls, .inl x :: st, h) = some (.inl (kc, ks, ((pc : Int) + dflt).toNat, ls, st, h)) := by
  unfold lstep
  dsimp only
  rw [hl]
  dsimp only [kin, jop]
  rw [if_pos hr]
  rfl
end SIMB
def ck {α : Type} (i n : Int) (a : Option α) : Option α := if 0 ≤ i ∧ i < n then a else none
theorem ck_in {α : Type} {i n : Int} {a : Option α} (h : 0 ≤ i ∧ i < n) : ck i n a = a := if_pos h
/-! cells: one step, whose index is in its row -/
section SIMH
variable {α : Type} {E : zE} {m kc ks pc len a' b' c' d' o n : Nat} {ls : zL} {st : List zV} {q : zM} {i x : Int} {y : Int64} {enc : α → zR} {a : Option α}
theorem S_ck {f : zF} (s : 0 ≤ i ∧ i < (n : Int) → SimV E m f enc a) : SimV E m f enc (ck i n a) := S_ite s (fun _ => S_none)
theorem H_iald (hm : Nat.ble 124 m = false) (hl : lkp (mt_k.getD m []) pc = some (.iaload, len, a', b', c', d')) (hs : isA (shp (hp q) o) 0 = some n) (hr : 0 ≤ wrap i ∧ wrap i < (n : Int)) : lstep E m (kc, ks, pc, ls, .inl i :: .inr (.inr (some o)) :: st, hp q) = some (.inl (kc, ks, pc + len, ls, vI (q.1 o (wrap i).toNat) :: st, hp q)) := by
  unfold lstep
  dsimp only
  rw [hl]
  dsimp only [kin, hop]
  rw [hm, hs]
  dsimp only [cond]
  rw [if_pos hr]
  rfl
theorem H_bald (hm : Nat.ble 124 m = false) (hl : lkp (mt_k.getD m []) pc = some (.baload, len, a', b', c', d')) (hs : isA (shp (hp q) o) 2 = some n) (hr : 0 ≤ wrap i ∧ wrap i < (n : Int)) : lstep E m (kc, ks, pc, ls, .inl i :: .inr (.inr (some o)) :: st, hp q) = some (.inl (kc, ks, pc + len, ls, vI (q.1 o (wrap i).toNat) :: st, hp q)) := by
  unfold lstep
  dsimp only
  rw [hl]
  dsimp only [kin, hop]
  rw [hm, hs]
  dsimp only [cond]
  rw [if_pos hr]
  rfl
theorem H_lald (hm : Nat.ble 124 m = false) (hl : lkp (mt_k.getD m []) pc = some (.laload, len, a', b', c', d')) (hs : isA (shp (hp q) o) 1 = some n) (hr : 0 ≤ wrap i ∧ wrap i < (n : Int)) : lstep E m (kc, ks, pc, ls, .inl i :: .inr (.inr (some o)) :: st, hp q) = some (.inl (kc, ks, pc + len, ls, vL (q.2 o (wrap i).toNat) :: st, hp q)) := by
  unfold lstep
  dsimp only
  rw [hl]
  dsimp only [kin, hop]
  rw [hm, hs]
  dsimp only [cond]
  rw [if_pos hr]
  rfl
theorem H_aald (hm : Nat.ble 124 m = false) (hl : lkp (mt_k.getD m []) pc = some (.aaload, len, a', b', c', d')) (hs : isA (shp (hp q) o) 4 = some n) {j : Int} (hj : wrap i = j) (hr : 0 ≤ j ∧ j < (n : Int)) {w : Nat} (hw : rfR MR0 o j.toNat = some w) : lstep E m (kc, ks, pc, ls, .inl i :: .inr (.inr (some o)) :: st, hp q) = some (.inl (kc, ks, pc + len, ls, vR (some w) :: st, hp q)) := by
  unfold lstep
  dsimp only
  rw [hl]
  dsimp only [kin, hop]
  rw [hm, hs, hj]
  dsimp only [cond]
  rw [if_pos hr]
  show some (Sum.inl (kc, ks, pc + len, ls, vR (rfR MR0 o j.toNat) :: st, hp q)) = _
  rw [hw]
theorem H_iast (hm : Nat.ble 124 m = false) (hl : lkp (mt_k.getD m []) pc = some (.iastore, len, a', b', c', d')) (hs : isA (shp (hp q) o) 0 = some n) (hr : 0 ≤ wrap i ∧ wrap i < (n : Int)) : lstep E m (kc, ks, pc, ls, .inl x :: .inl i :: .inr (.inr (some o)) :: st, hp q) = some (.inl (kc, ks, pc + len, ls, st, hp (qs q o (wrap i).toNat x))) := by
  unfold lstep
  dsimp only
  rw [hl]
  dsimp only [kin, hop]
  rw [hm, hs]
  dsimp only [cond]
  rw [if_pos hr]
  rfl
theorem H_bast (hm : Nat.ble 124 m = false) (hl : lkp (mt_k.getD m []) pc = some (.bastore, len, a', b', c', d')) (hs : isA (shp (hp q) o) 2 = some n) (hr : 0 ≤ wrap i ∧ wrap i < (n : Int)) : lstep E m (kc, ks, pc, ls, .inl x :: .inl i :: .inr (.inr (some o)) :: st, hp q) = some (.inl (kc, ks, pc + len, ls, st, hp (qs q o (wrap i).toNat (x % 2)))) := by
  unfold lstep
  dsimp only
  rw [hl]
  dsimp only [kin, hop]
  rw [hm, hs]
  dsimp only [cond]
  rw [if_pos hr]
  rfl
theorem H_last (hm : Nat.ble 124 m = false) (hl : lkp (mt_k.getD m []) pc = some (.lastore, len, a', b', c', d')) (hs : isA (shp (hp q) o) 1 = some n) (hr : 0 ≤ wrap i ∧ wrap i < (n : Int)) : lstep E m (kc, ks, pc, ls, .inr (.inl y) :: .inl i :: .inr (.inr (some o)) :: st, hp q) = some (.inl (kc, ks, pc + len, ls, st, hp (ql q o (wrap i).toNat y))) := by
  unfold lstep
  dsimp only
  rw [hl]
  dsimp only [kin, hop]
  rw [hm, hs]
  dsimp only [cond]
  rw [if_pos hr]
  rfl
theorem H_putz {idx k : Nat} (hm : Nat.ble 124 m = false) (hl : lkp (mt_k.getD m []) pc = some (.putfield idx, len, a', k, c', d')) (hs : isO (shp (hp q) o) a' = true) (hk : fkdOf a' k = 3) (h01 : wrap x = 0 ∨ wrap x = 1) : lstep E m (kc, ks, pc, ls, .inl x :: .inr (.inr (some o)) :: st, hp q) = some (.inl (kc, ks, pc + len, ls, st, hp (qs q o k x))) := by
  unfold lstep
  dsimp only
  rw [hl]
  dsimp only [kin, hop]
  rw [hm, hs, hk]
  dsimp only [cond, pfv]
  rw [if_pos h01]
  rfl
theorem H_retb (hc : (Nat.beq kc (mtR m).2.1 && Nat.beq ks (mtR m).2.2.1) = true) (hl : lkp (mt_k.getD m []) pc = some (.ireturn, len, a', b', c', d')) (hb : isBool (mt_r.getD m none) = true) (h01 : wrap x = 0 ∨ wrap x = 1) {h : zH} : lstep E m (kc, ks, pc, ls, [.inl x], h) = some (.inr (.inr (some (vI x), h))) := by
  unfold lstep
  dsimp only
  rw [hl]
  dsimp only [kin, rop]
  rw [hc, hb]
  dsimp only [cond]
  rw [if_pos h01]
  rfl
theorem H_acI {idx o2 n2 : Nat} {nn dp sp : Int} (hl : lkp (mt_k.getD m []) pc = some (.invokestatic idx, len, a', b', 8, d')) (h0 : isA (shp (hp q) o) 0 = some n) (h1 : isA (shp (hp q) o2) 0 = some n2) (h4 : Nat.ble st.length 4 = true) (hr : 0 ≤ wrap sp ∧ 0 ≤ wrap dp ∧ 0 ≤ wrap nn ∧ wrap sp + wrap nn ≤ (n : Int) ∧ wrap dp + wrap nn ≤ (n2 : Int)) : lstep E m (kc, ks, pc, ls, .inl nn :: .inl dp :: .inr (.inr (some o2)) :: .inl sp :: .inr (.inr (some o)) :: st, hp q) = some (.inl (kc, ks, pc + len, ls, st, hp (qc q o (wrap sp).toNat o2 (wrap dp).toNat (wrap nn).toNat))) := by
  unfold lstep
  dsimp only
  rw [hl]
  dsimp only [kin, acop, Nat.beq, cond]
  rw [h0, h1]
  dsimp only
  rw [if_pos hr]
  dsimp only
  rw [h4]
  rfl
end SIMH

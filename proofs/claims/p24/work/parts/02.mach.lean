/-! the small machine: whole numbers stand for ints (mod 2^32), cells are numbered in the order in which they are made (0 is the script) -/
abbrev zV : Type := Int ⊕ (Int64 ⊕ Option Nat)
abbrev zSh : Type := Nat ⊕ (Nat × Nat)
abbrev zH : Type := List zSh × (Nat → Nat → Int) × (Nat → Nat → Int64) × List (List (Option Nat))
abbrev zL : Type := List (Nat × zV)
abbrev zF : Type := Nat × Nat × Nat × zL × List zV × zH
abbrev zR : Type := Option zV × zH
abbrev zS : Type := zF ⊕ ((Nat × List zV × zH × (zR → zF)) ⊕ zR)
abbrev zE : Type := Nat × (Nat → Int)
abbrev vI (x : Int) : zV := .inl x
abbrev vL (x : Int64) : zV := .inr (.inl x)
abbrev vR (x : Option Nat) : zV := .inr (.inr x)
def wrap (x : Int) : Int := (x + 2147483648) % 4294967296 - 2147483648
theorem wrap_eq {x : Int} (h : -2147483648 ≤ x ∧ x < 2147483648) : wrap x = x := by unfold wrap; omega
theorem wrap_rng (x : Int) : -2147483648 ≤ wrap x ∧ wrap x < 2147483648 := by unfold wrap; omega
theorem wrap_wrap (x : Int) : wrap (wrap x) = wrap x := wrap_eq (wrap_rng x)
theorem toInt_wrap (x : Int) : (Int32.ofInt x).toInt = wrap x := by
  rw [Int32.toInt_ofInt]
  unfold wrap Int.bmod
  have hs : (Int32.size : Int) = 4294967296 := rfl
  rw [hs]
  dsimp only
  split <;> omega
def wand (x y : Int) : Int := (Int32.ofInt x &&& Int32.ofInt y).toInt
def wor (x y : Int) : Int := (Int32.ofInt x ||| Int32.ofInt y).toInt
def wshl (x y : Int) : Int := (Int32.ofInt x <<< (Int32.ofInt y &&& 31)).toInt
def wshr (x y : Int) : Int := (Int32.ofInt x >>> (Int32.ofInt y &&& 31)).toInt
def wushr (x y : Int) : Int := ((Int32.ofInt x).toUInt32 >>> ((Int32.ofInt y).toUInt32 &&& Int32.toUInt32 31)).toInt32.toInt
def wdiv (x y : Int) : Int := (Int32.ofInt x / Int32.ofInt y).toInt
def wrem (x y : Int) : Int := (Int32.ofInt x - Int32.ofInt x / Int32.ofInt y * Int32.ofInt y).toInt
def wi2l (x : Int) : Int64 := (Int32.ofInt x).toInt64
def wl2i (x : Int64) : Int := x.toInt32.toInt
def wlshl (x : Int64) (y : Int) : Int64 := x <<< ((Int32.ofInt y).toInt64 &&& 63)
def wlushr (x : Int64) (y : Int) : Int64 := (x.toUInt64 >>> ((Int32.ofInt y).toInt64.toUInt64 &&& Int64.toUInt64 63)).toInt64
def wlcmp (x y : Int64) : Int := (lg_cmp x y).toInt
def isL : zV → Bool
  | .inr (.inl _) => true
  | _ => false
def lget : zL → Nat → Option zV
  | [], _ => none
  | q :: l, i => cond (Nat.beq q.1 i) (some q.2) (lget l i)
def lrem : zL → Nat → zL
  | [], _ => []
  | q :: l, i => cond (Nat.beq q.1 i) (lrem l i) (q :: lrem l i)
def lins : zL → Nat → zV → zL
  | [], i, v => [(i, v)]
  | q :: l, i, v => cond (Nat.ble i q.1) ((i, v) :: q :: l) (q :: lins l i v)
def lset (l : zL) (i : Nat) (v : zV) : zL := lins (lrem l i) i v
def lokS : zL → Nat → Bool
  | [], _ => true
  | q :: l, i => !(Nat.beq (q.1 + 1) i && isL q.2) && lokS l i
def lokL : zL → Nat → Bool
  | [], _ => true
  | q :: l, i => (!(Nat.beq (q.1 + 1) i && isL q.2) && !(Nat.beq q.1 (i + 1))) && lokL l i
def stS (ls : zL) (i : Nat) (v : zV) : Option zL := cond (lokS ls i) (some (lset ls i v)) none
def stL (ls : zL) (i : Nat) (v : zV) : Option zL := cond (lokL ls i) (some (lset ls i v)) none
def ltr : zL → Nat → zL
  | [], _ => []
  | q :: l, t => cond (Nat.blt q.1 t) (q :: ltr l t) (ltr l t)
def lvA : Nat → List zV → zL
  | _, [] => []
  | i, v :: vs => (i, v) :: lvA (cond (isL v) (i + 2) (i + 1)) vs
def lvN : List zV → Nat
  | [] => 0
  | v :: vs => cond (isL v) 2 1 + lvN vs
def oI (f : Int → Int → Int) (ls : zL) : List zV → Option (zL × List zV)
  | .inl y :: .inl x :: r => some (ls, vI (f x y) :: r)
  | _ => none
def oId (f : Int → Int → Int) (ls : zL) : List zV → Option (zL × List zV)
  | .inl y :: .inl x :: r => if wrap y = 0 then none else some (ls, vI (f x y) :: r)
  | _ => none
def o1 (f : Int → Int) (ls : zL) : List zV → Option (zL × List zV)
  | .inl x :: r => some (ls, vI (f x) :: r)
  | _ => none
def oLd (p : zV → Bool) (ls : zL) (i : Nat) (st : List zV) : Option (zL × List zV) := match lget ls i with
  | some v => cond (p v) (some (ls, v :: st)) none
  | none => none
def pI : zV → Bool
  | .inl _ => true
  | _ => false
def pR : zV → Bool
  | .inr (.inr (some _)) => true
  | _ => false
def oSt (p : zV → Bool) (ls : zL) (i : Nat) : List zV → Option (zL × List zV)
  | v :: r => cond (p v) (match stS ls i v with | some l => some (l, r) | none => none) none
  | _ => none
def oStL (ls : zL) (i : Nat) : List zV → Option (zL × List zV)
  | v :: r => cond (isL v) (match stL ls i v with | some l => some (l, r) | none => none) none
  | _ => none
/-- instructions that touch nothing but the frame, and go on behind themselves -/
def lop (ins : Instr) (a : Nat) (ls : zL) (st : List zV) : Option (zL × List zV) := match ins with
  | .iconst n => some (ls, vI n :: st)
  | .bipush n => some (ls, vI n :: st)
  | .sipush n => some (ls, vI n :: st)
  | .ldc _ => some (ls, vI (a : Int) :: st)
  | .lconst k => some (ls, vL (Int64.ofNat k.val) :: st)
  | .iload_n k => oLd pI ls k.val st
  | .iload i => oLd pI ls i st
  | .lload_n k => oLd isL ls k.val st
  | .lload i => oLd isL ls i st
  | .aload_n k => oLd pR ls k.val st
  | .aload i => oLd pR ls i st
  | .istore_n k => oSt pI ls k.val st
  | .istore i => oSt pI ls i st
  | .astore_n k => oSt pR ls k.val st
  | .astore i => oSt pR ls i st
  | .lstore_n k => oStL ls k.val st
  | .lstore i => oStL ls i st
  | .iinc i n => match lget ls i with
    | some (.inl x) => (match stS ls i (vI (x + n)) with | some l => some (l, st) | none => none)
    | _ => none
  | .iadd => oI (fun x y => x + y) ls st
  | .isub => oI (fun x y => x - y) ls st
  | .imul => oI (fun x y => x * y) ls st
  | .iand => oI wand ls st
  | .ior => oI wor ls st
  | .ishl => oI wshl ls st
  | .ishr => oI wshr ls st
  | .iushr => oI wushr ls st
  | .idiv => oId wdiv ls st
  | .irem => oId wrem ls st
  | .i2c => o1 (fun x => x % 65536) ls st
  | .i2l => (match st with | .inl x :: r => some (ls, vL (wi2l x) :: r) | _ => none)
  | .l2i => (match st with | .inr (.inl x) :: r => some (ls, vI (wl2i x) :: r) | _ => none)
  | .lor => (match st with | .inr (.inl y) :: .inr (.inl x) :: r => some (ls, vL (x ||| y) :: r) | _ => none)
  | .lshl => (match st with | .inl y :: .inr (.inl x) :: r => some (ls, vL (wlshl x y) :: r) | _ => none)
  | .lushr => (match st with | .inl y :: .inr (.inl x) :: r => some (ls, vL (wlushr x y) :: r) | _ => none)
  | .lcmp => (match st with | .inr (.inl y) :: .inr (.inl x) :: r => some (ls, vI (wlcmp x y) :: r) | _ => none)
  | .dup => (match st with | v :: r => cond (isL v) none (some (ls, v :: v :: r)) | _ => none)
  | .pop => (match st with | v :: r => cond (isL v) none (some (ls, r)) | _ => none)
  | .dup2 => (match st with | v :: w :: r => cond (isL v || isL w) none (some (ls, v :: w :: v :: w :: r)) | _ => none)
  | _ => none
def shp (h : zH) : Nat → Option zSh
  | 0 => none
  | a + 1 => h.1[a]?
def up2 {α : Type} (f : Nat → Nat → α) (a k : Nat) (v : α) : Nat → Nat → α := fun a' k' => if a' = a ∧ k' = k then v else f a' k'
def cp2 {α : Type} (f : Nat → Nat → α) (a sp d dp n : Nat) : Nat → Nat → α := fun a' k => if a' = d ∧ dp ≤ k ∧ k < dp + n then f a (sp + (k - dp)) else f a' k
def sI (h : zH) (a k : Nat) (v : Int) : zH := (h.1, up2 h.2.1 a k v, h.2.2)
def sL (h : zH) (a k : Nat) (v : Int64) : zH := (h.1, h.2.1, up2 h.2.2.1 a k v, h.2.2.2)
def rfR (l : List (List (Option Nat))) (a k : Nat) : Option Nat := (l.getD a []).getD k none
def rfO (h : zH) (a k : Nat) : Option Nat := rfR h.2.2.2 a k
def rfB (h : zH) (a k : Nat) : Bool := Nat.blt k (h.2.2.2.getD a []).length
def sR (h : zH) (a k : Nat) (v : Option Nat) : zH := (h.1, h.2.1, h.2.2.1, h.2.2.2.set a ((h.2.2.2.getD a []).set k v))
def fkdOf (c k : Nat) : Nat := (fkd.getD c []).getD k 0
def fnum (c : Nat) : Nat := (fkd.getD c []).length
def gfv (h : zH) (o k : Nat) : Nat → zV
  | 0 => vI (h.2.1 o k)
  | 1 => vL (h.2.2.1 o k)
  | 2 => vR (rfO h o k)
  | _ => vI (h.2.1 o k)
def pfv (h : zH) (o k : Nat) (v : zV) : Nat → Option zH
  | 0 => (match v with | .inl x => some (sI h o k x) | _ => none)
  | 1 => (match v with | .inr (.inl x) => some (sL h o k x) | _ => none)
  | 2 => (match v with | .inr (.inr x) => cond (rfB h o k) (some (sR h o k x)) none | _ => none)
  | _ => (match v with | .inl x => if wrap x = 0 ∨ wrap x = 1 then some (sI h o k x) else none | _ => none)
def isO (s : Option zSh) (c : Nat) : Bool := match s with
  | some (.inl c') => Nat.beq c' c
  | _ => false
def isA (s : Option zSh) (t : Nat) : Option Nat := match s with
  | some (.inr q) => cond (Nat.beq q.1 t) (some q.2) none
  | _ => none
/-- instructions that read or write cells, and go on behind themselves -/
def hop (ins : Instr) (a b : Nat) (st : List zV) (h : zH) : Option (List zV × zH) := match ins with
  | .getfield _ => (match st with
    | .inr (.inr (some o)) :: r => cond (isO (shp h o) a) (some (gfv h o b (fkdOf a b) :: r, h)) none
    | _ => none)
  | .putfield _ => (match st with
    | v :: .inr (.inr (some o)) :: r => cond (isO (shp h o) a) (match pfv h o b v (fkdOf a b) with | some h' => some (r, h') | none => none) none
    | _ => none)
  | .iaload => (match st with
    | .inl i :: .inr (.inr (some o)) :: r => (match isA (shp h o) 0 with | some n => if 0 ≤ wrap i ∧ wrap i < (n : Int) then some (vI (h.2.1 o (wrap i).toNat) :: r, h) else none | none => none)
    | _ => none)
  | .baload => (match st with
    | .inl i :: .inr (.inr (some o)) :: r => (match isA (shp h o) 2 with | some n => if 0 ≤ wrap i ∧ wrap i < (n : Int) then some (vI (h.2.1 o (wrap i).toNat) :: r, h) else none | none => none)
    | _ => none)
  | .laload => (match st with
    | .inl i :: .inr (.inr (some o)) :: r => (match isA (shp h o) 1 with | some n => if 0 ≤ wrap i ∧ wrap i < (n : Int) then some (vL (h.2.2.1 o (wrap i).toNat) :: r, h) else none | none => none)
    | _ => none)
  | .aaload => (match st with
    | .inl i :: .inr (.inr (some o)) :: r => (match isA (shp h o) 4 with | some n => if 0 ≤ wrap i ∧ wrap i < (n : Int) then some (vR (rfO h o (wrap i).toNat) :: r, h) else none | none => none)
    | _ => none)
  | .iastore => (match st with
    | .inl x :: .inl i :: .inr (.inr (some o)) :: r => (match isA (shp h o) 0 with | some n => if 0 ≤ wrap i ∧ wrap i < (n : Int) then some (r, sI h o (wrap i).toNat x) else none | none => none)
    | _ => none)
  | .bastore => (match st with
    | .inl x :: .inl i :: .inr (.inr (some o)) :: r => (match isA (shp h o) 2 with | some n => if 0 ≤ wrap i ∧ wrap i < (n : Int) then some (r, sI h o (wrap i).toNat (x % 2)) else none | none => none)
    | _ => none)
  | .lastore => (match st with
    | .inr (.inl x) :: .inl i :: .inr (.inr (some o)) :: r => (match isA (shp h o) 1 with | some n => if 0 ≤ wrap i ∧ wrap i < (n : Int) then some (r, sL h o (wrap i).toNat x) else none | none => none)
    | _ => none)
  | .aastore => (match st with
    | .inr (.inr (some x)) :: .inl i :: .inr (.inr (some o)) :: r => (match isA (shp h o) 4 with | some n => cond (isO (shp h x) 5) (if 0 ≤ wrap i ∧ wrap i < (n : Int) then cond (rfB h o (wrap i).toNat) (some (r, sR h o (wrap i).toNat (some x))) none else none) none | none => none)
    | _ => none)
  | .arraylength => (match st with
    | .inr (.inr (some o)) :: r => (match isA (shp h o) 0 with | some n => some (vI (n : Int) :: r, h) | none => none)
    | _ => none)
  | _ => none
/-- the law's reads of its script -/
def sop (E : zE) (ins : Instr) (st : List zV) (h : zH) : Option (List zV × zH) := match ins with
  | .iaload => (match st with
    | .inl i :: .inr (.inr (some 0)) :: r => if 0 ≤ wrap i ∧ wrap i < (E.1 : Int) then some (vI (E.2 (wrap i).toNat) :: r, h) else none
    | _ => none)
  | .arraylength => (match st with
    | .inr (.inr (some 0)) :: r => some (vI (E.1 : Int) :: r, h)
    | _ => none)
  | _ => none
def acop : List zV → zH → Option (List zV × zH)
  | .inl n :: .inl dp :: .inr (.inr (some d)) :: .inl sp :: .inr (.inr (some o)) :: r, h =>
    (match isA (shp h o) 0, isA (shp h d) 0 with
    | some n0, some n1 => if 0 ≤ wrap sp ∧ 0 ≤ wrap dp ∧ 0 ≤ wrap n ∧ wrap sp + wrap n ≤ (n0 : Int) ∧ wrap dp + wrap n ≤ (n1 : Int) then some (r, (h.1, cp2 h.2.1 o (wrap sp).toNat d (wrap dp).toNat (wrap n).toNat, h.2.2)) else none
    | _, _ => (match isA (shp h o) 1, isA (shp h d) 1 with
      | some n0, some n1 => if 0 ≤ wrap sp ∧ 0 ≤ wrap dp ∧ 0 ≤ wrap n ∧ wrap sp + wrap n ≤ (n0 : Int) ∧ wrap dp + wrap n ≤ (n1 : Int) then some (r, (h.1, h.2.1, cp2 h.2.2.1 o (wrap sp).toNat d (wrap dp).toNat (wrap n).toNat, h.2.2.2)) else none
      | _, _ => none))
  | _, _ => none
def rsz : zSh → Nat
  | .inl c => fnum c
  | .inr q => cond (Nat.beq q.1 4) q.2 0
/-- a new cell: the shape is put behind the others, its contents are zero -/
def nuH (h : zH) (s : zSh) : zH := (h.1 ++ [s], (fun a k => if a = h.1.length + 1 then 0 else h.2.1 a k), (fun a k => if a = h.1.length + 1 then 0 else h.2.2.1 a k), h.2.2.2 ++ [List.replicate (rsz s) none])
def mtR (m : Nat) : Nat × Nat × Nat × Nat := mt_R.getD m (0, 0, 0, 0)
def newop (m kc ks : Nat) (s : zSh) (n : Nat) (h : zH) (r : List zV) : Option (Nat × Nat × List zV × zH) :=
  cond ((Nat.ble (kc + 1) (mtR m).2.1 && Nat.ble (ks + n) (mtR m).2.2.1) && Nat.beq h.2.2.2.length (h.1.length + 1)) (some (kc + 1, ks + n, vR (some (h.1.length + 1)) :: r, nuH h s)) none
def alop (m : Nat) (ins : Instr) (a kc ks : Nat) (st : List zV) (h : zH) : Option (Nat × Nat × List zV × zH) := match ins with
  | .new _ => newop m kc ks (.inl a) (fnum a) h st
  | .newarray _ => (match st with
    | .inl n :: r => if 0 ≤ wrap n ∧ wrap n ≤ 100000 then newop m kc ks (.inr (a, (wrap n).toNat)) (wrap n).toNat h r else none
    | _ => none)
  | .anewarray _ => (match st with
    | .inl n :: r => if 0 ≤ wrap n ∧ wrap n ≤ 100000 then newop m kc ks (.inr (4, (wrap n).toNat)) (wrap n).toNat h r else none
    | _ => none)
  | _ => none
def cmpB : Jvm.ClassFile.Cond → Int → Int → Bool
  | .eq, x, y => decide (x = y)
  | .ne, x, y => !decide (x = y)
  | .lt, x, y => decide (x < y)
  | .ge, x, y => !decide (x < y)
  | .gt, x, y => decide (y < x)
  | .le, x, y => !decide (y < x)
/-- jumps: where the frame goes on -/
def jop (ins : Instr) (len a pc : Nat) (ls : zL) (st : List zV) : Option (Nat × zL × List zV) := match ins with
  | .goto off => some (((pc : Int) + off).toNat, ltr ls a, st)
  | .ifCond c off => (match st with
    | .inl x :: r => some (cond (cmpB c (wrap x) 0) ((pc : Int) + off).toNat (pc + len), ls, r)
    | _ => none)
  | .if_icmp c off => (match st with
    | .inl y :: .inl x :: r => some (cond (cmpB c (wrap x) (wrap y)) ((pc : Int) + off).toNat (pc + len), ls, r)
    | _ => none)
  | .tableswitch dflt lo hi offs => (match st with
    | .inl x :: r => if wrap x < lo ∨ hi < wrap x then some (((pc : Int) + dflt).toNat, ls, r) else (match offs[(wrap x - lo).toNat]? with | some off => some (((pc : Int) + off).toNat, ls, r) | none => none)
    | _ => none)
  | _ => none
def isBool : Option FieldType → Bool
  | some .boolean => true
  | _ => false
def rop (m : Nat) (ins : Instr) (kc ks : Nat) (st : List zV) (h : zH) : Option zR :=
  cond (Nat.beq kc (mtR m).2.1 && Nat.beq ks (mtR m).2.2.1) (match ins with
  | .ireturn => (match st with
    | [.inl x] => cond (isBool (mt_r.getD m none)) (if wrap x = 0 ∨ wrap x = 1 then some (some (vI x), h) else none) (some (some (vI x), h))
    | _ => none)
  | .lreturn => (match st with
    | [.inr (.inl x)] => some (some (vL x), h)
    | _ => none)
  | .return_ => (match st with
    | [] => some (none, h)
    | _ => none)
  | _ => none) none
def lkp : List Ent → Nat → Option (Instr × Nat × Nat × Nat × Nat × Nat)
  | [], _ => none
  | q :: l, pc => cond (Nat.beq q.1 pc) (some q.2) (lkp l pc)
def clsOf (m : Nat) : String := (mt_y.getD m ⟨"", "", ""⟩).cls
def isRecv (h : zH) (m' : Nat) : List zV → Bool
  | .inr (.inr (some o)) :: _ => (match shp h o with | some (.inl c) => decide (cnm[c]? = some (clsOf m')) | _ => false)
  | _ => false
/-- a call: the callee, its arguments, and how the frame goes on -/
def cop (m m' na fl : Nat) (len kc ks pc : Nat) (ls : zL) (st : List zV) (h : zH) : Option (Nat × List zV × zH × (zR → zF)) :=
  cond (Nat.ble (kc + (mtR m').2.1) (mtR m).2.1 && Nat.ble (ks + (mtR m').2.2.1) (mtR m).2.2.1)
    (cond (Nat.blt fl 4)
      (cond (Nat.ble (na + 1) st.length && Nat.ble (st.drop (na + 1)).length 4 && isRecv h m' (st.drop na) && Nat.ble (lvN (st.take (na + 1)).reverse) (mt_L.getD m' 0))
        (some (m', (st.take (na + 1)).reverse, h, fun r => (kc + (mtR m').2.1, ks + (mtR m').2.2.1, pc + len, ls, r.1.toList ++ st.drop (na + 1), r.2))) none)
      (cond (Nat.ble na st.length && Nat.ble (st.drop na).length 4 && Nat.ble (lvN (st.take na).reverse) (mt_L.getD m' 0))
        (some (m', (st.take na).reverse, h, fun r => (kc + (mtR m').2.1, ks + (mtR m').2.2.1, pc + len, ls, r.1.toList ++ st.drop na, r.2))) none))
    none
def wmax (x y : Int) : Int := if wrap x < wrap y then y else x
def wmin (x y : Int) : Int := if wrap y < wrap x then y else x
def entF (args : List zV) (h : zH) : zF := (0, 0, 0, lvA 0 args, [], h)
def kin (ins : Instr) (c : Nat) : Nat := match ins with
  | .getfield _ => 1
  | .putfield _ => 1
  | .iaload => 1
  | .baload => 1
  | .caload => 1
  | .laload => 1
  | .aaload => 1
  | .iastore => 1
  | .bastore => 1
  | .castore => 1
  | .lastore => 1
  | .aastore => 1
  | .arraylength => 1
  | .new _ => 2
  | .newarray _ => 2
  | .anewarray _ => 2
  | .goto _ => 3
  | .ifCond _ _ => 3
  | .if_icmp _ _ => 3
  | .tableswitch _ _ _ _ => 3
  | .invokevirtual _ => 4
  | .invokespecial _ => cond (Nat.beq c 7) 5 4
  | .invokestatic _ => cond (Nat.beq c 8) 6 (cond (Nat.beq c 9) 8 (cond (Nat.beq c 10) 9 4))
  | .ireturn => 7
  | .lreturn => 7
  | .return_ => 7
  | _ => 0
def lstep (E : zE) (m : Nat) (f : zF) : Option zS := match lkp (mt_k.getD m []) f.2.2.1 with
  | none => none
  | some q => match kin q.1 q.2.2.2.2.1 with
    | 0 => (match lop q.1 q.2.2.1 f.2.2.2.1 f.2.2.2.2.1 with
      | some r => some (.inl (f.1, f.2.1, f.2.2.1 + q.2.1, r.1, r.2, f.2.2.2.2.2))
      | none => none)
    | 1 => (match cond (Nat.ble 124 m) (sop E q.1 f.2.2.2.2.1 f.2.2.2.2.2) (hop q.1 q.2.2.1 q.2.2.2.1 f.2.2.2.2.1 f.2.2.2.2.2) with
      | some r => some (.inl (f.1, f.2.1, f.2.2.1 + q.2.1, f.2.2.2.1, r.1, r.2))
      | none => none)
    | 2 => (match alop m q.1 q.2.2.1 f.1 f.2.1 f.2.2.2.2.1 f.2.2.2.2.2 with
      | some r => some (.inl (r.1, r.2.1, f.2.2.1 + q.2.1, f.2.2.2.1, r.2.2.1, r.2.2.2))
      | none => none)
    | 3 => (match jop q.1 q.2.1 q.2.2.1 f.2.2.1 f.2.2.2.1 f.2.2.2.2.1 with
      | some r => some (.inl (f.1, f.2.1, r.1, r.2.1, r.2.2, f.2.2.2.2.2))
      | none => none)
    | 4 => (match cop m q.2.2.1 q.2.2.2.1 q.2.2.2.2.1 q.2.1 f.1 f.2.1 f.2.2.1 f.2.2.2.1 f.2.2.2.2.1 f.2.2.2.2.2 with
      | some r => some (.inr (.inl r))
      | none => none)
    | 5 => (match f.2.2.2.2.1 with
      | .inr (.inr (some _)) :: r => cond (Nat.ble r.length 4) (some (.inl (f.1, f.2.1, f.2.2.1 + q.2.1, f.2.2.2.1, r, f.2.2.2.2.2))) none
      | _ => none)
    | 6 => (match acop f.2.2.2.2.1 f.2.2.2.2.2 with
      | some r => cond (Nat.ble r.1.length 4) (some (.inl (f.1, f.2.1, f.2.2.1 + q.2.1, f.2.2.2.1, r.1, r.2))) none
      | none => none)
    | 8 => (match oI wmax f.2.2.2.1 f.2.2.2.2.1 with
      | some r => cond (Nat.ble r.2.length 5 && (Nat.ble f.1 (mtR m).2.1 && Nat.ble f.2.1 (mtR m).2.2.1)) (some (.inl (f.1, f.2.1, f.2.2.1 + q.2.1, r.1, r.2, f.2.2.2.2.2))) none
      | none => none)
    | 9 => (match oI wmin f.2.2.2.1 f.2.2.2.2.1 with
      | some r => cond (Nat.ble r.2.length 5 && (Nat.ble f.1 (mtR m).2.1 && Nat.ble f.2.1 (mtR m).2.2.1)) (some (.inl (f.1, f.2.1, f.2.2.1 + q.2.1, r.1, r.2, f.2.2.2.2.2))) none
      | none => none)
    | _ => (match rop m q.1 f.1 f.2.1 f.2.2.2.2.1 f.2.2.2.2.2 with
      | some r => some (.inr (.inr r))
      | none => none)
def axn (E : zE) : Nat → Nat → zF → Option zR
  | 0, _, _ => none
  | n + 1, m, f => match lstep E m f with
    | none => none
    | some (.inl f') => axn E n m f'
    | some (.inr (.inl c)) => (match axn E n c.1 (entF c.2.1 c.2.2.1) with
      | none => none
      | some r => axn E n m (c.2.2.2 r))
    | some (.inr (.inr r)) => some r
theorem axn_succ (E : zE) : ∀ (n m : Nat) (f : zF) (r : zR), axn E n m f = some r → axn E (n + 1) m f = some r := by
  intro n
  induction n with
  | zero => intro m f r h; cases h
  | succ n ih =>
    intro m f r h
    rw [axn] at h ⊢
    cases hs : lstep E m f with
    | none => rw [hs] at h; cases h
    | some q =>
      rw [hs] at h
      match q, h with
      | .inl f', h => exact ih m f' r h
      | .inr (.inr r'), h => exact h
      | .inr (.inl c), h =>
        dsimp only at h ⊢
        cases hc : axn E n c.1 (entF c.2.1 c.2.2.1) with
        | none => rw [hc] at h; cases h
        | some r' =>
          rw [hc] at h
          rw [ih _ _ _ hc]
          exact ih _ _ _ h
theorem axn_mono (E : zE) {n k m : Nat} {f : zF} {r : zR} (h : axn E n m f = some r) (hk : n ≤ k) : axn E k m f = some r := by
  induction hk with
  | refl => exact h
  | step _ ih => exact axn_succ E _ m f r ih
noncomputable def Ax (E : zE) (m : Nat) (f : zF) : Option zR := @dite (Option zR) (∃ n r, axn E n m f = some r) (Classical.propDecidable _) (fun h => axn E h.choose m f) (fun _ => none)
theorem Ax_iff {E : zE} {m : Nat} {f : zF} {r : zR} : Ax E m f = some r ↔ ∃ n, axn E n m f = some r := by
  unfold Ax
  constructor
  · intro h
    split at h
    · exact ⟨_, h⟩
    · cases h
  · rintro ⟨n, h⟩
    have he : ∃ n r, axn E n m f = some r := ⟨n, r, h⟩
    rw [dif_pos he]
    obtain ⟨r', h'⟩ := he.choose_spec
    rw [h']
    have h1 := axn_mono E h (Nat.le_max_left n he.choose)
    have h2 := axn_mono E h' (Nat.le_max_right n he.choose)
    rw [h1] at h2
    exact h2.symm
theorem Ax_go {E : zE} {m : Nat} {f f' : zF} (h : lstep E m f = some (.inl f')) : Ax E m f = Ax E m f' := by
  apply Option.ext
  intro r
  rw [Ax_iff, Ax_iff]
  constructor
  · rintro ⟨n, hn⟩
    cases n with
    | zero => cases hn
    | succ n => rw [axn, h] at hn; exact ⟨n, hn⟩
  · rintro ⟨n, hn⟩
    exact ⟨n + 1, by rw [axn, h]; exact hn⟩
theorem Ax_ret {E : zE} {m : Nat} {f : zF} {r : zR} (h : lstep E m f = some (.inr (.inr r))) : Ax E m f = some r := Ax_iff.mpr ⟨1, by rw [axn, h]⟩
theorem Ax_call {E : zE} {m : Nat} {f : zF} {c : Nat × List zV × zH × (zR → zF)} (h : lstep E m f = some (.inr (.inl c))) : Ax E m f = (Ax E c.1 (entF c.2.1 c.2.2.1)).bind (fun r => Ax E m (c.2.2.2 r)) := by
  apply Option.ext
  intro r
  rw [Ax_iff, Option.bind_eq_some_iff]
  constructor
  · rintro ⟨n, hn⟩
    cases n with
    | zero => cases hn
    | succ n =>
      rw [axn, h] at hn
      dsimp only at hn
      cases hc : axn E n c.1 (entF c.2.1 c.2.2.1) with
      | none => rw [hc] at hn; cases hn
      | some r' =>
        rw [hc] at hn
        exact ⟨r', Ax_iff.mpr ⟨n, hc⟩, Ax_iff.mpr ⟨n, hn⟩⟩
  · rintro ⟨r', h1, h2⟩
    obtain ⟨n1, h1⟩ := Ax_iff.mp h1
    obtain ⟨n2, h2⟩ := Ax_iff.mp h2
    refine ⟨max n1 n2 + 1, ?_⟩
    rw [axn, h]
    dsimp only
    rw [axn_mono E h1 (Nat.le_max_left _ _)]
    exact axn_mono E h2 (Nat.le_max_right _ _)

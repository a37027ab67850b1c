/-! what the tables say of the classes' fields -/
theorem okF_all : (List.range 10).all okF = true := by decide +kernel
theorem okN_all : (List.range 10).all okN = true := by decide +kernel
theorem okU_all : (List.range 10).all okU = true := by decide +kernel
theorem okI_all : (List.range 10).all okI = true := by decide +kernel
/-- words that a callee isn't given by the kit's lists: they go through its precondition -/
def nestW : Jvm.Cond → Bool
  | .fieldLinkNest .. => true
  | .methodLinkNest .. => true
  | .arrayOver (.object _) => true
  | _ => false
/-- the words of the tables that a callee keeps -/
def zT : List Jvm.Cond := lw_tbl.filter (fun w => goodWord w || nestW w)
theorem zT_in {w : Jvm.Cond} (h : w ∈ lw_tbl) (hg : (goodWord w || nestW w) = true) : w ∈ zT := List.mem_filter.mpr ⟨h, hg⟩
theorem tw_in {d : Nat} {w : Jvm.Cond} (h : tw d = some w) (hg : (goodWord w || nestW w) = true) : w ∈ zT := zT_in (List.mem_append_right _ (List.mem_of_getElem? h)) hg
theorem cls_at : ∀ c, c < 10 → classes[c]? = some (cnO c, flT (fls.getD c []), fnum c) := by
  intro c h
  match c, h with
  | 0, _ => rfl
  | 1, _ => rfl
  | 2, _ => rfl
  | 3, _ => rfl
  | 4, _ => rfl
  | 5, _ => rfl
  | 6, _ => rfl
  | 7, _ => rfl
  | 8, _ => rfl
  | 9, _ => rfl
  | c + 10, h => exact absurd h (by omega)
theorem in10 {c : Nat} {f : Nat → Bool} (h : (List.range 10).all f = true) (hc : c < 10) : f c = true := List.all_eq_true.mp h c (List.mem_range.mpr hc)
theorem fldF {c k : Nat} (hc : c < 10) (hk : k < fnum c) : parseFieldDescriptor (flO c k).2.2.1 = some (tyF c k) ∧ (flO c k).1 = cnO c ∧ okT c k = true ∧ fkdOf c k < 4 := by
  have h := List.all_eq_true.mp (in10 okF_all hc) k (List.mem_range.mpr hk)
  simp only [Bool.and_eq_true, decide_eq_true_eq] at h
  obtain ⟨⟨⟨h1, h2⟩, h3⟩, h4⟩ := h
  obtain ⟨x, hx⟩ := Option.isSome_iff_exists.mp h1
  exact ⟨by rw [tyF, hx]; rfl, h2, h3, Nat.ble_eq.mp h4⟩
theorem fldN {c : Nat} (hc : c < 10) : ∀ a, a < fnum c → ∀ b, b < fnum c → a ≠ b → (flT (fls.getD c []) a).2.1 ≠ (flT (fls.getD c []) b).2.1 := by
  intro a ha b hb hab
  have h := List.all_eq_true.mp (List.all_eq_true.mp (in10 okN_all hc) a (List.mem_range.mpr ha)) b (List.mem_range.mpr hb)
  simp only [Bool.or_eq_true, decide_eq_true_eq] at h
  rcases h with h | h
  · exact absurd (Nat.eq_of_beq_eq_true h) hab
  · exact h
theorem fldU {c : Nat} (hc : c < 10) : ∀ w ∈ u_ws (cnO c) (flT (fls.getD c [])) (fnum c), w ∈ zT := by
  intro w hw
  unfold u_ws at hw
  obtain ⟨k, hk, rfl⟩ := List.mem_map.mp hw
  have h := List.all_eq_true.mp (in10 okU_all hc) k hk
  refine zT_in (of_decide_eq_true h) ?_
  unfold u_lay
  split <;> rfl
theorem fldI {c : Nat} (hc : c < 10) : Jvm.Cond.instantiable (cnO c) (fnum c) ∈ zT ∧ Jvm.Cond.initialized (cnO c) ∈ zT := by
  have h := in10 okI_all hc
  simp only [okI, Bool.and_eq_true, decide_eq_true_eq] at h
  exact ⟨zT_in h.1 rfl, zT_in h.2 rfl⟩
theorem w_ary : ∀ t, t < 4 → Jvm.Cond.arrayClass (tyOf t) ∈ zT := by
  intro t h
  exact match t, h with
  | 0, _ => zT_in (by decide +kernel) rfl
  | 1, _ => zT_in (by decide +kernel) rfl
  | 2, _ => zT_in (by decide +kernel) rfl
  | 3, _ => zT_in (by decide +kernel) rfl
  | t + 4, h => absurd h (by omega)
theorem w_aro : Jvm.Cond.arrayOver (.object "EdgeVerses$State") ∈ zT := zT_in (by decide +kernel) rfl
theorem w_cpN : Jvm.Cond.native arraycopyName ∈ zT := zT_in (by decide +kernel) rfl
theorem w_cpS : Jvm.Cond.static arraycopyName ∈ zT := zT_in (by decide +kernel) rfl
theorem w_cpI : Jvm.Cond.initialized "java/lang/System" ∈ zT := zT_in (by decide +kernel) rfl
theorem w_mxS : Jvm.Cond.static Lib.Math.max.name ∈ zT := zT_in (by decide +kernel) rfl
theorem w_mnS : Jvm.Cond.static Lib.Math.min.name ∈ zT := zT_in (by decide +kernel) rfl
theorem w_mxI : Jvm.Cond.initialized "java/lang/Math" ∈ zT := zT_in (by decide +kernel) rfl
theorem w_mxC : Jvm.Cond.code Lib.Math.max.name Lib.Math.max.code 2 (some .int) ∈ zT := zT_in (by decide +kernel) rfl
theorem w_mnC : Jvm.Cond.code Lib.Math.min.name Lib.Math.min.code 2 (some .int) ∈ zT := zT_in (by decide +kernel) rfl
theorem w_oiI : Jvm.Cond.instanceMethod objectInit ∈ zT := zT_in (by decide +kernel) rfl
theorem w_oiC : Jvm.Cond.code objectInit ⟨#[0xb1]⟩ 1 none ∈ zT := zT_in (by decide +kernel) rfl
def zNw (U : State) : Prop := ∀ w ∈ zT, nestW w = true → w.before #[] U = true
theorem nestW_inv {w : Jvm.Cond} (h : nestW w = true) : (∃ a i b n d h, w = .fieldLinkNest a i b n d h) ∨ (∃ a i x h, w = .methodLinkNest a i x h) ∨ ∃ C, w = .arrayOver (.object C) := by
  unfold nestW at h
  split at h
  · exact Or.inl ⟨_, _, _, _, _, _, rfl⟩
  · exact Or.inr (Or.inl ⟨_, _, _, _, rfl⟩)
  · exact Or.inr (Or.inr ⟨_, rfl⟩)
  · cases h
theorem zNw_warm {s U : State} (hW : s.WarmedH U.vm) (h : zNw s) : zNw U := by
  intro w hw hn
  have h1 := h w hw hn
  rcases nestW_inv hn with ⟨_, _, _, _, _, _, rfl⟩ | ⟨_, _, _, _, rfl⟩ | ⟨_, rfl⟩
  · exact va_Nw.warmF hW h1
  · exact va_Nw.warmM hW h1
  · exact va_AO.moved hW.alike h1
theorem zNw_vm {u U : State} (hv : u.vm = U.vm) (h : zNw u) : zNw U := by
  intro w hw hn
  have h1 := h w hw hn
  rcases nestW_inv hn with ⟨_, _, _, _, _, _, rfl⟩ | ⟨_, _, _, _, rfl⟩ | ⟨_, rfl⟩
  · exact va_Nw.same rfl hv h1
  · exact va_Nw.same rfl hv h1
  · exact va_AO.moved (by rw [hv]; exact Vm.Alike.refl _) h1
theorem zNw_of {args : Array Value} {s : State} (h : ∀ w ∈ zT, w.before args s = true) : zNw s := by
  intro w hw hn
  have h1 := h w hw
  rcases nestW_inv hn with ⟨_, _, _, _, _, _, rfl⟩ | ⟨_, _, _, _, rfl⟩ | ⟨_, rfl⟩
  · exact va_Nw.of rfl h1
  · exact va_Nw.of rfl h1
  · exact va_AO.of h1
theorem zNw_use {args : Array Value} {s : State} (h : zNw s) {w : Jvm.Cond} (hw : w ∈ zT) (hn : nestW w = true) : w.before args s = true := by
  have h1 := h w hw hn
  rcases nestW_inv hn with ⟨_, _, _, _, _, _, rfl⟩ | ⟨_, _, _, _, rfl⟩ | ⟨_, rfl⟩
  · exact va_Nw.use rfl h1
  · exact va_Nw.use rfl h1
  · exact va_AO.use h1
def zgood : List Jvm.Cond := zT.filter goodWord
theorem zgood_in {w : Jvm.Cond} (h : w ∈ zT) : w ∈ zgood ∨ nestW w = true := by
  have h1 := (List.mem_filter.mp h).2
  rw [Bool.or_eq_true] at h1
  rcases h1 with h1 | h1
  · exact Or.inl (List.mem_filter.mpr ⟨h, h1⟩)
  · exact Or.inr h1

/-! make: both sides together -/
section MA
variable {A : zT9} {hs : List zT9} {sn : Nat → Option zT9} {tx : List Nat}
/-- the class puts a found row into a state that it has recorded -/
theorem put_step {q : zM} {B : zT9} {H : List zT9} {l n e : Nat} (h : zGX q B H sn tx) (hW : zWF B) (hl : l < aL B) (hg : gM B (sS B l true true) n 0 e) (h5 : q.1 114 5 = n) (hr : ∀ k, k < n → q.1 119 k = rW B (sS B l true true) n e k) : ∃ q', Ls_putInto q (l : Int) = some q' ∧ zGX q' (aPut B l n (rW B (sS B l true true) n e)) H sn tx ∧ zFX q q' := by
  have hle := gG_le hW (sS_ok B l true true) hg.1
  have wB := hW.2.2.1
  have n12 : n ≤ 12 := by clear h5; omega
  obtain ⟨q', t1, t2, t3, t4⟩ := put_X h.1 hW hl n12 h5 hr
  exact ⟨q', t1, zGX_mut h (fun a ha _ => ⟨t3 a (by clear h5; omega) (by clear h5; omega), by rw [t4]⟩) t2, fun a ha => t3 a (by clear h5; omega) (by clear h5; omega)⟩
theorem ar_ma {i L c : Nat} (h1 : i < L) (h2 : L ≤ 8) (h3 : c ≤ i) : wrap (i : Int) = i ∧ wrap (L : Int) = L ∧ (i : Int) < (L : Int) ∧ wrap (c : Int) = c ∧ ((c : Int) = 0 ↔ c = 0) := ⟨wrap_n (by omega), wrap_n (by omega), by omega, wrap_n (by omega), by omega⟩
theorem ar_sz {s : Nat} (h : s ≤ 12) : wrap (s : Int) = s ∧ ((s : Int) = 0 ↔ s = 0) ∧ (0 < (s : Int) ↔ 0 < s) := ⟨wrap_n (by omega), by omega, by omega⟩
end MA

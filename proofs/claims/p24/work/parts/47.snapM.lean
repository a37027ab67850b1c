def snUp (sn : Nat → Option zT9) (i : Nat) (A : zT9) : Nat → Option zT9 := fun j => if j = i then some A else sn j
/-- all states that are held are well formed -/
def zOK (A : zT9) (hs : List zT9) (sn : Nat → Option zT9) (tx : List Nat) : Prop := zWF A ∧ hs.length ≤ 5 ∧ (∀ A' ∈ hs, zWF A') ∧ (∀ i A', sn i = some A' → zWF A') ∧ tx.length ≤ 40 ∧ ∀ c ∈ tx, c < 65536

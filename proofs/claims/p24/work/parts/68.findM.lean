/-! find: the reference, and both together; states that differ in cells which nothing names -/
section FM0
variable {q q' : zM} {A : zT9} {hs : List zT9} {sn : Nat → Option zT9} {tx : List Nat}
theorem zGX_cells (h : zGX q A hs sn tx) (ha : ∀ a, a < 114 → a ≠ 4 → q'.1 a = q.1 a ∧ q'.2 a = q.2 a) : zGX q' A hs sn tx := by
  have hr : ∀ {s : Nat} {B : zT9}, 4 < s → s + 12 < 114 → zRX q s B → zRX q' s B := fun h1 h2 hb => zRX_congr (fun a h3 h4 => ha a (by omega) (by omega)) hb
  obtain ⟨g1, g2, g3, ⟨o, g4, g5, g6, g7⟩, g8⟩ := h
  refine ⟨hr (by omega) (by omega) g1, by rw [(ha 2 (by omega) (by omega)).1]; exact g2, fun i hi => by rw [(ha 3 (by omega) (by omega)).1]; exact g3 i hi, ⟨o, g4, by rw [(ha 18 (by omega) (by omega)).1]; exact g5, by rw [(ha 18 (by omega) (by omega)).1]; exact g6, fun j hj => hr (by omega) (by omega) (g7 j hj)⟩, fun i hi => ⟨by rw [(ha 87 (by omega) (by omega)).1]; exact (g8 i hi).1, fun A' hA => hr (by omega) (by omega) ((g8 i hi).2 A' hA)⟩⟩
end FM0

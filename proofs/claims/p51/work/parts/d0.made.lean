/-! cells are made: am_pt, n of the 81 cells are there; what a run looks at are the cells that are there -/
def am_pt (n : Nat) (I : am_I) (L : am_J) (R : Nat → Nat → Option Nat) : am_S := ((n, am_SH), I, L, R)
theorem am_new_pt {n a b : Nat} {I : am_I} {L : am_J} {R : Nat → Nat → Option Nat} (h : am_SH n = (a, b)) : am_new (am_pt n I L R) a b = am_pt (n + 1) (fun x y => if x = n then 0 else I x y) (fun x y => if x = n then 0 else L x y) (fun x y => if x = n then none else R x y) := by
  have e : (fun x => if x = n then (a, b) else am_SH x) = am_SH := by
    funext x
    by_cases q : x = n
    · rw [if_pos q, q, h]
    · rw [if_neg q]
  show ((n + 1, fun x => if x = n then (a, b) else am_SH x), (fun x y => if x = n then (0 : Int32) else I x y), (fun x y => if x = n then (0 : Int64) else L x y), fun x y => if x = n then none else R x y) = ((n + 1, am_SH), _, _, _)
  rw [e]
theorem am_WP.cells {G : am_G} {l : Launch} {m pc : Nat} {ls : am_L} {st : List Value} {c k : Nat} {g g' : am_S} {Q : Option Value → am_S → Prop} (h1 : g'.1.1 = g.1.1) (h2 : ∀ x, x < g.1.1 → am_cell G g' x = am_cell G g x) (h : am_WP G l m pc ls st c k g' Q) : am_WP G l m pc ls st c k g Q := by
  intro p e s mid args below meth cc H locs lsA Z c1 c2 c3 c4 c5 c6
  have ew : am_ws G g' = am_ws G g := by
    unfold am_ws
    rw [h1]
    exact List.map_congr_left (fun x hx => by rw [h2 x (List.mem_range.mp hx)])
  refine h p e s mid args below meth cc H locs lsA Z c1 ?_ c3 ?_ c5 c6
  · obtain ⟨a1, a2, a3⟩ := c2
    exact ⟨by rw [h1]; exact a1, by rw [ew]; exact a2, a3⟩
  · rw [h1]
    exact c4

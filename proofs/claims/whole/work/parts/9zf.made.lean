/-! cells are made: am_pt, n of the 81 cells are there; what a run looks at are the cells that are there -/
def am_pt (n : Nat) (I : am_I) (L : am_J) (R : Nat → Nat → Option Nat) : am_S := ((n, am_SH), I, L, R)
theorem am_new_pt {n a b : Nat} {I : am_I} {L : am_J} {R : Nat → Nat → Option Nat} (h : am_SH n = (a, b)) : am_new (am_pt n I L R) a b = am_pt (n + 1) (fun x y => if x = n then 0 else I x y) (fun x y => if x = n then 0 else L x y) (fun x y => if x = n then none else R x y) := by
  have e : (fun x => if x = n then (a, b) else am_SH x) = am_SH := by
    funext x
    by_cases q : x = n
    · rw [if_pos q, q, h]
    · rw [if_neg q]
  show ((n + 1, fun x => if x = n then (a, b) else am_SH x), (fun x y => if x = n then (0 : Int32) else I x y), (fun x y => if x = n then (0 : Int64) else L x y), fun x y => if x = n then none else R x y) = ((n + 1, am_SH), _, _, _)
  rw [e]
theorem am_WP.cells {G : am_G} {l : Launch} {m pc : Nat} {ls : am_L} {st : List Value} {c k : Nat} {g g' : am_S} {Q : Option Value → am_S → Prop} (h1 : g'.1.1 = g.1.1) (h2 : ∀ x, x < g.1.1 → am_cell G g' x = am_cell G g x) (h : am_WP G l m pc ls st c k g' Q) : am_WP G l m pc ls st c k g Q := by
  intro p e s mid args below meth cc H locs lsA Z c1 c2 c3 c4 c5 c6
  have ew : am_ws G g' = am_ws G g := by
    unfold am_ws
    rw [h1]
    exact List.map_congr_left (fun x hx => by rw [h2 x (List.mem_range.mp hx)])
  refine h p e s mid args below meth cc H locs lsA Z c1 ?_ c3 ?_ c5 c6
  · obtain ⟨a1, a2, a3⟩ := c2
    exact ⟨by rw [h1]; exact a1, by rw [ew]; exact a2, a3⟩
  · rw [h1]
    exact c4
section MK
variable {G : am_G} {l : Launch} {I : am_I} {L : am_J} {R : Nat → Nat → Option Nat} {Q : Option Value → am_S → Prop}
theorem mk_strip_38 (h : ∀ I' L' R', I' = (fun x y => if x = 39 then 0 else am_u I 38 1 (-1) x y) → L' = (fun x y => if x = 39 then 0 else L x y) → R' = (fun x y => if x = 38 ∧ y = 0 then some 39 else if x = 39 then none else R x y) → Q none (am_pt 40 I' L' R')) : am_WPm G l 231 [.ref 38, .int 60] (am_pt 39 I L R) Q := by
  refine am_goK (am_ok_all 231 (by decide)) 8 ?_
  show am_WP G l 231 15 [some (.ref 38), some (.int 60)] [.int (if (60 : Int32) < 0 then 0 else 60), .ref 38] 0 0 (am_pt 39 (am_u I 38 1 (-1)) L R) Q
  rw [show (if (60 : Int32) < 0 then (0 : Int32) else 60) = 60 from by decide]
  refine am_goK (am_ok_all 231 (by decide)) 0 ?_
  refine And.intro (by decide) ?_
  show am_WP G l 231 17 [some (.ref 38), some (.int 60)] [.ref 39, .ref 38] 1 60 (am_new (am_pt 39 (am_u I 38 1 (-1)) L R) 100 60) Q
  rw [am_new_pt (show am_SH 39 = (100, 60) from rfl)]
  refine am_goK (am_ok_all 231 (by decide)) 9 ?_
  exact h _ _ _ rfl rfl rfl
end MK

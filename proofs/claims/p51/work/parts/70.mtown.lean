/-! the reference lays a town down -/
theorem bO_of {n S : Nat} (h : S < 2 ^ n) : bO n (fun j => S.testBit j) = S := by
  refine tb_ext (bO_lt n _) h (fun i hi => ?_)
  rw [tb_bO]
  simp [hi]
def exT : List Nat := [61, 65, 66, 67, 68, 70]
section PT
variable {G : am_G} {l : Launch} {t : am_T} {I : am_I} {L : am_J} {Q : bm_P}
end PT

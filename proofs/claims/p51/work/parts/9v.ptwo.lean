/-! pair: two -/
section PT
variable {G : am_G} {l : Launch} {t : am_T} {I : am_I} {L : am_J} {Q : bm_P}
def eB (o : Option (Nat × Nat)) : Int32 := match o with
  | none => -9
  | some w => nI w.2
end PT
section PT
variable {G : am_G} {l : Launch} {t : am_T} {I : am_I} {L : am_J} {Q : bm_P}
end PT

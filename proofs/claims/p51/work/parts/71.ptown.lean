/-! pair: town -/
section PT
variable {G : am_G} {l : Launch} {t : am_T} {I : am_I} {L : am_J} {Q : bm_P}
def exU : List Nat := [0, 3, 4, 5, 6, 7, 8, 9, 10, 11, 13, 16, 17, 18, 22, 25]
end PT

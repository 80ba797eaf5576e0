/-! the reference: light, who stands where -/
theorem n_bit {s j : Nat} (hs : s < 2 ^ 31) (hj : j < 32) : (nI s >>> (nI j &&& 31)) &&& 1 = nI (if s.testBit j then 1 else 0) := by
  rw [n_shr hs hj, k1, n_and, tb_sh1]
section MG
variable {G : am_G} {l : Launch} {t : am_T} {I : am_I} {L : am_J} {Q : bm_P}
theorem n1_64 {x : Int32} {n : Nat} (h : x = nI n) (hn : n < 2 ^ 31) : (x - 1).toInt64.toInt = (n : Int) - 1 := by
  rw [i64]
  exact subI _ _ (by rw [h]; exact nI_toInt hn) T1 (by omega) (by omega)
end MG

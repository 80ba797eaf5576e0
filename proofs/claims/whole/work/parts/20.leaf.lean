/-! leaf methods of the class -/
section LF
variable {G : am_G} {l : Launch} {t : am_T} {I : am_I} {L : am_J} {Q : bm_P}
theorem sp_isIn {x y : Int32} (s j : Nat) (hx : x = nI s) (hy : y = nI j) (hs : s < 2 ^ 32) (hj : j < 32) (h1 : s.testBit j = true → Q (some (.int 1)) t I L) (h0 : s.testBit j = false → Q (some (.int 0)) t I L) : bm_C G l 50 [.int x, .int y] t I L Q := by
  subst hx hy
  refine bm_go (am_ok_all 50 (by decide)) 20 ?_
  have e := nI_toInt (n := j) (by omega)
  have key : ((nI s).toUInt32 >>> ((nI j).toUInt32 &&& Int32.toUInt32 31)).toInt32 &&& 1 = nI (if s.testBit j then 1 else 0) := by
    rw [n_ush hs hj, k1, n_and, tb_sh1]
  refine And.intro (fun c => ?_) (fun c => ?_)
  · omega
  refine And.intro (fun c => ?_) (fun c => ?_)
  · rw [e] at c
    exact absurd c (by simpa using hj)
  cases hb : s.testBit j with
  | true =>
    rw [hb] at key
    refine And.intro (fun c => ?_) (fun c => ⟨Or.inr rfl, h1 hb⟩)
    rw [key] at c
    exact absurd c (by decide)
  | false =>
    rw [hb] at key
    refine And.intro (fun c => ⟨Or.inl rfl, h0 hb⟩) (fun c => ?_)
    rw [key] at c
    exact absurd c (by decide)
theorem sp_bit {x y : Int32} (s j : Nat) (hx : x = nI s) (hy : y = nI j) (hs : s < 2 ^ 32) (hj : j < 32) (h : Q (some (.int (nI (if s.testBit j then 1 else 0)))) t I L) : bm_C G l 51 [.int x, .int y] t I L Q := by
  refine bm_go (am_ok_all 51 (by decide)) 20 ?_
  refine sp_isIn s j hx hy hs hj (fun c => ?_) (fun c => ?_)
  · rw [c] at h
    first | refine And.intro (fun c => absurd c (by decide)) (fun _ => ?_) | refine And.intro (fun _ => ?_) (fun c => absurd c (by decide)) | refine And.intro (fun c => ?_) (fun c => ?_)
    exact h
  · rw [c] at h
    first | refine And.intro (fun c => absurd c (by decide)) (fun _ => ?_) | refine And.intro (fun _ => ?_) (fun c => absurd c (by decide)) | refine And.intro (fun c => ?_) (fun c => ?_)
    exact h
theorem sp_near {x : Int32} (s w S A B : Nat) (hx : x = nI s) (hw : I 7 9 = nI w) (hS : I 7 1 = nI S) (hA : I 7 10 = nI A) (hB : I 7 11 = nI B) (hs : s < 2 ^ 32) (hw2 : w < 32)
   (h : Q (some (.int (nI (((s >>> w ||| s <<< w) ||| ((s &&& cm B) <<< 1 ||| (s &&& cm A) >>> 1)) &&& S)))) t I L) : bm_C G l 254 [.ref 7, .int x] t I L Q := by
  refine bm_go (am_ok_all 254 (by decide)) 60 ?_
  have key : ((x.toUInt32 >>> ((I 7 9).toUInt32 &&& Int32.toUInt32 31)).toInt32 ||| x <<< (I 7 9 &&& 31) ||| ((x &&& (I 7 11 ^^^ -1)) <<< ((1 : Int32) &&& 31) ||| ((x &&& (I 7 10 ^^^ -1)).toUInt32 >>> (Int32.toUInt32 1 &&& Int32.toUInt32 31)).toInt32)) &&& I 7 1 = nI (((s >>> w ||| s <<< w) ||| ((s &&& cm B) <<< 1 ||| (s &&& cm A) >>> 1)) &&& S) := by
    rw [hx, hw, hS, hA, hB, km1, n_cm, n_cm, n_and, n_and, n_ush hs hw2, n_shl _ hw2, k1, n_shl _ (by decide), n_ush (and_lt _ hs) (by decide)]
    simp only [n_or, n_and]
  rw [← key] at h
  exact h
end LF

/-! the constructors, call by call (written by made.py) -/
def mzR (n : Nat) (R : Nat → Nat → Option Nat) : Nat → Nat → Option Nat := fun x y => if x = n then none else R x y
def mrR (R : Nat → Nat → Option Nat) (o j v : Nat) : Nat → Nat → Option Nat := fun x y => if x = o ∧ y = j then some v else R x y
section MK
variable {G : am_G} {l : Launch} {I : am_I} {L : am_J} {R : Nat → Nat → Option Nat} {Q : Option Value → am_S → Prop}
def mk_201_3_I (I : am_I) : am_I := (mz 6 (mz 5 (mz 4 I)))
def mk_201_3_L (L : am_J) : am_J := (mzL 6 (mzL 5 (mzL 4 L)))
def mk_201_3_R (R : Nat → Nat → Option Nat) : Nat → Nat → Option Nat := (mrR (mzR 6 (mrR (mzR 5 (mrR (mzR 4 R) 3 5 4)) 3 6 5)) 3 7 6)
theorem mk_201_3 (h : Q none (am_pt 7 (mk_201_3_I I) (mk_201_3_L L) (mk_201_3_R R))) : am_WPm G l 201 [.ref 3] (am_pt 4 I L R) Q := by
  refine am_goK (am_ok_all 201 (by decide)) 3 ?_
  refine am_goK (am_ok_all 201 (by decide)) 0 ?_
  refine And.intro (by decide) ?_
  show am_WP G l 201 9 [some (.ref 3)] [.ref 4, .ref 3] 1 8 (am_new (am_pt 4 _ _ _) 100 8) Q
  rw [am_new_pt (show am_SH 4 = (100, 8) from rfl)]
  refine am_goK (am_ok_all 201 (by decide)) 2 ?_
  refine am_goK (am_ok_all 201 (by decide)) 0 ?_
  refine And.intro (by decide) ?_
  show am_WP G l 201 17 [some (.ref 3)] [.ref 5, .ref 3] 2 16 (am_new (am_pt 5 _ _ _) 100 8) Q
  rw [am_new_pt (show am_SH 5 = (100, 8) from rfl)]
  refine am_goK (am_ok_all 201 (by decide)) 2 ?_
  refine am_goK (am_ok_all 201 (by decide)) 0 ?_
  refine And.intro (by decide) ?_
  show am_WP G l 201 25 [some (.ref 3)] [.ref 6, .ref 3] 3 24 (am_new (am_pt 6 _ _ _) 100 8) Q
  rw [am_new_pt (show am_SH 6 = (100, 8) from rfl)]
  refine am_goK (am_ok_all 201 (by decide)) 1 ?_
  exact h
def mk_244_7_I (I : am_I) : am_I := (mz 11 (mz 10 (mz 9 (mz 8 I))))
def mk_244_7_L (L : am_J) : am_J := (mzL 11 (mzL 10 (mzL 9 (mzL 8 L))))
def mk_244_7_R (R : Nat → Nat → Option Nat) : Nat → Nat → Option Nat := (mrR (mzR 11 (mrR (mzR 10 (mrR (mzR 9 (mrR (mzR 8 R) 7 5 8)) 7 6 9)) 7 7 10)) 7 8 11)
theorem mk_244_7 (h : Q none (am_pt 12 (mk_244_7_I I) (mk_244_7_L L) (mk_244_7_R R))) : am_WPm G l 244 [.ref 7] (am_pt 8 I L R) Q := by
  refine am_goK (am_ok_all 244 (by decide)) 3 ?_
  refine am_goK (am_ok_all 244 (by decide)) 0 ?_
  refine And.intro (by decide) ?_
  show am_WP G l 244 9 [some (.ref 7)] [.ref 8, .ref 7] 1 8 (am_new (am_pt 8 _ _ _) 100 8) Q
  rw [am_new_pt (show am_SH 8 = (100, 8) from rfl)]
  refine am_goK (am_ok_all 244 (by decide)) 2 ?_
  refine am_goK (am_ok_all 244 (by decide)) 0 ?_
  refine And.intro (by decide) ?_
  show am_WP G l 244 17 [some (.ref 7)] [.ref 9, .ref 7] 2 16 (am_new (am_pt 9 _ _ _) 100 8) Q
  rw [am_new_pt (show am_SH 9 = (100, 8) from rfl)]
  refine am_goK (am_ok_all 244 (by decide)) 2 ?_
  refine am_goK (am_ok_all 244 (by decide)) 0 ?_
  refine And.intro (by decide) ?_
  show am_WP G l 244 25 [some (.ref 7)] [.ref 10, .ref 7] 3 24 (am_new (am_pt 10 _ _ _) 100 8) Q
  rw [am_new_pt (show am_SH 10 = (100, 8) from rfl)]
  refine am_goK (am_ok_all 244 (by decide)) 2 ?_
  refine am_goK (am_ok_all 244 (by decide)) 0 ?_
  refine And.intro (by decide) ?_
  show am_WP G l 244 33 [some (.ref 7)] [.ref 11, .ref 7] 4 32 (am_new (am_pt 11 _ _ _) 100 8) Q
  rw [am_new_pt (show am_SH 11 = (100, 8) from rfl)]
  refine am_goK (am_ok_all 244 (by decide)) 1 ?_
  exact h
def mk_171_12_I (I : am_I) : am_I := (mz 13 I)
def mk_171_12_L (L : am_J) : am_J := (mzL 13 L)
def mk_171_12_R (R : Nat → Nat → Option Nat) : Nat → Nat → Option Nat := (mrR (mzR 13 R) 12 0 13)
theorem mk_171_12 (h : Q none (am_pt 14 (mk_171_12_I I) (mk_171_12_L L) (mk_171_12_R R))) : am_WPm G l 171 [.ref 12] (am_pt 13 I L R) Q := by
  refine am_goK (am_ok_all 171 (by decide)) 3 ?_
  refine am_goK (am_ok_all 171 (by decide)) 0 ?_
  refine And.intro (by decide) ?_
  show am_WP G l 171 9 [some (.ref 12)] [.ref 13, .ref 12] 1 64 (am_new (am_pt 13 _ _ _) 100 64) Q
  rw [am_new_pt (show am_SH 13 = (100, 64) from rfl)]
  refine am_goK (am_ok_all 171 (by decide)) 1 ?_
  exact h
def mk_171_14_I (I : am_I) : am_I := (mz 15 I)
def mk_171_14_L (L : am_J) : am_J := (mzL 15 L)
def mk_171_14_R (R : Nat → Nat → Option Nat) : Nat → Nat → Option Nat := (mrR (mzR 15 R) 14 0 15)
theorem mk_171_14 (h : Q none (am_pt 16 (mk_171_14_I I) (mk_171_14_L L) (mk_171_14_R R))) : am_WPm G l 171 [.ref 14] (am_pt 15 I L R) Q := by
  refine am_goK (am_ok_all 171 (by decide)) 3 ?_
  refine am_goK (am_ok_all 171 (by decide)) 0 ?_
  refine And.intro (by decide) ?_
  show am_WP G l 171 9 [some (.ref 14)] [.ref 15, .ref 14] 1 64 (am_new (am_pt 15 _ _ _) 100 64) Q
  rw [am_new_pt (show am_SH 15 = (100, 64) from rfl)]
  refine am_goK (am_ok_all 171 (by decide)) 1 ?_
  exact h
def mk_223_17_I (I : am_I) : am_I := (am_u I 17 2 (-9))
def mk_223_17_L (L : am_J) : am_J := L
def mk_223_17_R (R : Nat → Nat → Option Nat) : Nat → Nat → Option Nat := R
theorem mk_223_17 (h : Q none (am_pt 18 (mk_223_17_I I) (mk_223_17_L L) (mk_223_17_R R))) : am_WPm G l 223 [.ref 17] (am_pt 18 I L R) Q := by
  refine am_goK (am_ok_all 223 (by decide)) 5 ?_
  exact h
def mk_223_18_I (I : am_I) : am_I := (am_u I 18 2 (-9))
def mk_223_18_L (L : am_J) : am_J := L
def mk_223_18_R (R : Nat → Nat → Option Nat) : Nat → Nat → Option Nat := R
theorem mk_223_18 (h : Q none (am_pt 19 (mk_223_18_I I) (mk_223_18_L L) (mk_223_18_R R))) : am_WPm G l 223 [.ref 18] (am_pt 19 I L R) Q := by
  refine am_goK (am_ok_all 223 (by decide)) 5 ?_
  exact h
def mk_213_16_I (I : am_I) : am_I := (mz 19 (mk_223_18_I (mz 18 (mk_223_17_I (mz 17 I)))))
def mk_213_16_L (L : am_J) : am_J := (mzL 19 (mk_223_18_L (mzL 18 (mk_223_17_L (mzL 17 L)))))
def mk_213_16_R (R : Nat → Nat → Option Nat) : Nat → Nat → Option Nat := (mrR (mzR 19 (mrR (mk_223_18_R (mzR 18 (mrR (mk_223_17_R (mzR 17 R)) 16 0 17))) 16 2 18)) 16 3 19)
theorem mk_213_16 (h : Q none (am_pt 20 (mk_213_16_I I) (mk_213_16_L L) (mk_213_16_R R))) : am_WPm G l 213 [.ref 16] (am_pt 17 I L R) Q := by
  refine am_goK (am_ok_all 213 (by decide)) 2 ?_
  refine am_goK (am_ok_all 213 (by decide)) 0 ?_
  show am_WP G l 213 8 [some (.ref 16)] [.ref 17, .ref 16] 1 4 (am_new (am_pt 17 _ _ _) 5 4) Q
  rw [am_new_pt (show am_SH 17 = (5, 4) from rfl)]
  refine am_goK (am_ok_all 213 (by decide)) 1 ?_
  refine mk_223_17 ?_
  refine am_goK (am_ok_all 213 (by decide)) 1 ?_
  refine am_goK (am_ok_all 213 (by decide)) 0 ?_
  show am_WP G l 213 19 [some (.ref 16)] [.ref 18, .ref 16] 2 8 (am_new (am_pt 18 _ _ _) 5 4) Q
  rw [am_new_pt (show am_SH 18 = (5, 4) from rfl)]
  refine am_goK (am_ok_all 213 (by decide)) 1 ?_
  refine mk_223_18 ?_
  refine am_goK (am_ok_all 213 (by decide)) 2 ?_
  refine am_goK (am_ok_all 213 (by decide)) 0 ?_
  refine And.intro (by decide) ?_
  show am_WP G l 213 32 [some (.ref 16)] [.ref 19, .ref 16] 3 208 (am_new (am_pt 19 _ _ _) 100 200) Q
  rw [am_new_pt (show am_SH 19 = (100, 200) from rfl)]
  refine am_goK (am_ok_all 213 (by decide)) 1 ?_
  exact h
def mk_223_20_I (I : am_I) : am_I := (am_u I 20 2 (-9))
def mk_223_20_L (L : am_J) : am_J := L
def mk_223_20_R (R : Nat → Nat → Option Nat) : Nat → Nat → Option Nat := R
theorem mk_223_20 (h : Q none (am_pt 21 (mk_223_20_I I) (mk_223_20_L L) (mk_223_20_R R))) : am_WPm G l 223 [.ref 20] (am_pt 21 I L R) Q := by
  refine am_goK (am_ok_all 223 (by decide)) 5 ?_
  exact h
def mk_219_22_I (I : am_I) : am_I := (mz 24 (mz 23 I))
def mk_219_22_L (L : am_J) : am_J := (mzL 24 (mzL 23 L))
def mk_219_22_R (R : Nat → Nat → Option Nat) : Nat → Nat → Option Nat := (mrR (mzR 24 (mrR (mzR 23 R) 22 1 23)) 22 2 24)
theorem mk_219_22 (h : Q none (am_pt 25 (mk_219_22_I I) (mk_219_22_L L) (mk_219_22_R R))) : am_WPm G l 219 [.ref 22] (am_pt 23 I L R) Q := by
  refine am_goK (am_ok_all 219 (by decide)) 3 ?_
  refine am_goK (am_ok_all 219 (by decide)) 0 ?_
  refine And.intro (by decide) ?_
  show am_WP G l 219 9 [some (.ref 22)] [.ref 23, .ref 22] 1 8 (am_new (am_pt 23 _ _ _) 100 8) Q
  rw [am_new_pt (show am_SH 23 = (100, 8) from rfl)]
  refine am_goK (am_ok_all 219 (by decide)) 2 ?_
  refine am_goK (am_ok_all 219 (by decide)) 0 ?_
  refine And.intro (by decide) ?_
  show am_WP G l 219 17 [some (.ref 22)] [.ref 24, .ref 22] 2 16 (am_new (am_pt 24 _ _ _) 100 8) Q
  rw [am_new_pt (show am_SH 24 = (100, 8) from rfl)]
  refine am_goK (am_ok_all 219 (by decide)) 1 ?_
  exact h
def mk_174_25_I (I : am_I) : am_I := (mz 33 (mz 32 (mz 31 (mz 30 (mz 29 (mz 28 (mz 27 (mz 26 (am_u I 25 1 1)))))))))
def mk_174_25_L (L : am_J) : am_J := (mzL 33 (mzL 32 (mzL 31 (mzL 30 (mzL 29 (mzL 28 (mzL 27 (mzL 26 L))))))))
def mk_174_25_R (R : Nat → Nat → Option Nat) : Nat → Nat → Option Nat := (mrR (mzR 33 (mrR (mzR 32 (mrR (mzR 31 (mrR (mzR 30 (mrR (mzR 29 (mrR (mzR 28 (mrR (mzR 27 (mrR (mzR 26 R) 25 6 26)) 25 7 27)) 25 8 28)) 25 9 29)) 25 10 30)) 25 11 31)) 25 12 32)) 25 13 33)
theorem mk_174_25 (h : Q none (am_pt 34 (mk_174_25_I I) (mk_174_25_L L) (mk_174_25_R R))) : am_WPm G l 174 [.ref 25] (am_pt 26 I L R) Q := by
  refine am_goK (am_ok_all 174 (by decide)) 4 ?_
  refine And.intro (Or.inr rfl) ?_
  refine am_goK (am_ok_all 174 (by decide)) 1 ?_
  refine am_goK (am_ok_all 174 (by decide)) 0 ?_
  refine And.intro (by decide) ?_
  show am_WP G l 174 14 [some (.ref 25)] [.ref 26, .ref 25] 1 8 (am_new (am_pt 26 _ _ _) 100 8) Q
  rw [am_new_pt (show am_SH 26 = (100, 8) from rfl)]
  refine am_goK (am_ok_all 174 (by decide)) 2 ?_
  refine am_goK (am_ok_all 174 (by decide)) 0 ?_
  refine And.intro (by decide) ?_
  show am_WP G l 174 23 [some (.ref 25)] [.ref 27, .ref 25] 2 4104 (am_new (am_pt 27 _ _ _) 100 4096) Q
  rw [am_new_pt (show am_SH 27 = (100, 4096) from rfl)]
  refine am_goK (am_ok_all 174 (by decide)) 2 ?_
  refine am_goK (am_ok_all 174 (by decide)) 0 ?_
  refine And.intro (by decide) ?_
  show am_WP G l 174 32 [some (.ref 25)] [.ref 28, .ref 25] 3 4616 (am_new (am_pt 28 _ _ _) 100 512) Q
  rw [am_new_pt (show am_SH 28 = (100, 512) from rfl)]
  refine am_goK (am_ok_all 174 (by decide)) 2 ?_
  refine am_goK (am_ok_all 174 (by decide)) 0 ?_
  refine And.intro (by decide) ?_
  show am_WP G l 174 41 [some (.ref 25)] [.ref 29, .ref 25] 4 5128 (am_new (am_pt 29 _ _ _) 100 512) Q
  rw [am_new_pt (show am_SH 29 = (100, 512) from rfl)]
  refine am_goK (am_ok_all 174 (by decide)) 2 ?_
  refine am_goK (am_ok_all 174 (by decide)) 0 ?_
  refine And.intro (by decide) ?_
  show am_WP G l 174 49 [some (.ref 25)] [.ref 30, .ref 25] 5 5192 (am_new (am_pt 30 _ _ _) 100 64) Q
  rw [am_new_pt (show am_SH 30 = (100, 64) from rfl)]
  refine am_goK (am_ok_all 174 (by decide)) 2 ?_
  refine am_goK (am_ok_all 174 (by decide)) 0 ?_
  refine And.intro (by decide) ?_
  show am_WP G l 174 58 [some (.ref 25)] [.ref 31, .ref 25] 6 5704 (am_new (am_pt 31 _ _ _) 100 512) Q
  rw [am_new_pt (show am_SH 31 = (100, 512) from rfl)]
  refine am_goK (am_ok_all 174 (by decide)) 2 ?_
  refine am_goK (am_ok_all 174 (by decide)) 0 ?_
  refine And.intro (by decide) ?_
  show am_WP G l 174 66 [some (.ref 25)] [.ref 32, .ref 25] 7 5712 (am_new (am_pt 32 _ _ _) 100 8) Q
  rw [am_new_pt (show am_SH 32 = (100, 8) from rfl)]
  refine am_goK (am_ok_all 174 (by decide)) 2 ?_
  refine am_goK (am_ok_all 174 (by decide)) 0 ?_
  refine And.intro (by decide) ?_
  show am_WP G l 174 74 [some (.ref 25)] [.ref 33, .ref 25] 8 5776 (am_new (am_pt 33 _ _ _) 100 64) Q
  rw [am_new_pt (show am_SH 33 = (100, 64) from rfl)]
  refine am_goK (am_ok_all 174 (by decide)) 1 ?_
  exact h
def mk_166_34_I (I : am_I) : am_I := (mz 35 I)
def mk_166_34_L (L : am_J) : am_J := (mzL 35 L)
def mk_166_34_R (R : Nat → Nat → Option Nat) : Nat → Nat → Option Nat := (mrR (mzR 35 R) 34 1 35)
theorem mk_166_34 (h : Q none (am_pt 36 (mk_166_34_I I) (mk_166_34_L L) (mk_166_34_R R))) : am_WPm G l 166 [.ref 34] (am_pt 35 I L R) Q := by
  refine am_goK (am_ok_all 166 (by decide)) 3 ?_
  refine am_goK (am_ok_all 166 (by decide)) 0 ?_
  refine And.intro (by decide) ?_
  show am_WP G l 166 10 [some (.ref 34)] [.ref 35, .ref 34] 1 512 (am_new (am_pt 35 _ _ _) 100 512) Q
  rw [am_new_pt (show am_SH 35 = (100, 512) from rfl)]
  refine am_goK (am_ok_all 166 (by decide)) 1 ?_
  exact h
def mk_239_36_I (I : am_I) : am_I := (mz 37 I)
def mk_239_36_L (L : am_J) : am_J := (mzL 37 (am_uJ L 36 2 1))
def mk_239_36_R (R : Nat → Nat → Option Nat) : Nat → Nat → Option Nat := (mrR (mzR 37 R) 36 4 37)
theorem mk_239_36 (h : Q none (am_pt 38 (mk_239_36_I I) (mk_239_36_L L) (mk_239_36_R R))) : am_WPm G l 239 [.ref 36] (am_pt 37 I L R) Q := by
  refine am_goK (am_ok_all 239 (by decide)) 6 ?_
  refine am_goK (am_ok_all 239 (by decide)) 0 ?_
  refine And.intro (by decide) ?_
  show am_WP G l 239 14 [some (.ref 36)] [.ref 37, .ref 36] 1 8 (am_new (am_pt 37 _ _ _) 100 8) Q
  rw [am_new_pt (show am_SH 37 = (100, 8) from rfl)]
  refine am_goK (am_ok_all 239 (by decide)) 1 ?_
  exact h
def mk_231_38_I (I : am_I) : am_I := (mz 39 (am_u I 38 1 (-1)))
def mk_231_38_L (L : am_J) : am_J := (mzL 39 L)
def mk_231_38_R (R : Nat → Nat → Option Nat) : Nat → Nat → Option Nat := (mrR (mzR 39 R) 38 0 39)
theorem mk_231_38 (h : Q none (am_pt 40 (mk_231_38_I I) (mk_231_38_L L) (mk_231_38_R R))) : am_WPm G l 231 [.ref 38, .int 60] (am_pt 39 I L R) Q := by
  refine am_goK (am_ok_all 231 (by decide)) 8 ?_
  show am_WP G l 231 15 [some (.ref 38), some (.int 60)] [.int (if (60 : Int32) < 0 then 0 else 60), .ref 38] 0 0 (am_pt 39 _ _ _) Q
  rw [show (if (60 : Int32) < 0 then (0 : Int32) else 60) = 60 from by decide]
  refine am_goK (am_ok_all 231 (by decide)) 0 ?_
  refine And.intro (by decide) ?_
  show am_WP G l 231 17 [some (.ref 38), some (.int 60)] [.ref 39, .ref 38] 1 60 (am_new (am_pt 39 _ _ _) 100 60) Q
  rw [am_new_pt (show am_SH 39 = (100, 60) from rfl)]
  refine am_goK (am_ok_all 231 (by decide)) 1 ?_
  exact h
def mk_231_40_I (I : am_I) : am_I := (mz 41 (am_u I 40 1 (-1)))
def mk_231_40_L (L : am_J) : am_J := (mzL 41 L)
def mk_231_40_R (R : Nat → Nat → Option Nat) : Nat → Nat → Option Nat := (mrR (mzR 41 R) 40 0 41)
theorem mk_231_40 (h : Q none (am_pt 42 (mk_231_40_I I) (mk_231_40_L L) (mk_231_40_R R))) : am_WPm G l 231 [.ref 40, .int 60] (am_pt 41 I L R) Q := by
  refine am_goK (am_ok_all 231 (by decide)) 8 ?_
  show am_WP G l 231 15 [some (.ref 40), some (.int 60)] [.int (if (60 : Int32) < 0 then 0 else 60), .ref 40] 0 0 (am_pt 41 _ _ _) Q
  rw [show (if (60 : Int32) < 0 then (0 : Int32) else 60) = 60 from by decide]
  refine am_goK (am_ok_all 231 (by decide)) 0 ?_
  refine And.intro (by decide) ?_
  show am_WP G l 231 17 [some (.ref 40), some (.int 60)] [.ref 41, .ref 40] 1 60 (am_new (am_pt 41 _ _ _) 100 60) Q
  rw [am_new_pt (show am_SH 41 = (100, 60) from rfl)]
  refine am_goK (am_ok_all 231 (by decide)) 1 ?_
  exact h
def mk_231_42_I (I : am_I) : am_I := (mz 43 (am_u I 42 1 (-1)))
def mk_231_42_L (L : am_J) : am_J := (mzL 43 L)
def mk_231_42_R (R : Nat → Nat → Option Nat) : Nat → Nat → Option Nat := (mrR (mzR 43 R) 42 0 43)
theorem mk_231_42 (h : Q none (am_pt 44 (mk_231_42_I I) (mk_231_42_L L) (mk_231_42_R R))) : am_WPm G l 231 [.ref 42, .int 60] (am_pt 43 I L R) Q := by
  refine am_goK (am_ok_all 231 (by decide)) 8 ?_
  show am_WP G l 231 15 [some (.ref 42), some (.int 60)] [.int (if (60 : Int32) < 0 then 0 else 60), .ref 42] 0 0 (am_pt 43 _ _ _) Q
  rw [show (if (60 : Int32) < 0 then (0 : Int32) else 60) = 60 from by decide]
  refine am_goK (am_ok_all 231 (by decide)) 0 ?_
  refine And.intro (by decide) ?_
  show am_WP G l 231 17 [some (.ref 42), some (.int 60)] [.ref 43, .ref 42] 1 60 (am_new (am_pt 43 _ _ _) 100 60) Q
  rw [am_new_pt (show am_SH 43 = (100, 60) from rfl)]
  refine am_goK (am_ok_all 231 (by decide)) 1 ?_
  exact h
def mk_231_44_I (I : am_I) : am_I := (mz 45 (am_u I 44 1 (-1)))
def mk_231_44_L (L : am_J) : am_J := (mzL 45 L)
def mk_231_44_R (R : Nat → Nat → Option Nat) : Nat → Nat → Option Nat := (mrR (mzR 45 R) 44 0 45)
theorem mk_231_44 (h : Q none (am_pt 46 (mk_231_44_I I) (mk_231_44_L L) (mk_231_44_R R))) : am_WPm G l 231 [.ref 44, .int 60] (am_pt 45 I L R) Q := by
  refine am_goK (am_ok_all 231 (by decide)) 8 ?_
  show am_WP G l 231 15 [some (.ref 44), some (.int 60)] [.int (if (60 : Int32) < 0 then 0 else 60), .ref 44] 0 0 (am_pt 45 _ _ _) Q
  rw [show (if (60 : Int32) < 0 then (0 : Int32) else 60) = 60 from by decide]
  refine am_goK (am_ok_all 231 (by decide)) 0 ?_
  refine And.intro (by decide) ?_
  show am_WP G l 231 17 [some (.ref 44), some (.int 60)] [.ref 45, .ref 44] 1 60 (am_new (am_pt 45 _ _ _) 100 60) Q
  rw [am_new_pt (show am_SH 45 = (100, 60) from rfl)]
  refine am_goK (am_ok_all 231 (by decide)) 1 ?_
  exact h
def mk_231_46_I (I : am_I) : am_I := (mz 47 (am_u I 46 1 (-1)))
def mk_231_46_L (L : am_J) : am_J := (mzL 47 L)
def mk_231_46_R (R : Nat → Nat → Option Nat) : Nat → Nat → Option Nat := (mrR (mzR 47 R) 46 0 47)
theorem mk_231_46 (h : Q none (am_pt 48 (mk_231_46_I I) (mk_231_46_L L) (mk_231_46_R R))) : am_WPm G l 231 [.ref 46, .int 60] (am_pt 47 I L R) Q := by
  refine am_goK (am_ok_all 231 (by decide)) 8 ?_
  show am_WP G l 231 15 [some (.ref 46), some (.int 60)] [.int (if (60 : Int32) < 0 then 0 else 60), .ref 46] 0 0 (am_pt 47 _ _ _) Q
  rw [show (if (60 : Int32) < 0 then (0 : Int32) else 60) = 60 from by decide]
  refine am_goK (am_ok_all 231 (by decide)) 0 ?_
  refine And.intro (by decide) ?_
  show am_WP G l 231 17 [some (.ref 46), some (.int 60)] [.ref 47, .ref 46] 1 60 (am_new (am_pt 47 _ _ _) 100 60) Q
  rw [am_new_pt (show am_SH 47 = (100, 60) from rfl)]
  refine am_goK (am_ok_all 231 (by decide)) 1 ?_
  exact h
def mk_231_48_I (I : am_I) : am_I := (mz 49 (am_u I 48 1 (-1)))
def mk_231_48_L (L : am_J) : am_J := (mzL 49 L)
def mk_231_48_R (R : Nat → Nat → Option Nat) : Nat → Nat → Option Nat := (mrR (mzR 49 R) 48 0 49)
theorem mk_231_48 (h : Q none (am_pt 50 (mk_231_48_I I) (mk_231_48_L L) (mk_231_48_R R))) : am_WPm G l 231 [.ref 48, .int 60] (am_pt 49 I L R) Q := by
  refine am_goK (am_ok_all 231 (by decide)) 8 ?_
  show am_WP G l 231 15 [some (.ref 48), some (.int 60)] [.int (if (60 : Int32) < 0 then 0 else 60), .ref 48] 0 0 (am_pt 49 _ _ _) Q
  rw [show (if (60 : Int32) < 0 then (0 : Int32) else 60) = 60 from by decide]
  refine am_goK (am_ok_all 231 (by decide)) 0 ?_
  refine And.intro (by decide) ?_
  show am_WP G l 231 17 [some (.ref 48), some (.int 60)] [.ref 49, .ref 48] 1 60 (am_new (am_pt 49 _ _ _) 100 60) Q
  rw [am_new_pt (show am_SH 49 = (100, 60) from rfl)]
  refine am_goK (am_ok_all 231 (by decide)) 1 ?_
  exact h
def mk_231_50_I (I : am_I) : am_I := (mz 51 (am_u I 50 1 (-1)))
def mk_231_50_L (L : am_J) : am_J := (mzL 51 L)
def mk_231_50_R (R : Nat → Nat → Option Nat) : Nat → Nat → Option Nat := (mrR (mzR 51 R) 50 0 51)
theorem mk_231_50 (h : Q none (am_pt 52 (mk_231_50_I I) (mk_231_50_L L) (mk_231_50_R R))) : am_WPm G l 231 [.ref 50, .int 80] (am_pt 51 I L R) Q := by
  refine am_goK (am_ok_all 231 (by decide)) 8 ?_
  show am_WP G l 231 15 [some (.ref 50), some (.int 80)] [.int (if (80 : Int32) < 0 then 0 else 80), .ref 50] 0 0 (am_pt 51 _ _ _) Q
  rw [show (if (80 : Int32) < 0 then (0 : Int32) else 80) = 80 from by decide]
  refine am_goK (am_ok_all 231 (by decide)) 0 ?_
  refine And.intro (by decide) ?_
  show am_WP G l 231 17 [some (.ref 50), some (.int 80)] [.ref 51, .ref 50] 1 80 (am_new (am_pt 51 _ _ _) 100 80) Q
  rw [am_new_pt (show am_SH 51 = (100, 80) from rfl)]
  refine am_goK (am_ok_all 231 (by decide)) 1 ?_
  exact h
def mk_231_52_I (I : am_I) : am_I := (mz 53 (am_u I 52 1 (-1)))
def mk_231_52_L (L : am_J) : am_J := (mzL 53 L)
def mk_231_52_R (R : Nat → Nat → Option Nat) : Nat → Nat → Option Nat := (mrR (mzR 53 R) 52 0 53)
theorem mk_231_52 (h : Q none (am_pt 54 (mk_231_52_I I) (mk_231_52_L L) (mk_231_52_R R))) : am_WPm G l 231 [.ref 52, .int 80] (am_pt 53 I L R) Q := by
  refine am_goK (am_ok_all 231 (by decide)) 8 ?_
  show am_WP G l 231 15 [some (.ref 52), some (.int 80)] [.int (if (80 : Int32) < 0 then 0 else 80), .ref 52] 0 0 (am_pt 53 _ _ _) Q
  rw [show (if (80 : Int32) < 0 then (0 : Int32) else 80) = 80 from by decide]
  refine am_goK (am_ok_all 231 (by decide)) 0 ?_
  refine And.intro (by decide) ?_
  show am_WP G l 231 17 [some (.ref 52), some (.int 80)] [.ref 53, .ref 52] 1 80 (am_new (am_pt 53 _ _ _) 100 80) Q
  rw [am_new_pt (show am_SH 53 = (100, 80) from rfl)]
  refine am_goK (am_ok_all 231 (by decide)) 1 ?_
  exact h
def mk_231_54_I (I : am_I) : am_I := (mz 55 (am_u I 54 1 (-1)))
def mk_231_54_L (L : am_J) : am_J := (mzL 55 L)
def mk_231_54_R (R : Nat → Nat → Option Nat) : Nat → Nat → Option Nat := (mrR (mzR 55 R) 54 0 55)
theorem mk_231_54 (h : Q none (am_pt 56 (mk_231_54_I I) (mk_231_54_L L) (mk_231_54_R R))) : am_WPm G l 231 [.ref 54, .int 80] (am_pt 55 I L R) Q := by
  refine am_goK (am_ok_all 231 (by decide)) 8 ?_
  show am_WP G l 231 15 [some (.ref 54), some (.int 80)] [.int (if (80 : Int32) < 0 then 0 else 80), .ref 54] 0 0 (am_pt 55 _ _ _) Q
  rw [show (if (80 : Int32) < 0 then (0 : Int32) else 80) = 80 from by decide]
  refine am_goK (am_ok_all 231 (by decide)) 0 ?_
  refine And.intro (by decide) ?_
  show am_WP G l 231 17 [some (.ref 54), some (.int 80)] [.ref 55, .ref 54] 1 80 (am_new (am_pt 55 _ _ _) 100 80) Q
  rw [am_new_pt (show am_SH 55 = (100, 80) from rfl)]
  refine am_goK (am_ok_all 231 (by decide)) 1 ?_
  exact h
def mk_231_56_I (I : am_I) : am_I := (mz 57 (am_u I 56 1 (-1)))
def mk_231_56_L (L : am_J) : am_J := (mzL 57 L)
def mk_231_56_R (R : Nat → Nat → Option Nat) : Nat → Nat → Option Nat := (mrR (mzR 57 R) 56 0 57)
theorem mk_231_56 (h : Q none (am_pt 58 (mk_231_56_I I) (mk_231_56_L L) (mk_231_56_R R))) : am_WPm G l 231 [.ref 56, .int 80] (am_pt 57 I L R) Q := by
  refine am_goK (am_ok_all 231 (by decide)) 8 ?_
  show am_WP G l 231 15 [some (.ref 56), some (.int 80)] [.int (if (80 : Int32) < 0 then 0 else 80), .ref 56] 0 0 (am_pt 57 _ _ _) Q
  rw [show (if (80 : Int32) < 0 then (0 : Int32) else 80) = 80 from by decide]
  refine am_goK (am_ok_all 231 (by decide)) 0 ?_
  refine And.intro (by decide) ?_
  show am_WP G l 231 17 [some (.ref 56), some (.int 80)] [.ref 57, .ref 56] 1 80 (am_new (am_pt 57 _ _ _) 100 80) Q
  rw [am_new_pt (show am_SH 57 = (100, 80) from rfl)]
  refine am_goK (am_ok_all 231 (by decide)) 1 ?_
  exact h
def mk_223_58_I (I : am_I) : am_I := (am_u I 58 2 (-9))
def mk_223_58_L (L : am_J) : am_J := L
def mk_223_58_R (R : Nat → Nat → Option Nat) : Nat → Nat → Option Nat := R
theorem mk_223_58 (h : Q none (am_pt 59 (mk_223_58_I I) (mk_223_58_L L) (mk_223_58_R R))) : am_WPm G l 223 [.ref 58] (am_pt 59 I L R) Q := by
  refine am_goK (am_ok_all 223 (by decide)) 5 ?_
  exact h
def mk_223_59_I (I : am_I) : am_I := (am_u I 59 2 (-9))
def mk_223_59_L (L : am_J) : am_J := L
def mk_223_59_R (R : Nat → Nat → Option Nat) : Nat → Nat → Option Nat := R
theorem mk_223_59 (h : Q none (am_pt 60 (mk_223_59_I I) (mk_223_59_L L) (mk_223_59_R R))) : am_WPm G l 223 [.ref 59] (am_pt 60 I L R) Q := by
  refine am_goK (am_ok_all 223 (by decide)) 5 ?_
  exact h
def mk_223_60_I (I : am_I) : am_I := (am_u I 60 2 (-9))
def mk_223_60_L (L : am_J) : am_J := L
def mk_223_60_R (R : Nat → Nat → Option Nat) : Nat → Nat → Option Nat := R
theorem mk_223_60 (h : Q none (am_pt 61 (mk_223_60_I I) (mk_223_60_L L) (mk_223_60_R R))) : am_WPm G l 223 [.ref 60] (am_pt 61 I L R) Q := by
  refine am_goK (am_ok_all 223 (by decide)) 5 ?_
  exact h
def mk_0_0_I (I : am_I) : am_I := (mk_223_60_I (mz 60 (mk_223_59_I (mz 59 (mk_223_58_I (mz 58 (mk_231_56_I (mz 56 (mk_231_54_I (mz 54 (mk_231_52_I (mz 52 (mk_231_50_I (mz 50 (mk_231_48_I (mz 48 (mk_231_46_I (mz 46 (mk_231_44_I (mz 44 (mk_231_42_I (mz 42 (mk_231_40_I (mz 40 (mk_231_38_I (mz 38 (mk_239_36_I (mz 36 (mk_166_34_I (mz 34 (mk_174_25_I (mz 25 (mk_219_22_I (mz 22 (mz 21 (mk_223_20_I (mz 20 (mk_213_16_I (mz 16 (mk_171_14_I (mz 14 (mk_171_12_I (mz 12 (mk_244_7_I (mz 7 (mk_201_3_I (mz 3 (mz 2 (mz 1 I)))))))))))))))))))))))))))))))))))))))))))))))))
def mk_0_0_L (L : am_J) : am_J := (mk_223_60_L (mzL 60 (mk_223_59_L (mzL 59 (mk_223_58_L (mzL 58 (mk_231_56_L (mzL 56 (mk_231_54_L (mzL 54 (mk_231_52_L (mzL 52 (mk_231_50_L (mzL 50 (mk_231_48_L (mzL 48 (mk_231_46_L (mzL 46 (mk_231_44_L (mzL 44 (mk_231_42_L (mzL 42 (mk_231_40_L (mzL 40 (mk_231_38_L (mzL 38 (mk_239_36_L (mzL 36 (mk_166_34_L (mzL 34 (mk_174_25_L (mzL 25 (mk_219_22_L (mzL 22 (mzL 21 (mk_223_20_L (mzL 20 (mk_213_16_L (mzL 16 (mk_171_14_L (mzL 14 (mk_171_12_L (mzL 12 (mk_244_7_L (mzL 7 (mk_201_3_L (mzL 3 (mzL 2 (mzL 1 L)))))))))))))))))))))))))))))))))))))))))))))))))
def mk_0_0_R (R : Nat → Nat → Option Nat) : Nat → Nat → Option Nat := (mrR (mk_223_60_R (mzR 60 (mrR (mk_223_59_R (mzR 59 (mrR (mk_223_58_R (mzR 58 (mrR (mk_231_56_R (mzR 56 (mrR (mk_231_54_R (mzR 54 (mrR (mk_231_52_R (mzR 52 (mrR (mk_231_50_R (mzR 50 (mrR (mk_231_48_R (mzR 48 (mrR (mk_231_46_R (mzR 46 (mrR (mk_231_44_R (mzR 44 (mrR (mk_231_42_R (mzR 42 (mrR (mk_231_40_R (mzR 40 (mrR (mk_231_38_R (mzR 38 (mrR (mk_239_36_R (mzR 36 (mrR (mk_166_34_R (mzR 34 (mrR (mk_174_25_R (mzR 25 (mrR (mk_219_22_R (mzR 22 (mrR (mzR 21 (mrR (mk_223_20_R (mzR 20 (mrR (mk_213_16_R (mzR 16 (mrR (mk_171_14_R (mzR 14 (mrR (mk_171_12_R (mzR 12 (mrR (mk_244_7_R (mzR 7 (mrR (mk_201_3_R (mzR 3 (mrR (mzR 2 (mrR (mzR 1 R) 0 0 1)) 0 1 2))) 0 2 3))) 0 3 7))) 0 4 12))) 0 5 14))) 0 6 16))) 0 7 20)) 0 8 21))) 0 9 22))) 0 10 25))) 0 11 34))) 0 12 36))) 1 0 38))) 1 1 40))) 1 2 42))) 1 3 44))) 1 4 46))) 1 5 48))) 2 0 50))) 2 1 52))) 2 2 54))) 2 3 56))) 21 0 58))) 21 1 59))) 21 2 60)
set_option maxRecDepth 20000 in
theorem mk_0_0 (h : Q none (am_pt 61 (mk_0_0_I I) (mk_0_0_L L) (mk_0_0_R R))) : am_WPm G l 0 [.ref 0] (am_pt 1 I L R) Q := by
  refine am_goK (am_ok_all 0 (by decide)) 3 ?_
  refine am_goK (am_ok_all 0 (by decide)) 0 ?_
  refine And.intro (by decide) ?_
  show am_WP G l 0 10 [some (.ref 0), none] [.ref 1, .ref 0] 1 6 (am_new (am_pt 1 _ _ _) 102 6) Q
  rw [am_new_pt (show am_SH 1 = (102, 6) from rfl)]
  refine am_goK (am_ok_all 0 (by decide)) 2 ?_
  refine am_goK (am_ok_all 0 (by decide)) 0 ?_
  refine And.intro (by decide) ?_
  show am_WP G l 0 18 [some (.ref 0), none] [.ref 2, .ref 0] 2 10 (am_new (am_pt 2 _ _ _) 102 4) Q
  rw [am_new_pt (show am_SH 2 = (102, 4) from rfl)]
  refine am_goK (am_ok_all 0 (by decide)) 1 ?_
  refine am_goK (am_ok_all 0 (by decide)) 0 ?_
  show am_WP G l 0 25 [some (.ref 0), none] [.ref 3, .ref 0] 3 21 (am_new (am_pt 3 _ _ _) 1 11) Q
  rw [am_new_pt (show am_SH 3 = (1, 11) from rfl)]
  refine am_goK (am_ok_all 0 (by decide)) 1 ?_
  refine mk_201_3 ?_
  refine am_goK (am_ok_all 0 (by decide)) 1 ?_
  refine am_goK (am_ok_all 0 (by decide)) 0 ?_
  show am_WP G l 0 36 [some (.ref 0), none] [.ref 7, .ref 0] 7 57 (am_new (am_pt 7 _ _ _) 2 12) Q
  rw [am_new_pt (show am_SH 7 = (2, 12) from rfl)]
  refine am_goK (am_ok_all 0 (by decide)) 1 ?_
  refine mk_244_7 ?_
  refine am_goK (am_ok_all 0 (by decide)) 1 ?_
  refine am_goK (am_ok_all 0 (by decide)) 0 ?_
  show am_WP G l 0 47 [some (.ref 0), none] [.ref 12, .ref 0] 12 90 (am_new (am_pt 12 _ _ _) 3 1) Q
  rw [am_new_pt (show am_SH 12 = (3, 1) from rfl)]
  refine am_goK (am_ok_all 0 (by decide)) 1 ?_
  refine mk_171_12 ?_
  refine am_goK (am_ok_all 0 (by decide)) 1 ?_
  refine am_goK (am_ok_all 0 (by decide)) 0 ?_
  show am_WP G l 0 58 [some (.ref 0), none] [.ref 14, .ref 0] 14 155 (am_new (am_pt 14 _ _ _) 3 1) Q
  rw [am_new_pt (show am_SH 14 = (3, 1) from rfl)]
  refine am_goK (am_ok_all 0 (by decide)) 1 ?_
  refine mk_171_14 ?_
  refine am_goK (am_ok_all 0 (by decide)) 1 ?_
  refine am_goK (am_ok_all 0 (by decide)) 0 ?_
  show am_WP G l 0 69 [some (.ref 0), none] [.ref 16, .ref 0] 16 223 (am_new (am_pt 16 _ _ _) 4 4) Q
  rw [am_new_pt (show am_SH 16 = (4, 4) from rfl)]
  refine am_goK (am_ok_all 0 (by decide)) 1 ?_
  refine mk_213_16 ?_
  refine am_goK (am_ok_all 0 (by decide)) 1 ?_
  refine am_goK (am_ok_all 0 (by decide)) 0 ?_
  show am_WP G l 0 80 [some (.ref 0), none] [.ref 20, .ref 0] 20 435 (am_new (am_pt 20 _ _ _) 5 4) Q
  rw [am_new_pt (show am_SH 20 = (5, 4) from rfl)]
  refine am_goK (am_ok_all 0 (by decide)) 1 ?_
  refine mk_223_20 ?_
  refine am_goK (am_ok_all 0 (by decide)) 2 ?_
  refine am_goK (am_ok_all 0 (by decide)) 0 ?_
  refine And.intro (by decide) ?_
  show am_WP G l 0 92 [some (.ref 0), none] [.ref 21, .ref 0] 21 438 (am_new (am_pt 21 _ _ _) 103 3) Q
  rw [am_new_pt (show am_SH 21 = (103, 3) from rfl)]
  refine am_goK (am_ok_all 0 (by decide)) 1 ?_
  refine am_goK (am_ok_all 0 (by decide)) 0 ?_
  show am_WP G l 0 99 [some (.ref 0), none] [.ref 22, .ref 0] 22 441 (am_new (am_pt 22 _ _ _) 6 3) Q
  rw [am_new_pt (show am_SH 22 = (6, 3) from rfl)]
  refine am_goK (am_ok_all 0 (by decide)) 1 ?_
  refine mk_219_22 ?_
  refine am_goK (am_ok_all 0 (by decide)) 1 ?_
  refine am_goK (am_ok_all 0 (by decide)) 0 ?_
  show am_WP G l 0 110 [some (.ref 0), none] [.ref 25, .ref 0] 25 471 (am_new (am_pt 25 _ _ _) 7 14) Q
  rw [am_new_pt (show am_SH 25 = (7, 14) from rfl)]
  refine am_goK (am_ok_all 0 (by decide)) 1 ?_
  refine mk_174_25 ?_
  refine am_goK (am_ok_all 0 (by decide)) 1 ?_
  refine am_goK (am_ok_all 0 (by decide)) 0 ?_
  show am_WP G l 0 121 [some (.ref 0), none] [.ref 34, .ref 0] 34 10473 (am_new (am_pt 34 _ _ _) 8 2) Q
  rw [am_new_pt (show am_SH 34 = (8, 2) from rfl)]
  refine am_goK (am_ok_all 0 (by decide)) 1 ?_
  refine mk_166_34 ?_
  refine am_goK (am_ok_all 0 (by decide)) 1 ?_
  refine am_goK (am_ok_all 0 (by decide)) 0 ?_
  show am_WP G l 0 132 [some (.ref 0), none] [.ref 36, .ref 0] 36 10990 (am_new (am_pt 36 _ _ _) 9 5) Q
  rw [am_new_pt (show am_SH 36 = (9, 5) from rfl)]
  refine am_goK (am_ok_all 0 (by decide)) 1 ?_
  refine mk_239_36 ?_
  refine am_goK (am_ok_all 0 (by decide)) 2 ?_
  refine am_goK (am_ok_all 0 (by decide)) 2 ?_
  refine And.intro (fun c => absurd c (by decide)) (fun _ => ?_)
  refine am_goK (am_ok_all 0 (by decide)) 2 ?_
  refine am_goK (am_ok_all 0 (by decide)) 0 ?_
  show am_WP G l 0 155 [some (.ref 0), some (.int 0)] [.ref 38, .int 0, .ref 1] 38 11000 (am_new (am_pt 38 _ _ _) 10 2) Q
  rw [am_new_pt (show am_SH 38 = (10, 2) from rfl)]
  refine am_goK (am_ok_all 0 (by decide)) 2 ?_
  refine mk_231_38 ?_
  refine am_goK (am_ok_all 0 (by decide)) 0 ?_
  refine And.intro (show vp_in (0 : Int32) 6 by unfold vp_in; decide) ?_
  refine am_goK (am_ok_all 0 (by decide)) 1 ?_
  refine am_goK (am_ok_all 0 (by decide)) 2 ?_
  refine And.intro (fun c => absurd c (by decide)) (fun _ => ?_)
  refine am_goK (am_ok_all 0 (by decide)) 2 ?_
  refine am_goK (am_ok_all 0 (by decide)) 0 ?_
  show am_WP G l 0 155 [some (.ref 0), some (.int 1)] [.ref 40, .int 1, .ref 1] 40 11082 (am_new (am_pt 40 _ _ _) 10 2) Q
  rw [am_new_pt (show am_SH 40 = (10, 2) from rfl)]
  refine am_goK (am_ok_all 0 (by decide)) 2 ?_
  refine mk_231_40 ?_
  refine am_goK (am_ok_all 0 (by decide)) 0 ?_
  refine And.intro (show vp_in (1 : Int32) 6 by unfold vp_in; decide) ?_
  refine am_goK (am_ok_all 0 (by decide)) 1 ?_
  refine am_goK (am_ok_all 0 (by decide)) 2 ?_
  refine And.intro (fun c => absurd c (by decide)) (fun _ => ?_)
  refine am_goK (am_ok_all 0 (by decide)) 2 ?_
  refine am_goK (am_ok_all 0 (by decide)) 0 ?_
  show am_WP G l 0 155 [some (.ref 0), some (.int 2)] [.ref 42, .int 2, .ref 1] 42 11164 (am_new (am_pt 42 _ _ _) 10 2) Q
  rw [am_new_pt (show am_SH 42 = (10, 2) from rfl)]
  refine am_goK (am_ok_all 0 (by decide)) 2 ?_
  refine mk_231_42 ?_
  refine am_goK (am_ok_all 0 (by decide)) 0 ?_
  refine And.intro (show vp_in (2 : Int32) 6 by unfold vp_in; decide) ?_
  refine am_goK (am_ok_all 0 (by decide)) 1 ?_
  refine am_goK (am_ok_all 0 (by decide)) 2 ?_
  refine And.intro (fun c => absurd c (by decide)) (fun _ => ?_)
  refine am_goK (am_ok_all 0 (by decide)) 2 ?_
  refine am_goK (am_ok_all 0 (by decide)) 0 ?_
  show am_WP G l 0 155 [some (.ref 0), some (.int 3)] [.ref 44, .int 3, .ref 1] 44 11246 (am_new (am_pt 44 _ _ _) 10 2) Q
  rw [am_new_pt (show am_SH 44 = (10, 2) from rfl)]
  refine am_goK (am_ok_all 0 (by decide)) 2 ?_
  refine mk_231_44 ?_
  refine am_goK (am_ok_all 0 (by decide)) 0 ?_
  refine And.intro (show vp_in (3 : Int32) 6 by unfold vp_in; decide) ?_
  refine am_goK (am_ok_all 0 (by decide)) 1 ?_
  refine am_goK (am_ok_all 0 (by decide)) 2 ?_
  refine And.intro (fun c => absurd c (by decide)) (fun _ => ?_)
  refine am_goK (am_ok_all 0 (by decide)) 2 ?_
  refine am_goK (am_ok_all 0 (by decide)) 0 ?_
  show am_WP G l 0 155 [some (.ref 0), some (.int 4)] [.ref 46, .int 4, .ref 1] 46 11328 (am_new (am_pt 46 _ _ _) 10 2) Q
  rw [am_new_pt (show am_SH 46 = (10, 2) from rfl)]
  refine am_goK (am_ok_all 0 (by decide)) 2 ?_
  refine mk_231_46 ?_
  refine am_goK (am_ok_all 0 (by decide)) 0 ?_
  refine And.intro (show vp_in (4 : Int32) 6 by unfold vp_in; decide) ?_
  refine am_goK (am_ok_all 0 (by decide)) 1 ?_
  refine am_goK (am_ok_all 0 (by decide)) 2 ?_
  refine And.intro (fun c => absurd c (by decide)) (fun _ => ?_)
  refine am_goK (am_ok_all 0 (by decide)) 2 ?_
  refine am_goK (am_ok_all 0 (by decide)) 0 ?_
  show am_WP G l 0 155 [some (.ref 0), some (.int 5)] [.ref 48, .int 5, .ref 1] 48 11410 (am_new (am_pt 48 _ _ _) 10 2) Q
  rw [am_new_pt (show am_SH 48 = (10, 2) from rfl)]
  refine am_goK (am_ok_all 0 (by decide)) 2 ?_
  refine mk_231_48 ?_
  refine am_goK (am_ok_all 0 (by decide)) 0 ?_
  refine And.intro (show vp_in (5 : Int32) 6 by unfold vp_in; decide) ?_
  refine am_goK (am_ok_all 0 (by decide)) 1 ?_
  refine am_goK (am_ok_all 0 (by decide)) 2 ?_
  refine And.intro (fun _ => ?_) (fun c => absurd c (by decide))
  refine am_goK (am_ok_all 0 (by decide)) 1 ?_
  refine am_goK (am_ok_all 0 (by decide)) 2 ?_
  refine And.intro (fun c => absurd c (by decide)) (fun _ => ?_)
  refine am_goK (am_ok_all 0 (by decide)) 2 ?_
  refine am_goK (am_ok_all 0 (by decide)) 0 ?_
  show am_WP G l 0 183 [some (.ref 0), some (.int 0)] [.ref 50, .int 0, .ref 2] 50 11492 (am_new (am_pt 50 _ _ _) 10 2) Q
  rw [am_new_pt (show am_SH 50 = (10, 2) from rfl)]
  refine am_goK (am_ok_all 0 (by decide)) 2 ?_
  refine mk_231_50 ?_
  refine am_goK (am_ok_all 0 (by decide)) 0 ?_
  refine And.intro (show vp_in (0 : Int32) 4 by unfold vp_in; decide) ?_
  refine am_goK (am_ok_all 0 (by decide)) 1 ?_
  refine am_goK (am_ok_all 0 (by decide)) 2 ?_
  refine And.intro (fun c => absurd c (by decide)) (fun _ => ?_)
  refine am_goK (am_ok_all 0 (by decide)) 2 ?_
  refine am_goK (am_ok_all 0 (by decide)) 0 ?_
  show am_WP G l 0 183 [some (.ref 0), some (.int 1)] [.ref 52, .int 1, .ref 2] 52 11574 (am_new (am_pt 52 _ _ _) 10 2) Q
  rw [am_new_pt (show am_SH 52 = (10, 2) from rfl)]
  refine am_goK (am_ok_all 0 (by decide)) 2 ?_
  refine mk_231_52 ?_
  refine am_goK (am_ok_all 0 (by decide)) 0 ?_
  refine And.intro (show vp_in (1 : Int32) 4 by unfold vp_in; decide) ?_
  refine am_goK (am_ok_all 0 (by decide)) 1 ?_
  refine am_goK (am_ok_all 0 (by decide)) 2 ?_
  refine And.intro (fun c => absurd c (by decide)) (fun _ => ?_)
  refine am_goK (am_ok_all 0 (by decide)) 2 ?_
  refine am_goK (am_ok_all 0 (by decide)) 0 ?_
  show am_WP G l 0 183 [some (.ref 0), some (.int 2)] [.ref 54, .int 2, .ref 2] 54 11656 (am_new (am_pt 54 _ _ _) 10 2) Q
  rw [am_new_pt (show am_SH 54 = (10, 2) from rfl)]
  refine am_goK (am_ok_all 0 (by decide)) 2 ?_
  refine mk_231_54 ?_
  refine am_goK (am_ok_all 0 (by decide)) 0 ?_
  refine And.intro (show vp_in (2 : Int32) 4 by unfold vp_in; decide) ?_
  refine am_goK (am_ok_all 0 (by decide)) 1 ?_
  refine am_goK (am_ok_all 0 (by decide)) 2 ?_
  refine And.intro (fun c => absurd c (by decide)) (fun _ => ?_)
  refine am_goK (am_ok_all 0 (by decide)) 2 ?_
  refine am_goK (am_ok_all 0 (by decide)) 0 ?_
  show am_WP G l 0 183 [some (.ref 0), some (.int 3)] [.ref 56, .int 3, .ref 2] 56 11738 (am_new (am_pt 56 _ _ _) 10 2) Q
  rw [am_new_pt (show am_SH 56 = (10, 2) from rfl)]
  refine am_goK (am_ok_all 0 (by decide)) 2 ?_
  refine mk_231_56 ?_
  refine am_goK (am_ok_all 0 (by decide)) 0 ?_
  refine And.intro (show vp_in (3 : Int32) 4 by unfold vp_in; decide) ?_
  refine am_goK (am_ok_all 0 (by decide)) 1 ?_
  refine am_goK (am_ok_all 0 (by decide)) 2 ?_
  refine And.intro (fun _ => ?_) (fun c => absurd c (by decide))
  refine am_goK (am_ok_all 0 (by decide)) 1 ?_
  refine am_goK (am_ok_all 0 (by decide)) 2 ?_
  refine And.intro (fun c => absurd c (by decide)) (fun _ => ?_)
  refine am_goK (am_ok_all 0 (by decide)) 2 ?_
  refine am_goK (am_ok_all 0 (by decide)) 0 ?_
  show am_WP G l 0 211 [some (.ref 0), some (.int 0)] [.ref 58, .int 0, .ref 21] 58 11822 (am_new (am_pt 58 _ _ _) 5 4) Q
  rw [am_new_pt (show am_SH 58 = (5, 4) from rfl)]
  refine am_goK (am_ok_all 0 (by decide)) 1 ?_
  refine mk_223_58 ?_
  refine am_goK (am_ok_all 0 (by decide)) 0 ?_
  refine And.intro (show vp_in (0 : Int32) 3 by unfold vp_in; decide) ?_
  refine am_goK (am_ok_all 0 (by decide)) 1 ?_
  refine am_goK (am_ok_all 0 (by decide)) 2 ?_
  refine And.intro (fun c => absurd c (by decide)) (fun _ => ?_)
  refine am_goK (am_ok_all 0 (by decide)) 2 ?_
  refine am_goK (am_ok_all 0 (by decide)) 0 ?_
  show am_WP G l 0 211 [some (.ref 0), some (.int 1)] [.ref 59, .int 1, .ref 21] 59 11826 (am_new (am_pt 59 _ _ _) 5 4) Q
  rw [am_new_pt (show am_SH 59 = (5, 4) from rfl)]
  refine am_goK (am_ok_all 0 (by decide)) 1 ?_
  refine mk_223_59 ?_
  refine am_goK (am_ok_all 0 (by decide)) 0 ?_
  refine And.intro (show vp_in (1 : Int32) 3 by unfold vp_in; decide) ?_
  refine am_goK (am_ok_all 0 (by decide)) 1 ?_
  refine am_goK (am_ok_all 0 (by decide)) 2 ?_
  refine And.intro (fun c => absurd c (by decide)) (fun _ => ?_)
  refine am_goK (am_ok_all 0 (by decide)) 2 ?_
  refine am_goK (am_ok_all 0 (by decide)) 0 ?_
  show am_WP G l 0 211 [some (.ref 0), some (.int 2)] [.ref 60, .int 2, .ref 21] 60 11830 (am_new (am_pt 60 _ _ _) 5 4) Q
  rw [am_new_pt (show am_SH 60 = (5, 4) from rfl)]
  refine am_goK (am_ok_all 0 (by decide)) 1 ?_
  refine mk_223_60 ?_
  refine am_goK (am_ok_all 0 (by decide)) 0 ?_
  refine And.intro (show vp_in (2 : Int32) 3 by unfold vp_in; decide) ?_
  refine am_goK (am_ok_all 0 (by decide)) 1 ?_
  refine am_goK (am_ok_all 0 (by decide)) 2 ?_
  refine And.intro (fun _ => ?_) (fun c => absurd c (by decide))
  refine am_goK (am_ok_all 0 (by decide)) 0 ?_
  exact h
end MK

/-! pairs: row, lay, at, tear, text, put -/
section PP
variable {G : am_G} {l : Launch} {t : am_T} {I : am_I} {L : am_J}
theorem in38 {x : Nat} (h1 : 38 ≤ x) (h2 : x ≤ 57) : x ∈ exX := by
  have : x = 38 ∨ x = 39 ∨ x = 40 ∨ x = 41 ∨ x = 42 ∨ x = 43 ∨ x = 44 ∨ x = 45 ∨ x = 46 ∨ x = 47 ∨ x = 48 ∨ x = 49 ∨ x = 50 ∨ x = 51 ∨ x = 52 ∨ x = 53 ∨ x = 54 ∨ x = 55 ∨ x = 56 ∨ x = 57 := by omega
  rcases this with rfl | rfl | rfl | rfl | rfl | rfl | rfl | rfl | rfl | rfl | rfl | rfl | rfl | rfl | rfl | rfl | rfl | rfl | rfl | rfl <;> decide
/-- the order of two changes of different rows -/
theorem u_comm {I : am_I} {a j b k : Nat} {v w : Int32} (h : a ≠ b) : am_u (am_u I a j v) b k w = am_u (am_u I b k w) a j v := by
  funext x y
  unfold am_u
  by_cases h1 : x = b ∧ y = k
  · rw [if_pos h1, if_neg (fun q => h (by rw [← q.1, h1.1])), if_pos h1]
  · rw [if_neg h1]
    by_cases h2 : x = a ∧ y = j
    · rw [if_pos h2, if_pos h2]
    · rw [if_neg h2, if_neg h2, if_neg h1]
theorem fd {I : am_I} {f : Nat} {v w : Int32} {x : Nat} (h1 : x ≠ 37) (h2 : x ≠ 36) : am_u (am_u I 36 3 v) 37 f w x = I x := by rw [u_ne h1, u_ne h2]
theorem i8b (v : Int32) : -128 ≤ v.toInt8.toInt32.toInt ∧ v.toInt8.toInt32.toInt ≤ 127 := by
  have e : v.toInt8.toInt32.toInt = v.toInt8.toInt := Int8.toInt_toInt32 _
  rw [e]
  have h1 := v.toInt8.le_toInt
  have h2 := v.toInt8.toInt_le
  have : Int8.minValue.toInt = -128 := rfl
  have : Int8.maxValue.toInt = 127 := rfl
  omega
end PP

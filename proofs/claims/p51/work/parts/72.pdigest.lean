/-! pair: digest -/
def mx (n : Nat) (f : Nat → Int32) (h : Int64) : Int64 := (List.range n).foldl (fun h j => 31 * h + (f j).toInt64) h
theorem mx_s (n : Nat) (f : Nat → Int32) (h : Int64) : mx (n + 1) f h = 31 * mx n f h + (f n).toInt64 := by
  unfold mx
  rw [List.range_succ, List.foldl_append]
  rfl
def itN (n : Nat) (F : Nat → Int64 → Int64) (h : Int64) : Int64 := (List.range n).foldl (fun h j => F j h) h
theorem itN_s (n : Nat) (F : Nat → Int64 → Int64) (h : Int64) : itN (n + 1) F h = F n (itN n F h) := by
  unfold itN
  rw [List.range_succ, List.foldl_append]
  rfl
def wV (T : tT) (c : Nat) : Int32 := if c = tD T then 2 else if (tS T).testBit c then 0 else 1
def pV (T : tT) (sh lt i : Nat) : Int32 := if i % 5 = 0 then nI (tK T (i / 5)) else if i % 5 = 1 then nI (tP T (i / 5)) else if i % 5 = 2 then nI (tR T (i / 5)) else if i % 5 = 3 then nI (if lt.testBit (i / 5) then 1 else 0) else nI (if sh.testBit (i / 5) then 1 else 0)
section PD
variable {G : am_G} {l : Launch} {t : am_T} {I : am_I} {L : am_J} {Q : bm_P}
theorem uJ_eq {L : am_J} {a j : Nat} {v : Int64} : am_uJ L a j v a j = v := by
  unfold am_uJ
  exact if_pos ⟨rfl, rfl⟩
theorem uJ_u {L : am_J} {a j : Nat} {v w : Int64} : am_uJ (am_uJ L a j v) a j w = am_uJ L a j w := by
  funext x y
  unfold am_uJ
  by_cases q : x = a ∧ y = j
  · rw [if_pos q, if_pos q]
  · rw [if_neg q, if_neg q, if_neg q]
end PD

/-! the fewest steps since the door: what the class's table holds on the way -/
theorem gap_in {T : tT} (sh : Nat) {s l k : Nat} (h : s.testBit k = true) (h64 : s < 64) : gap T sh s l k = none := by
  unfold gap
  by_cases q : s ≤ al T ∧ k < tN T ∧ (if s = 0 then l = 7 else s.testBit l = true)
  · rw [if_pos q]
    have s0 : s ≠ 0 := fun e => by rw [e] at h; simp at h
    have q3 := q.2.2
    rw [if_neg s0] at q3
    unfold gap0
    rw [if_neg s0]
    unfold pace
    rw [if_pos]
    by_cases e : k = l
    · rw [e]
      exact Or.inl (shn_self T sh l)
    · refine Or.inr ?_
      rw [Nat.testBit_or, Bool.or_eq_true]
      refine Or.inl (lit_self q.2.1 ?_)
      have hl6 : l < 6 := by
        by_cases w : l < 6
        · exact w
        · rw [tb_big (n := 6) (by omega) (by omega)] at q3
          cases q3
      rw [← and_cm1 s h64 l hl6 q3, tb_and_cm (by omega), h, tb_one]
      simp
      exact fun w => e w.symm
  · rw [if_neg q]
def eS (g : Nat → Nat → Nat → Option Nat) (s l k S' l' : Nat) : Option Nat :=
  if S' = 0 then (if l' = 7 then some 0 else none)
  else if S'.testBit l' = true then
    (if S' - 2 ^ l' < s then Fo g S' l' else if S' - 2 ^ l' = s then ominN (if l' < k then l + 1 else l) (fun last => oadd (Fo g s last) (g s last l')) else none)
  else none
theorem Fo_eq (g : Nat → Nat → Nat → Option Nat) (s l : Nat) : Fo g s l = if s = 0 then (if l = 7 then some 0 else none) else if s.testBit l = true then ominN 8 (fun last => oadd (Fo g (s - 2 ^ l) last) (g (s - 2 ^ l) last l)) else none := by
  rw [Fo]
  by_cases q : s = 0
  · rw [if_pos q, if_pos q]
  · rw [if_neg q, if_neg q]
    by_cases h : s.testBit l = true
    · rw [dif_pos h, if_pos h]
    · rw [dif_neg h, if_neg h]
/-- what is read at s, l is settled -/
theorem eS_now (g : Nat → Nat → Nat → Option Nat) (s l k : Nat) : eS g s l k s l = Fo g s l := by
  rw [Fo_eq]
  unfold eS
  by_cases q : s = 0
  · rw [if_pos q, if_pos q]
  · rw [if_neg q, if_neg q]
    by_cases h : s.testBit l = true
    · have := two_le h
      have := Nat.two_pow_pos l
      rw [if_pos h, if_pos h, if_pos (by omega), Fo_eq, if_neg q, if_pos h]
    · rw [if_neg h, if_neg h]
/-- a set is done -/
theorem eS_next (g : Nat → Nat → Nat → Option Nat) (s S' l' : Nat) : eS g (s + 1) 0 0 S' l' = eS g s 8 0 S' l' := by
  unfold eS
  by_cases q : S' = 0
  · rw [if_pos q, if_pos q]
  · rw [if_neg q, if_neg q]
    by_cases h : S'.testBit l' = true
    · rw [if_pos h, if_pos h]
      by_cases c : S' - 2 ^ l' < s
      · rw [if_pos c, if_pos (by omega)]
      · rw [if_neg c]
        by_cases c2 : S' - 2 ^ l' = s
        · rw [if_pos c2, if_pos (by omega), if_neg (Nat.not_lt_zero _), Fo_eq, if_neg q, if_pos h, c2]
        · rw [if_neg c2, if_neg (by omega)]
          by_cases c3 : S' - 2 ^ l' = s + 1
          · rw [if_pos c3]
            rfl
          · rw [if_neg c3]
    · rw [if_neg h, if_neg h]
/-- no lamp is gone to from here -/
theorem eS_skip {g : Nat → Nat → Nat → Option Nat} {s l : Nat} (h : Fo g s l = none) (S' l' : Nat) : eS g s (l + 1) 0 S' l' = eS g s l 0 S' l' := by
  unfold eS
  have e : ∀ n f, f n = none → ominN (n + 1) f = ominN n f := by
    intro n f e
    show omin (ominN n f) (f n) = _
    rw [e]
    cases ominN n f <;> rfl
  rw [if_neg (Nat.not_lt_zero _), if_neg (Nat.not_lt_zero _), e l _ (by rw [h]; rfl)]

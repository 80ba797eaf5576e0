/-! the reference's table of fewest steps and of ways -/
/-- steps from lamp to lamp as the reference goes: from a cell, among some lamps, where others shine -/
def gr (T : tT) (sh c ot A s l k : Nat) : Option Nat := if s ≤ al T ∧ k < tN T ∧ A.testBit k = true ∧ s.testBit k = false ∧ (if s = 0 then l = 7 else (l < tN T ∧ s.testBit l = true)) then gap0 T sh c ot s l k else none
theorem gap0_lt {T : tT} {sh c ot s l k v : Nat} (e : gap0 T sh c ot s l k = some v) : v < 25 := by
  unfold gap0 at e
  by_cases q2 : s = 0
  · rw [if_pos q2] at e
    exact pace_lt e
  · rw [if_neg q2] at e
    exact pace_lt e
theorem gr_lt {T : tT} {sh c ot A s l k v : Nat} (e : gr T sh c ot A s l k = some v) : v < 25 := by
  unfold gr at e
  by_cases q : s ≤ al T ∧ k < tN T ∧ A.testBit k = true ∧ s.testBit k = false ∧ (if s = 0 then l = 7 else (l < tN T ∧ s.testBit l = true))
  · rw [if_pos q] at e
    exact gap0_lt e
  · rw [if_neg q] at e
    cases e
theorem gap0_c {T : tT} {sh c ot s l k : Nat} (h : s ≠ 0) (c' : Nat) : gap0 T sh c ot s l k = gap0 T sh c' ot s l k := by
  unfold gap0
  rw [if_neg h, if_neg h]
theorem eS_ob {g : Nat → Nat → Nat → Option Nat} (hg : ∀ s l k v, g s l k = some v → v < 25) {s l k S' l' : Nat} (hs : s < 64) (hS : S' < 64) : ob (eS g s l k S' l') := by
  intro v e
  unfold eS at e
  split at e
  · split at e
    · cases e; omega
    · cases e
  · split at e
    · split at e
      · have := Fo_lt hg _ _ v e
        omega
      · split at e
        · obtain ⟨i, _, e2⟩ := ominN_some _ _ e
          obtain ⟨x, y, e3, e4, rfl⟩ := oadd_some e2
          have := Fo_lt hg _ _ x e3
          have := hg _ _ _ _ e4
          omega
        · cases e
    · cases e
theorem up_al {T : tT} (h6 : tN T ≤ 6) {s k : Nat} (hs : s ≤ al T) (hk : k < tN T) (hb : s.testBit k = false) : s + 2 ^ k ≤ al T ∧ s + 2 ^ k < 64 := by
  have p := Nat.two_pow_pos (tN T)
  have a64 := Nat.pow_le_pow_right (n := 2) (by decide) h6
  have s64 : s < 64 := by unfold al at hs; omega
  obtain ⟨b1, b2, b3⟩ := bit_up s s64 k (by omega) hb
  have sl : s < 2 ^ tN T := by unfold al at hs; omega
  have : s ||| 1 <<< k < 2 ^ tN T := or_lt sl (one_lt hk)
  rw [b1] at this
  unfold al
  omega
section PG
variable {G : am_G} {l : Launch} {t : am_T} {I : am_I} {L : am_J} {Q : bm_P}
theorem n_abit {a k : Nat} (ha : a < 2 ^ 31) (hk : k < 31) : ((nI a &&& (1 : Int32) <<< (nI k &&& 31)).toInt = 0) ↔ a.testBit k = false := by
  rw [k1, n_shl _ (by omega), n_and, n_z (Nat.lt_of_le_of_lt Nat.and_le_left ha), and_one]
end PG

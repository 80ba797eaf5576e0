/-! the fewest steps since the door: one step of the class's loop -/
theorem bit_up : ∀ s, s < 64 → ∀ k, k < 6 → s.testBit k = false → s ||| 1 <<< k = s + 2 ^ k ∧ s + 2 ^ k < 64 ∧ (s + 2 ^ k).testBit k = true := by decide +kernel
theorem bit_dn : ∀ s, s < 64 → ∀ k, k < 6 → s.testBit k = true → (s - 2 ^ k).testBit k = false ∧ s ||| 1 <<< k = s := by decide +kernel
theorem bit_al : ∀ n, n < 7 → ∀ k, k < n → ∀ s, s < 64 → s.testBit k = true → s - 2 ^ k < 2 ^ n → s < 2 ^ n := by decide +kernel
theorem ominN_c {f g : Nat → Option Nat} : ∀ (n : Nat), (∀ i, i < n → f i = g i) → ominN n f = ominN n g
  | 0, _ => rfl
  | n + 1, h => by
    show omin (ominN n f) (f n) = omin (ominN n g) (g n)
    rw [ominN_c n (fun i hi => h i (by omega)), h n (by omega)]
/-- the entry that a step changes -/
theorem eS_step {g : Nat → Nat → Nat → Option Nat} {s l k : Nat} (hs : s < 64) (hk : k < 6) (hb : s.testBit k = false) : eS g s l (k + 1) (s + 2 ^ k) k = omin (eS g s l k (s + 2 ^ k) k) (oadd (Fo g s l) (g s l k)) := by
  obtain ⟨_, b2, b3⟩ := bit_up s hs k hk hb
  have p := Nat.two_pow_pos k
  unfold eS
  have e0 : ¬ (s + 2 ^ k = 0) := by omega
  have e1 : ¬ (s + 2 ^ k - 2 ^ k < s) := by omega
  have e2 : s + 2 ^ k - 2 ^ k = s := by omega
  have e3 : k < k + 1 := by omega
  have e4 : ¬ (k < k) := by omega
  simp only [if_neg e0, if_pos b3, if_neg e1, if_pos e2, if_pos e3, if_neg e4]
  rfl
/-- and those that it doesn't -/
theorem eS_same {g : Nat → Nat → Nat → Option Nat} {s l k S' l' : Nat} (h : ¬ (l' = k ∧ S'.testBit k = true ∧ S' - 2 ^ k = s)) : eS g s l (k + 1) S' l' = eS g s l k S' l' := by
  unfold eS
  by_cases q : S' = 0
  · rw [if_pos q, if_pos q]
  · rw [if_neg q, if_neg q]
    by_cases hb : S'.testBit l' = true
    · rw [if_pos hb, if_pos hb]
      by_cases c : S' - 2 ^ l' < s
      · rw [if_pos c, if_pos c]
      · rw [if_neg c, if_neg c]
        by_cases c2 : S' - 2 ^ l' = s
        · rw [if_pos c2, if_pos c2]
          by_cases e : l' = k
          · subst e
            exact absurd ⟨rfl, hb, c2⟩ h
          · by_cases w : l' < k
            · rw [if_pos w, if_pos (by omega)]
            · rw [if_neg w, if_neg (by omega)]
        · rw [if_neg c2, if_neg c2]
    · rw [if_neg hb, if_neg hb]
/-- all lamps were gone to from here -/
theorem eS_row {g : Nat → Nat → Nat → Option Nat} {s l n : Nat} (h : ∀ k, n ≤ k → g s l k = none) (S' l' : Nat) : eS g s (l + 1) 0 S' l' = eS g s l n S' l' := by
  unfold eS
  by_cases q : S' = 0
  · rw [if_pos q, if_pos q]
  · rw [if_neg q, if_neg q]
    by_cases hb : S'.testBit l' = true
    · rw [if_pos hb, if_pos hb]
      by_cases c : S' - 2 ^ l' < s
      · rw [if_pos c, if_pos c]
      · rw [if_neg c, if_neg c]
        by_cases c2 : S' - 2 ^ l' = s
        · rw [if_pos c2, if_pos c2, if_neg (Nat.not_lt_zero _)]
          by_cases w : l' < n
          · rw [if_pos w]
          · rw [if_neg w]
            show omin (ominN l _) (oadd (Fo g s l) (g s l l')) = _
            rw [h l' (by omega)]
            cases Fo g s l <;> cases ominN l (fun last => oadd (Fo g s last) (g s last l')) <;> rfl
        · rw [if_neg c2, if_neg c2]
    · rw [if_neg hb, if_neg hb]
/-- the table is whole -/
theorem eS_end {T : tT} (sh : Nat) (h6 : tN T ≤ 6) {S' l' : Nat} (h64 : S' < 64) : eS (gap T sh) (al T + 1) 0 0 S' l' = if S' ≤ al T then Fo (gap T sh) S' l' else none := by
  have p := Nat.two_pow_pos (tN T)
  unfold eS
  by_cases q : S' = 0
  · rw [if_pos q, if_pos (show S' ≤ al T by omega), Fo_eq, if_pos q]
  · rw [if_neg q]
    by_cases hb : S'.testBit l' = true
    · rw [if_pos hb]
      have := two_le hb
      have := Nat.two_pow_pos l'
      by_cases c : S' ≤ al T
      · rw [if_pos c, if_pos (by omega)]
      · rw [if_neg c]
        by_cases c1 : S' - 2 ^ l' < al T + 1
        · rw [if_pos c1]
          have l6 : l' < 6 := by
            by_cases w : l' < 6
            · exact w
            · rw [tb_big (n := 6) h64 (by omega)] at hb
              cases hb
          have ln : tN T ≤ l' := by
            by_cases w : l' < tN T
            · have := bit_al (tN T) (by omega) l' w S' h64 hb (by unfold al at c1; omega)
              unfold al at c
              omega
            · omega
          rw [Fo_eq, if_neg q, if_pos hb]
          cases e : ominN 8 (fun last => oadd (Fo (gap T sh) (S' - 2 ^ l') last) (gap T sh (S' - 2 ^ l') last l')) with
          | none => rfl
          | some v =>
            obtain ⟨i, _, e2⟩ := ominN_some _ _ e
            obtain ⟨x, y, _, e4, _⟩ := oadd_some e2
            unfold gap at e4
            rw [if_neg (fun w => by have := w.2.1; omega)] at e4
            cases e4
        · rw [if_neg c1]
          by_cases c2 : S' - 2 ^ l' = al T + 1
          · rw [if_pos c2]
            rfl
          · rw [if_neg c2]
    · rw [if_neg hb]
      by_cases c : S' ≤ al T
      · rw [if_pos c, Fo_eq, if_neg q, if_neg hb]
      · rw [if_neg c]

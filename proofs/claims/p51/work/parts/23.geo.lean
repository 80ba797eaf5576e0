/-! steps of one cell, as sets -/
theorem tb_lA {T : tT} {i : Nat} : (lA T).testBit i = (decide (i < tC T) && decide (i % tW T = 0)) := tb_bO _ _ _
theorem tb_rB {T : tT} {i : Nat} : (rB T).testBit i = (decide (i < tC T) && decide (i % tW T + 1 = tW T)) := tb_bO _ _ _
theorem tb_bs_one {T : tT} (h : tG T) {c way i : Nat} (hc : c < tC T) (hw : way < 4) : (bs T way (1 <<< c)).testBit i = (decide (nq T c way = some i) && (tS T).testBit i) := by
  have h24 := h.c24
  have c32 : 1 <<< c < 2 ^ 32 := one_lt (by omega)
  unfold bs nq
  match way, hw with
  | 0, _ =>
    simp only
    rw [Nat.testBit_and, Nat.testBit_shiftRight, tb_one]
    congr 1
    split
    · simp; omega
    · simp only [Option.some.injEq, decide_eq_decide]
      omega
  | 1, _ =>
    simp only
    rw [Nat.testBit_and, Nat.testBit_shiftLeft, tb_and_cm c32, tb_one, tb_rB]
    congr 1
    split
    · by_cases e : c = i - 1
      · subst e
        simp [*]
      · simp [e]
    · simp only [Option.some.injEq]
      by_cases e : c + 1 = i
      · subst e
        simp [*]
      · rw [decide_eq_false e]
        by_cases e2 : c = i - 1
        · have : ¬ i ≥ 1 := by omega
          simp [this]
        · simp [e2]
  | 2, _ =>
    simp only
    rw [Nat.testBit_and, Nat.testBit_shiftLeft, tb_one]
    by_cases hi : (tS T).testBit i = true
    · have hiC : i < tC T := by
        by_cases q : i < tC T
        · exact q
        · rw [tb_big h.2.2.2.2 (by omega)] at hi
          cases hi
      rw [hi]
      simp only [Bool.and_true]
      split
      · simp only [Option.some.injEq]
        by_cases e : c + tW T = i
        · subst e
          simp
        · rw [decide_eq_false e]
          by_cases e2 : c = i - tW T
          · have : ¬ i ≥ tW T := by omega
            simp [this]
          · simp [e2]
      · simp
        omega
    · rw [Bool.eq_false_iff.mpr hi, Bool.and_false, Bool.and_false]
  | 3, _ =>
    simp only
    rw [Nat.testBit_and, Nat.testBit_shiftRight, tb_and_cm c32, tb_one, tb_lA]
    congr 1
    split
    · by_cases e : c = 1 + i
      · subst e
        simp [*]
      · simp [e]
    · simp only [Option.some.injEq]
      have : 1 ≤ c := by
        rcases Nat.eq_zero_or_pos c with e0 | e0
        · subst e0; simp at *
        · exact e0
      by_cases e : c - 1 = i
      · subst e
        rw [show 1 + (c - 1) = c by omega]
        simp [*]
      · rw [decide_eq_false e]
        simp
        omega
theorem tb_oneO {o : Option Nat} {i : Nat} : (oneO o).testBit i = decide (o = some i) := by
  cases o with
  | none => simp [oneO]
  | some j =>
    unfold oneO
    rw [tb_one]
    simp
theorem bs_one {T : tT} (h : tG T) {c way : Nat} (hc : c < tC T) (hw : way < 4) : bs T way (1 <<< c) = oneO (nx T c way) := by
  apply Nat.eq_of_testBit_eq
  intro i
  rw [tb_bs_one h hc hw, tb_oneO]
  unfold nx
  split
  · rename_i j e
    rw [e]
    by_cases hs : (tS T).testBit j = true
    · simp only [hs, if_true]
      by_cases hji : j = i
      · subst hji; simp [hs]
      · simp [hji]
    · simp only [hs, if_false]
      by_cases hji : j = i
      · subst hji; simp [hs]
      · simp [hji]
  · rename_i e
    rw [e]
    simp
theorem bs_0 (T : tT) (way : Nat) : bs T way 0 = 0 := by
  unfold bs
  split <;> simp
theorem lnAt_s (T : tT) (c way i : Nat) : oneO (lnAt T c way (i + 1)) = match lnAt T c way i with
  | some j => oneO (nx T j way)
  | none => 0 := by
  rw [show lnAt T c way (i + 1) = match lnAt T c way i with
    | some j => nx T j way
    | none => none from rfl]
  split <;> rfl
theorem bs_ln {T : tT} (h : tG T) {c way : Nat} (hc : c < tC T) (hw : way < 4) (i : Nat) : bs T way (oneO (lnAt T c way i)) = oneO (lnAt T c way (i + 1)) := by
  rw [lnAt_s]
  split
  · rename_i j e
    rw [e]
    exact bs_one h (lnAt_lt h hc i j e) hw
  · rename_i e
    rw [e]
    exact bs_0 T way
theorem orN_0 : ∀ (n : Nat), orN n (fun _ => 0) = 0
  | 0 => rfl
  | n + 1 => by unfold orN; rw [orN_0 n]; exact Nat.or_zero 0

/-! leaf methods of the reference -/
theorem pcn_and1 : ∀ (n s : Nat), 0 < s → s < 2 ^ n → pcn n (s &&& (s - 1)) + 1 = pcn n s
  | 0, s, h, h2 => by simp at h2; omega
  | n + 1, s, h, h2 => by
    rw [pcn_s, pcn_s]
    have hb : ∀ a b c d : Nat, a < 2 → c < 2 → (a + 2 * b) &&& (c + 2 * d) = (a &&& c) + 2 * (b &&& d) := fun a b c d ha hc => and_split (k := 1) ha hc
    by_cases e : s % 2 = 1
    · have e1 := hb 1 (s / 2) 0 (s / 2) (by decide) (by decide)
      rw [show 1 + 2 * (s / 2) = s by omega, show 0 + 2 * (s / 2) = s - 1 by omega, Nat.and_self] at e1
      have e2 : (1 &&& 0 : Nat) = 0 := rfl
      rw [e1, e2]
      have e3 : (0 + 2 * (s / 2)) / 2 = s / 2 := by omega
      rw [e3]
      omega
    · have h0 : 0 < s / 2 := by omega
      have e1 := hb 0 (s / 2) 1 (s / 2 - 1) (by decide) (by decide)
      rw [show 0 + 2 * (s / 2) = s by omega, show 1 + 2 * (s / 2 - 1) = s - 1 by omega] at e1
      have e2 : (0 &&& 1 : Nat) = 0 := rfl
      rw [e1, e2]
      have ih := pcn_and1 n (s / 2) h0 (by rw [Nat.pow_succ] at h2; omega)
      have e3 : (0 + 2 * (s / 2 &&& (s / 2 - 1))) / 2 = s / 2 &&& (s / 2 - 1) := by omega
      rw [e3]
      omega
theorem pc_and1 {s : Nat} (h : 0 < s) (h2 : s < 2 ^ 32) : pc (s &&& (s - 1)) + 1 = pc s := pcn_and1 32 s h h2
theorem pc_0 : pc 0 = 0 := pcn_0 32
theorem lcmp_lt {a b : Int64} : (lg_cmp a b).toInt < 0 ↔ a.toInt < b.toInt := by
  unfold lg_cmp
  rw [← Int64.lt_iff_toInt_lt]
  by_cases h : a > b
  · rw [if_pos h]
    have : ¬ a < b := fun q => by
      rw [Int64.lt_iff_toInt_lt] at q
      have h : b < a := h
      rw [Int64.lt_iff_toInt_lt] at h
      omega
    simp [this, T1]
  · rw [if_neg h]
    by_cases e : a = b
    · rw [if_pos e]
      subst e
      simp [T0]
    · rw [if_neg e]
      have : a < b := by
        rw [Int64.lt_iff_toInt_lt]
        have h : ¬ b < a := h
        rw [Int64.lt_iff_toInt_lt] at h
        have : ¬ a.toInt = b.toInt := fun q => e (Int64.toInt_inj.mp q)
        omega
      simp [this, Tm1]
theorem lcmp_gt {a b : Int64} : 0 < (lg_cmp a b).toInt ↔ b.toInt < a.toInt := by
  unfold lg_cmp
  rw [← Int64.lt_iff_toInt_lt]
  by_cases h : a > b
  · rw [if_pos h]
    have : b < a := h
    simp [this, T1]
  · rw [if_neg h]
    have h : ¬ b < a := h
    by_cases e : a = b
    · rw [if_pos e]
      simp [T0, h]
    · rw [if_neg e]
      simp [h, Tm1]
theorem i64 (x : Int32) : x.toInt64.toInt = x.toInt := Int32.toInt_toInt64 x
/-- where a row's places begin -/
def rb (k : Nat) : Nat := if k < 6 then 60 * k else 360 + 80 * (k - 6)
section ML
variable {G : am_G} {l : Launch} {t : am_T} {I : am_I} {L : am_J} {Q : bm_P}
end ML

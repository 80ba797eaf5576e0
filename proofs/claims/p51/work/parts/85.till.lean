/-! the fewest steps that are left: the class -/
theorem Bo_eq (g : Nat → Nat → Nat → Option Nat) (n a s l : Nat) : Bo g n a s l = if a ≤ s then some 0 else ominN n (fun next => if s.testBit next then none else oadd (g s l next) (Bo g n a (s + 2 ^ next) next)) := by
  rw [Bo]
  by_cases h : a ≤ s
  · rw [dif_pos h, if_pos h]
  · rw [dif_neg h, if_neg h]
theorem Bo_lt {g : Nat → Nat → Nat → Option Nat} (hg : ∀ s l k v, g s l k = some v → v < 25) (n a : Nat) : ∀ (d s l v : Nat), a - s = d → Bo g n a s l = some v → v ≤ 25 * (a - s) := by
  intro d
  induction d using Nat.strongRecOn with
  | ind d ih =>
    intro s l v hd e
    rw [Bo_eq] at e
    by_cases h : a ≤ s
    · rw [if_pos h] at e
      cases e
      omega
    · rw [if_neg h] at e
      obtain ⟨i, _, e2⟩ := ominN_some _ _ e
      by_cases q : s.testBit i = true
      · simp only [q, if_true] at e2
        cases e2
      · simp only [q] at e2
        obtain ⟨x, y, e3, e4, rfl⟩ := oadd_some e2
        have := Nat.two_pow_pos i
        have := hg _ _ _ _ e3
        have := ih (a - (s + 2 ^ i)) (by omega) (s + 2 ^ i) i y rfl e4
        omega
section PS
variable {G : am_G} {l : Launch} {t : am_T} {I : am_I} {L : am_J} {Q : bm_P}
theorem sp_stepsBy {T : tT} {x y z : Int32} (sh s la k : Nat) (h6 : tN T ≤ 6) (hx : x = nI s) (hy : y = nI la) (hz : z = nI k) (hs : s < al T) (hl : la < 8) (hk : k < tN T) (hg : ∀ s l k, s < 64 → l < 8 → k < 8 → I 27 (64 * s + 8 * l + k) = eN (gap T sh s l k)) (hb : ∀ s', s < s' → s' ≤ al T → ∀ l, l < 8 → I 29 (8 * s' + l) = eN (Bo (gap T sh) (tN T) (al T) s' l)) (h : Q (some (.int (eN (if s.testBit k then none else oadd (gap T sh s la k) (Bo (gap T sh) (tN T) (al T) (s + 2 ^ k) k))))) t I L) : bm_C G l 183 [.ref 25, .int x, .int y, .int z] t I L Q := by
  subst hx hy hz
  have a64 : al T < 64 := by
    unfold al
    have := Nat.pow_le_pow_right (n := 2) (by decide) h6
    omega
  have s64 : s < 64 := by omega
  have og : ob (gap T sh s la k) := fun v e => by have := gap_lt e; omega
  have T20 : (1048576 : Int32).toInt = 1048576 := rfl
  refine bm_go (am_ok_all 183 (by decide)) 60 ?_
  refine sp_gap sh s la k rfl rfl rfl s64 hl (by omega) hg ?_
  refine And.intro (fun cd => ?_) (fun cd => ?_)
  · rw [T20] at cd
    have gn : gap T sh s la k ≠ none := fun e => by have := (eN_nv og).mpr e; omega
    cases hbt : s.testBit k with
    | true => exact absurd (gap_in sh hbt s64) gn
    | false =>
      obtain ⟨b1, b2, b3⟩ := bit_up s s64 k (by omega) hbt
      have i1 : nI s ||| (1 : Int32) <<< (nI k &&& 31) = nI (s + 2 ^ k) := by rw [k1, n_shl _ (by omega), n_or, b1]
      have up : s + 2 ^ k ≤ al T := by
        have sl : s < 2 ^ tN T := by unfold al at hs; omega
        have : s ||| 1 <<< k < 2 ^ tN T := or_lt sl (one_lt hk)
        rw [b1] at this
        unfold al
        omega
      have p := Nat.two_pow_pos k
      rw [hbt] at h
      have hv := hb (s + 2 ^ k) (by omega) up k (by omega)
      generalize s + 2 ^ k = U at *
      refine sp_key U k i1 rfl b2 (by omega) ?_
      refine ⟨8 * U + k, nI_toInt (by omega), (by omega : 8 * U + k < 512), ?_⟩
      refine sp_sumO _ _ rfl hv og (fun v e => by
        have := Bo_lt (g := gap T sh) (fun s l k v e => gap_lt e) (tN T) (al T) _ U k v rfl e
        omega) ?_
      exact h
  · rw [T20] at cd
    have e := (eN_nv og).mp cd
    rw [e] at h
    have : (if s.testBit k = true then none else oadd none (Bo (gap T sh) (tN T) (al T) (s + 2 ^ k) k)) = none := by
      cases s.testBit k <;> rfl
    rw [this] at h
    exact h
end PS

/-! NEVER, least, sum -/
def ob (a : Option Nat) : Prop := ∀ v, a = some v → v < 500000
theorem eN_i {a : Option Nat} (h : ob a) : (eN a).toInt = match a with
  | some v => (v : Int)
  | none => 1048576 := by
  cases a with
  | none => exact nI_toInt (by decide)
  | some v => exact nI_toInt (by have := h v rfl; omega)
theorem ob_min {a b : Option Nat} (ha : ob a) (hb : ob b) : ob (omin a b) := by
  intro v e
  cases a with
  | none => exact hb v e
  | some x =>
    cases b with
    | none => exact ha v e
    | some y =>
      have e : some (min x y) = some v := e
      cases e
      have := ha x rfl
      omega
theorem eN_min {a b : Option Nat} (ha : ob a) (hb : ob b) {z : Int32} (h : z.toInt = min (eN a).toInt (eN b).toInt) : z = eN (omin a b) := by
  apply Int32.toInt_inj.mp
  rw [h, eN_i ha, eN_i hb, eN_i (ob_min ha hb)]
  cases a with
  | none =>
    cases b with
    | none => rfl
    | some y =>
      have := hb y rfl
      show min (1048576 : Int) (y : Int) = (y : Int)
      omega
  | some x =>
    have := ha x rfl
    cases b with
    | none =>
      show min (x : Int) (1048576 : Int) = (x : Int)
      omega
    | some y =>
      show min (x : Int) (y : Int) = ((min x y : Nat) : Int)
      omega
theorem fstN_lt {n : Nat} {p : Nat → Bool} {i : Nat} (e : fstN n p = some i) : i < n := ((fstN_some n p i).mp e).1
theorem pace_lt {T : tT} {f own br p v : Nat} (e : pace T f own br p = some v) : v < 25 := by
  unfold pace at e
  by_cases q : own.testBit p = true ∨ br.testBit p = true
  · rw [if_pos q] at e
    cases e
  · rw [if_neg q] at e
    exact fstN_lt e
theorem gap_lt {T : tT} {sh s l k v : Nat} (e : gap T sh s l k = some v) : v < 25 := by
  unfold gap at e
  by_cases q : s ≤ al T ∧ k < tN T ∧ (if s = 0 then l = 7 else s.testBit l = true)
  · rw [if_pos q] at e
    unfold gap0 at e
    by_cases q2 : s = 0
    · rw [if_pos q2] at e
      exact pace_lt e
    · rw [if_neg q2] at e
      exact pace_lt e
  · rw [if_neg q] at e
    cases e
theorem ominN_some {f : Nat → Option Nat} : ∀ (n v : Nat), ominN n f = some v → ∃ i, i < n ∧ f i = some v
  | 0, v, e => by cases e
  | n + 1, v, e => by
    have e : omin (ominN n f) (f n) = some v := e
    cases h1 : ominN n f with
    | none =>
      rw [h1] at e
      exact ⟨n, by omega, e⟩
    | some x =>
      rw [h1] at e
      cases h2 : f n with
      | none =>
        rw [h2] at e
        obtain ⟨i, hi, hv⟩ := ominN_some n x h1
        have e : some x = some v := e
        cases e
        exact ⟨i, by omega, hv⟩
      | some y =>
        rw [h2] at e
        have e : some (min x y) = some v := e
        cases e
        by_cases q : x ≤ y
        · obtain ⟨i, hi, hv⟩ := ominN_some n x h1
          exact ⟨i, by omega, by rw [hv, Nat.min_eq_left q]⟩
        · exact ⟨n, by omega, by rw [h2, Nat.min_eq_right (by omega)]⟩
theorem oadd_some {a b : Option Nat} {v : Nat} (e : oadd a b = some v) : ∃ x y, a = some x ∧ b = some y ∧ v = x + y := by
  cases a with
  | none => cases e
  | some x =>
    cases b with
    | none => cases e
    | some y =>
      have e : some (x + y) = some v := e
      cases e
      exact ⟨x, y, rfl, rfl, rfl⟩
theorem Fo_lt {g : Nat → Nat → Nat → Option Nat} (hg : ∀ s l k v, g s l k = some v → v < 25) : ∀ (s l v : Nat), Fo g s l = some v → v ≤ 25 * s := by
  intro s
  induction s using Nat.strongRecOn with
  | ind s ih =>
    intro l v e
    unfold Fo at e
    split at e
    · split at e
      · cases e; omega
      · cases e
    · split at e
      · rename_i hb
        obtain ⟨i, hi, e2⟩ := ominN_some _ _ e
        obtain ⟨x, y, e3, e4, rfl⟩ := oadd_some e2
        have := two_le hb
        have := Nat.two_pow_pos l
        have := ih (s - 2 ^ l) (by omega) i x e3
        have := hg _ _ _ _ e4
        omega
      · cases e
section PE
variable {G : am_G} {l : Launch} {t : am_T} {I : am_I} {L : am_J} {Q : bm_P}
theorem sp_sumO {x y : Int32} (a b : Option Nat) (hx : x = eN a) (hy : y = eN b) (ha : ob a) (hb : ob b) (h : Q (some (.int (eN (oadd a b)))) t I L) : bm_C G l 178 [.int x, .int y] t I L Q := by
  subst hx hy
  have T20 : (1048576 : Int32).toInt = 1048576 := rfl
  have ts : (eN a + eN b).toInt = (eN a).toInt + (eN b).toInt := by
    rw [Int32.toInt_add]
    have e1 := eN_i ha
    have e2 := eN_i hb
    refine Int.bmod_eq_of_le ?_ ?_
    · rw [e1, e2]
      cases a <;> cases b <;> simp only <;> omega
    · rw [e1, e2]
      cases a with
      | none =>
        cases b with
        | none => simp only; omega
        | some y => have := hb y rfl; simp only; omega
      | some x =>
        have := ha x rfl
        cases b with
        | none => simp only; omega
        | some y => have := hb y rfl; simp only; omega
  refine bm_go (am_ok_all 178 (by decide)) 20 ?_
  intro z hz
  have ez : z = eN (oadd a b) := by
    apply Int32.toInt_inj.mp
    rw [hz, ts, eN_i ha, eN_i hb]
    cases a with
    | none =>
      cases b with
      | none => rfl
      | some y =>
        show min ((1048576 : Int) + (y : Int)) (Int32.toInt 1048576) = (nI 1048576).toInt
        rw [T20, nI_toInt (by decide)]
        omega
    | some x =>
      have := ha x rfl
      cases b with
      | none =>
        show min ((x : Int) + 1048576) (Int32.toInt 1048576) = (nI 1048576).toInt
        rw [T20, nI_toInt (by decide)]
        omega
      | some y =>
        have := hb y rfl
        show min ((x : Int) + (y : Int)) (Int32.toInt 1048576) = (nI (x + y)).toInt
        rw [T20, nI_toInt (by omega)]
        omega
  rw [ez]
  exact h
theorem sp_gap {T : tT} {x y z : Int32} (sh s la k : Nat) (hx : x = nI s) (hy : y = nI la) (hz : z = nI k) (hs : s < 64) (hl : la < 8) (hk : k < 8) (hg : ∀ s l k, s < 64 → l < 8 → k < 8 → I 27 (64 * s + 8 * l + k) = eN (gap T sh s l k)) (h : Q (some (.int (eN (gap T sh s la k)))) t I L) : bm_C G l 177 [.ref 25, .int x, .int y, .int z] t I L Q := by
  refine bm_go (am_ok_all 177 (by decide)) 20 ?_
  refine sp_gapKey s la k hx hy hz hs hl hk ?_
  refine ⟨64 * s + 8 * la + k, nI_toInt (by omega), (by omega : 64 * s + 8 * la + k < 4096), ?_⟩
  rw [hg s la k hs hl hk]
  exact h
end PE

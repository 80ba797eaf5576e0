/-! the JDK's bitCount, behind its table -/
theorem and_split {k a b c d : Nat} (ha : a < 2 ^ k) (hc : c < 2 ^ k) : (a + 2 ^ k * b) &&& (c + 2 ^ k * d) = (a &&& c) + 2 ^ k * (b &&& d) := by
  have h : ∀ (x y : Nat), x < 2 ^ k → ∀ i, (x + 2 ^ k * y).testBit i = if i < k then x.testBit i else y.testBit (i - k) := fun x y hx i => by
    rw [Nat.add_comm]
    exact Nat.testBit_two_pow_mul_add y hx i
  apply Nat.eq_of_testBit_eq
  intro i
  rw [Nat.testBit_and, h a b ha, h c d hc, h _ _ (and_lt c ha)]
  split <;> rw [Nat.testBit_and]
theorem b16s {n : Nat} (h : n < 65536) : b3 0xf0f (b2 0x3333 (b1 0x5555 n)) = pcn 8 (n % 256) + 256 * pcn 8 (n / 256) ∧ b1 0x5555 n < 65536 ∧ n >>> 1 &&& 0x5555 ≤ n ∧ (b2 0x3333 (b1 0x5555 n) ≤ 17476 ∧ b2 0x3333 (b1 0x5555 n) % 16 ≤ 4) := by
  have e : n = n % 256 + 256 * (n / 256) := by omega
  have h1 := b16 (n % 256) (by omega) (n / 256) (by omega)
  have h2 := b16a (n % 256) (by omega) (n / 256) (by omega)
  rw [← e] at h1 h2
  exact ⟨h1, h2⟩
theorem bsh {k m a b : Nat} (hm : m < 2 ^ (16 - k)) (hk : k ≤ 16) (ha : a < 2 ^ 16) : ((a + 65536 * b) >>> k) &&& (m + 65536 * m) = ((a >>> k) &&& m) + 65536 * ((b >>> k) &&& m) := by
  have hp : 2 ^ (16 - k) * 2 ^ k = 2 ^ 16 := by rw [← Nat.pow_add]; congr 1; omega
  have hk0 : 0 < 2 ^ k := Nat.two_pow_pos k
  have e1 : (a + 65536 * b) >>> k = (a >>> k + 2 ^ (16 - k) * (b % 2 ^ k)) + 2 ^ 16 * (b >>> k) := by
    simp only [Nat.shiftRight_eq_div_pow]
    have hb : b = b % 2 ^ k + 2 ^ k * (b / 2 ^ k) := (Nat.mod_add_div b (2 ^ k)).symm
    have : a + 65536 * b = a + 2 ^ k * (2 ^ (16 - k) * (b % 2 ^ k) + 2 ^ 16 * (b / 2 ^ k)) := by
      have q : 65536 * b = 2 ^ 16 * (b % 2 ^ k) + 2 ^ 16 * (2 ^ k * (b / 2 ^ k)) := by
        rw [← Nat.mul_add, ← hb]
      have q2 : 2 ^ 16 * (b % 2 ^ k) = 2 ^ k * (2 ^ (16 - k) * (b % 2 ^ k)) := by
        rw [← hp]
        ac_rfl
      have q3 : 2 ^ 16 * (2 ^ k * (b / 2 ^ k)) = 2 ^ k * (2 ^ 16 * (b / 2 ^ k)) := by ac_rfl
      rw [q, q2, q3, Nat.mul_add]
    rw [this, Nat.add_mul_div_left _ _ hk0]
    omega
  have hlow : a >>> k < 2 ^ (16 - k) := by
    rw [Nat.shiftRight_eq_div_pow]
    exact Nat.div_lt_of_lt_mul (by rw [Nat.mul_comm, hp]; exact ha)
  have hmid : a >>> k + 2 ^ (16 - k) * (b % 2 ^ k) < 2 ^ 16 := by
    have hr : b % 2 ^ k < 2 ^ k := Nat.mod_lt _ hk0
    have : 2 ^ (16 - k) * (b % 2 ^ k) + 2 ^ (16 - k) ≤ 2 ^ (16 - k) * 2 ^ k := by
      rw [← Nat.mul_succ]
      exact Nat.mul_le_mul_left _ hr
    omega
  have hm16 : m < 2 ^ 16 := Nat.lt_of_lt_of_le hm (Nat.pow_le_pow_right (by decide) (by omega))
  rw [e1]
  show _ &&& (m + 2 ^ 16 * m) = _ + 2 ^ 16 * _
  rw [and_split hmid hm16]
  congr 1
  have := and_split (b := b % 2 ^ k) (d := 0) hlow hm
  rw [Nat.mul_zero, Nat.and_zero, Nat.mul_zero, Nat.add_zero, Nat.add_zero] at this
  exact this
theorem bc_all {n : Nat} (hn : n < 2 ^ 32) : b3 252645135 (b2 858993459 (b1 1431655765 n)) = pcn 8 (n % 256) + 256 * pcn 8 (n / 256 % 256) + 65536 * (pcn 8 (n / 65536 % 256) + 256 * pcn 8 (n / 16777216)) ∧ (n >>> 1) &&& 1431655765 ≤ n ∧ b1 1431655765 n < 2 ^ 32 ∧ b2 858993459 (b1 1431655765 n) < 2 ^ 31 := by
  generalize ha : n % 65536 = a
  generalize hb : n / 65536 = b
  have e : n = a + 65536 * b := by omega
  obtain ⟨p1, p2, p3, p4⟩ := b16s (n := a) (by omega)
  obtain ⟨q1, q2, q3, q4⟩ := b16s (n := b) (by omega)
  have s1 : (n >>> 1) &&& 1431655765 = ((a >>> 1) &&& 0x5555) + 65536 * ((b >>> 1) &&& 0x5555) := by
    rw [e]
    exact bsh (m := 0x5555) (by decide) (by decide) (by omega)
  have f1 : b1 1431655765 n = b1 0x5555 a + 65536 * b1 0x5555 b := by
    unfold b1
    rw [s1]
    omega
  have f2 : b2 858993459 (b1 1431655765 n) = b2 0x3333 (b1 0x5555 a) + 65536 * b2 0x3333 (b1 0x5555 b) := by
    rw [f1]
    generalize b1 0x5555 a = x at *
    generalize b1 0x5555 b = y at *
    unfold b2
    have g1 := bsh (k := 0) (m := 0x3333) (a := x) (b := y) (by decide) (by decide) (by omega)
    have g2 := bsh (k := 2) (m := 0x3333) (a := x) (b := y) (by decide) (by decide) (by omega)
    simp only [Nat.shiftRight_zero] at g1
    have g1' : (x + 65536 * y) &&& 858993459 = (x &&& 0x3333) + 65536 * (y &&& 0x3333) := g1
    have g2' : ((x + 65536 * y) >>> 2) &&& 858993459 = ((x >>> 2) &&& 0x3333) + 65536 * ((y >>> 2) &&& 0x3333) := g2
    rw [g1', g2']
    omega
  have f3 : b3 252645135 (b2 858993459 (b1 1431655765 n)) = b3 0xf0f (b2 0x3333 (b1 0x5555 a)) + 65536 * b3 0xf0f (b2 0x3333 (b1 0x5555 b)) := by
    rw [f2]
    generalize b2 0x3333 (b1 0x5555 a) = x at *
    generalize b2 0x3333 (b1 0x5555 b) = y at *
    unfold b3
    have hx : x + (x >>> 4) < 2 ^ 16 := by rw [Nat.shiftRight_eq_div_pow]; omega
    have e4 : (x + 65536 * y) + ((x + 65536 * y) >>> 4) = (x + (x >>> 4) + 4096 * (y % 16)) + 65536 * (y + y >>> 4) := by
      simp only [Nat.shiftRight_eq_div_pow]
      omega
    rw [e4]
    have hP : x + x >>> 4 + 4096 * (y % 16) < 2 ^ 16 := by
      rw [Nat.shiftRight_eq_div_pow]
      omega
    have hl : ∀ z, z &&& 3855 = z % 4096 &&& 3855 := fun z => by
      have := and_split (k := 12) (a := z % 4096) (b := z / 4096) (c := 3855) (d := 0) (by omega) (by decide)
      rw [Nat.mul_zero, Nat.and_zero, Nat.mul_zero, Nat.add_zero, Nat.add_zero, Nat.mod_add_div] at this
      exact this
    have := and_split (k := 16) (b := y + y >>> 4) (c := 3855) (d := 3855) hP (by decide)
    refine Eq.trans this ?_
    rw [hl (x + x >>> 4 + 4096 * (y % 16)), Nat.add_mul_mod_self_left, ← hl]
  rw [f3, p1, q1, f2, f1, s1]
  refine ⟨?_, ?_, ?_, ?_⟩
  · have e1 : n % 256 = a % 256 := by omega
    have e2 : n / 256 % 256 = a / 256 := by omega
    have e4 : n / 16777216 = b / 256 := by omega
    rw [e1, e2, e4]
  all_goals omega
theorem bc_sum {n : Nat} (hn : n < 2 ^ 32) : pc n = pcn 8 (n % 256) + pcn 8 (n / 256 % 256) + pcn 8 (n / 65536 % 256) + pcn 8 (n / 16777216) := by
  have e1 := pcn_split 8 24 (n % 256) (n / 256) (by omega)
  have e2 := pcn_split 8 16 (n / 256 % 256) (n / 65536) (by omega)
  have e3 := pcn_split 8 8 (n / 65536 % 256) (n / 16777216) (by omega)
  rw [show n % 256 + 2 ^ 8 * (n / 256) = n by omega] at e1
  rw [show n / 256 % 256 + 2 ^ 8 * (n / 65536) = n / 256 by omega] at e2
  rw [show n / 65536 % 256 + 2 ^ 8 * (n / 16777216) = n / 65536 by omega] at e3
  unfold pc
  rw [show (32 : Nat) = 8 + 24 from rfl, e1, show (24 : Nat) = 8 + 16 from rfl, e2, show (16 : Nat) = 8 + 8 from rfl, e3]
  omega
theorem bc_end {n : Nat} (hn : n < 2 ^ 32) (x : Nat) (hx : x = b3 252645135 (b2 858993459 (b1 1431655765 n))) : (x + x >>> 8 + (x + x >>> 8) >>> 16) &&& 63 = pc n ∧ x + x >>> 8 < 2 ^ 32 := by
  rw [bc_sum hn]
  rw [(bc_all hn).1] at hx
  have h1 := pcn_le 8 (n % 256)
  have h2 := pcn_le 8 (n / 256 % 256)
  have h3 := pcn_le 8 (n / 65536 % 256)
  have h4 := pcn_le 8 (n / 16777216)
  generalize pcn 8 (n % 256) = a at *
  generalize pcn 8 (n / 256 % 256) = b at *
  generalize pcn 8 (n / 65536 % 256) = c at *
  generalize pcn 8 (n / 16777216) = d at *
  rw [show (63 : Nat) = 2 ^ 6 - 1 from rfl, Nat.and_two_pow_sub_one_eq_mod]
  simp only [Nat.shiftRight_eq_div_pow]
  have g1 : x / 2 ^ 8 = b + 256 * c + 65536 * d := by omega
  rw [g1]
  have g2 : x + (b + 256 * c + 65536 * d) = (a + b) + 256 * (b + c) + 65536 * (c + d) + 16777216 * d := by omega
  rw [g2]
  have g3 : ((a + b) + 256 * (b + c) + 65536 * (c + d) + 16777216 * d) / 2 ^ 16 = (c + d) + 256 * d := by omega
  rw [g3]
  omega
section BC
variable {G : am_G} {l : Launch} {t : am_T} {I : am_I} {L : am_J} {Q : bm_P}
theorem sp_bitCount {x : Int32} (n : Nat) (hx : x = nI n) (hn : n < 2 ^ 32) (h : Q (some (.int (nI (pc n)))) t I L) : bm_C G l 265 [.int x] t I L Q := by
  subst hx
  refine bm_go (am_ok_all 265 (by decide)) 60 ?_
  obtain ⟨p1, p2, p3, p4⟩ := bc_all hn
  have q1 : nI n - (((nI n).toUInt32 >>> (Int32.toUInt32 1 &&& Int32.toUInt32 31)).toInt32 &&& 1431655765) = nI (b1 1431655765 n) := by
    rw [k1, n_ush hn (by decide), show (1431655765 : Int32) = nI 1431655765 from rfl, n_and, pk_sub p2]
    rfl
  have q2 : (nI (b1 1431655765 n) &&& 858993459) + (((nI (b1 1431655765 n)).toUInt32 >>> (Int32.toUInt32 2 &&& Int32.toUInt32 31)).toInt32 &&& 858993459) = nI (b2 858993459 (b1 1431655765 n)) := by
    rw [k2, n_ush p3 (by decide), show (858993459 : Int32) = nI 858993459 from rfl, n_and, n_and, nI_add]
    rfl
  have q3 : (nI (b2 858993459 (b1 1431655765 n)) + ((nI (b2 858993459 (b1 1431655765 n))).toUInt32 >>> (Int32.toUInt32 4 &&& Int32.toUInt32 31)).toInt32) &&& 252645135 = nI (b3 252645135 (b2 858993459 (b1 1431655765 n))) := by
    rw [k4, n_ush (by omega) (by decide), show (252645135 : Int32) = nI 252645135 from rfl, nI_add, n_and]
    rfl
  obtain ⟨f1, f2⟩ := bc_end hn _ rfl
  have hx : b3 252645135 (b2 858993459 (b1 1431655765 n)) < 2 ^ 32 := by omega
  generalize b3 252645135 (b2 858993459 (b1 1431655765 n)) = z at *
  have q4 : nI z + ((nI z).toUInt32 >>> (Int32.toUInt32 8 &&& Int32.toUInt32 31)).toInt32 = nI (z + z >>> 8) := by
    rw [k8, n_ush hx (by decide), nI_add]
  have q5 : (nI (z + z >>> 8) + ((nI (z + z >>> 8)).toUInt32 >>> (Int32.toUInt32 16 &&& Int32.toUInt32 31)).toInt32) &&& 63 = nI (pc n) := by
    rw [show (16 : Int32) = nI 16 from rfl, n_ush f2 (by decide), nI_add, show (63 : Int32) = nI 63 from rfl, n_and, f1]
  rw [← q5, ← q4, ← q3, ← q2, ← q1] at h
  exact h
end BC
theorem pc_bO (k : Nat) (p : Nat → Bool) (hk : k < 32) : pc (bO (k + 1) p) = pc (bO k p) + if p k then 1 else 0 := by
  have e : bO (k + 1) p = bO k p + 2 ^ k * (if p k then 1 else 0) := by
    rw [show bO (k + 1) p = bO k p ||| (if p k then 1 <<< k else 0) from rfl]
    split
    · rw [n_one, Nat.mul_one, Nat.or_comm]
      have := Nat.two_pow_add_eq_or_of_lt (bO_lt k p) 1
      rw [Nat.mul_one] at this
      rw [← this, Nat.add_comm]
    · rw [Nat.or_zero, Nat.mul_zero, Nat.add_zero]
  have s1 := pcn_split k (32 - k) (bO k p) (if p k then 1 else 0) (bO_lt k p)
  rw [← e, show k + (32 - k) = 32 by omega] at s1
  have s2 := pcn_more k 32 (bO k p) (bO_lt k p) (by omega)
  have s3 := pcn_more 1 (32 - k) (if p k then 1 else 0) (by split <;> decide) (by omega)
  have s4 : pcn 1 (if p k then 1 else 0) = if p k then 1 else 0 := by split <;> rfl
  unfold pc
  rw [s1, s2, s3, s4]

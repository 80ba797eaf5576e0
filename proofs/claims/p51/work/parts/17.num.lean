/-! numbers: words as naturals (nI), sets as bits of naturals -/
theorem k0 : (0 : Int32) = nI 0 := rfl
theorem k1 : (1 : Int32) = nI 1 := rfl
theorem k2 : (2 : Int32) = nI 2 := rfl
theorem k3 : (3 : Int32) = nI 3 := rfl
theorem k4 : (4 : Int32) = nI 4 := rfl
theorem k5 : (5 : Int32) = nI 5 := rfl
theorem k6 : (6 : Int32) = nI 6 := rfl
theorem k7 : (7 : Int32) = nI 7 := rfl
theorem k8 : (8 : Int32) = nI 8 := rfl
theorem k10 : (10 : Int32) = nI 10 := rfl
theorem k15 : (15 : Int32) = nI 15 := rfl
theorem k24 : (24 : Int32) = nI 24 := rfl
theorem k32 : (32 : Int32) = nI 32 := rfl
theorem k63 : (63 : Int32) = nI 63 := rfl
theorem k200 : (200 : Int32) = nI 200 := rfl
theorem km1 : (-1 : Int32) = nI 4294967295 := rfl
theorem n_bv (n : Nat) : (nI n).toBitVec = BitVec.ofNat 32 n := rfl
theorem n_inj {x y : Int32} (h : x.toBitVec = y.toBitVec) : x = y := Int32.toBitVec.inj h
theorem n_tn {n : Nat} (h : n < 2 ^ 32) : (nI n).toBitVec.toNat = n := pk_tn h
theorem n_and (a b : Nat) : nI a &&& nI b = nI (a &&& b) := n_inj (by rw [n_bv, BitVec.ofNat_and]; rfl)
theorem n_or (a b : Nat) : nI a ||| nI b = nI (a ||| b) := n_inj (by rw [n_bv, BitVec.ofNat_or]; rfl)
theorem n_xor (a b : Nat) : nI a ^^^ nI b = nI (a ^^^ b) := n_inj (by rw [n_bv, BitVec.ofNat_xor]; rfl)
def cm (b : Nat) : Nat := b ^^^ 4294967295
theorem n_cm (a : Nat) : nI a ^^^ nI 4294967295 = nI (cm a) := n_xor a _
theorem t0 : (0 : Int32).toInt = 0 := rfl
/-- every word is a natural below 2^32 -/
def un (x : Int32) : Nat := x.toBitVec.toNat
theorem un_lt (x : Int32) : un x < 2 ^ 32 := x.toBitVec.isLt
theorem n_un (x : Int32) : nI (un x) = x := n_inj (by rw [n_bv]; exact BitVec.eq_of_toNat_eq (by rw [BitVec.toNat_ofNat]; exact Nat.mod_eq_of_lt (un_lt x)))
theorem un_n {n : Nat} (h : n < 2 ^ 32) : un (nI n) = n := n_tn h
theorem n_eq32 {a b : Nat} (ha : a < 2 ^ 32) (hb : b < 2 ^ 32) (h : nI a = nI b) : a = b := by
  have := congrArg un h
  rwa [un_n ha, un_n hb] at this
theorem un_inj {x y : Int32} (h : un x = un y) : x = y := by rw [← n_un x, ← n_un y, h]
theorem n_smod : ∀ n, n < 32 → ((nI n &&& 31).toBitVec.smod 32).toNat = n := by decide +kernel
theorem n_umod : ∀ n, n < 32 → (((nI n).toUInt32 &&& Int32.toUInt32 31).toBitVec % 32).toNat = n := by decide +kernel
theorem un_nI (a : Nat) : un (nI a) = a % 2 ^ 32 := by
  unfold un
  rw [n_bv, BitVec.toNat_ofNat]
theorem n_shl (a : Nat) {k : Nat} (hk : k < 32) : nI a <<< (nI k &&& 31) = nI (a <<< k) := by
  apply un_inj
  have h := pk_shl (nI a) (nI k &&& 31) k (n_smod k hk)
  have e : un (nI a <<< (nI k &&& 31)) = un (nI a) * 2 ^ k % 2 ^ 32 := h
  rw [e, un_nI, un_nI, Nat.shiftLeft_eq, Nat.mod_mul_mod]
theorem n_ush {a : Nat} (ha : a < 2 ^ 32) {k : Nat} (hk : k < 32) : ((nI a).toUInt32 >>> ((nI k).toUInt32 &&& Int32.toUInt32 31)).toInt32 = nI (a >>> k) := by
  rw [pk_ushrN ha (nI k) k (n_umod k hk), Nat.shiftRight_eq_div_pow]
theorem n_shr {a : Nat} (ha : a < 2 ^ 31) {k : Nat} (hk : k < 32) : nI a >>> (nI k &&& 31) = nI (a >>> k) := by
  rw [pk_shrN ha (nI k &&& 31) k (n_smod k hk), Nat.shiftRight_eq_div_pow]
theorem tb_cm {b i : Nat} (hi : i < 32) : (cm b).testBit i = !b.testBit i := by
  unfold cm
  rw [Nat.testBit_xor, show (4294967295 : Nat) = 2 ^ 32 - 1 from rfl, Nat.testBit_two_pow_sub_one]
  simp [hi]
theorem cm_lt {b : Nat} (hb : b < 2 ^ 32) : cm b < 2 ^ 32 := Nat.xor_lt_two_pow hb (by decide)
theorem tb_big {a n i : Nat} (ha : a < 2 ^ n) (hi : n ≤ i) : a.testBit i = false := Nat.testBit_lt_two_pow (Nat.lt_of_lt_of_le ha (Nat.pow_le_pow_right (by decide) hi))
theorem and_lt {a n : Nat} (b : Nat) (ha : a < 2 ^ n) : a &&& b < 2 ^ n := Nat.lt_of_le_of_lt Nat.and_le_left ha
theorem and_lt' {b n : Nat} (a : Nat) (hb : b < 2 ^ n) : a &&& b < 2 ^ n := Nat.lt_of_le_of_lt Nat.and_le_right hb
theorem or_lt {a b n : Nat} (ha : a < 2 ^ n) (hb : b < 2 ^ n) : a ||| b < 2 ^ n := Nat.or_lt_two_pow ha hb
theorem tb_and_cm {a b i : Nat} (ha : a < 2 ^ 32) : (a &&& cm b).testBit i = (a.testBit i && !b.testBit i) := by
  rw [Nat.testBit_and]
  by_cases hi : i < 32
  · rw [tb_cm hi]
  · rw [tb_big ha (by omega)]
    rfl
theorem tb_cm_and {a b i : Nat} (ha : a < 2 ^ 32) : (cm b &&& a).testBit i = (!b.testBit i && a.testBit i) := by
  rw [Nat.and_comm, tb_and_cm ha, Bool.and_comm]
/-- one bit -/
theorem n_one (k : Nat) : 1 <<< k = 2 ^ k := by rw [Nat.shiftLeft_eq, Nat.one_mul]
theorem tb_one {k i : Nat} : (1 <<< k).testBit i = decide (k = i) := by
  rw [n_one, Nat.testBit_two_pow]
theorem one_lt {k n : Nat} (h : k < n) : 1 <<< k < 2 ^ n := by
  rw [n_one]
  exact Nat.pow_lt_pow_right (by decide) h
theorem tb_sh1 {a k : Nat} : (a >>> k &&& 1) = if a.testBit k then 1 else 0 := by
  rw [Nat.testBit, Nat.and_comm]
  by_cases h : (1 &&& a >>> k) = 0
  · rw [h]; rfl
  · have h2 : (1 &&& a >>> k) = 1 := by
      have : (1 &&& a >>> k) ≤ 1 := Nat.and_le_left
      omega
    rw [h2]; rfl
/-- how many bits below n -/
def pcn : Nat → Nat → Nat
  | 0, _ => 0
  | n + 1, s => s % 2 + pcn n (s / 2)
def pc (s : Nat) : Nat := pcn 32 s
theorem pcn_le : ∀ (n s : Nat), pcn n s ≤ n
  | 0, _ => Nat.le_refl 0
  | n + 1, s => by
    have := pcn_le n (s / 2)
    unfold pcn
    omega
theorem pcn_0 : ∀ n, pcn n 0 = 0
  | 0 => rfl
  | n + 1 => by unfold pcn; rw [show 0 / 2 = 0 from rfl, pcn_0 n]
theorem pcn_more : ∀ (n m s : Nat), s < 2 ^ n → n ≤ m → pcn m s = pcn n s
  | 0, m, s, h, _ => by
    have : s = 0 := by simpa using h
    rw [this, pcn_0]
    rfl
  | n + 1, 0, s, h, hm => by omega
  | n + 1, m + 1, s, h, hm => by
    unfold pcn
    rw [pcn_more n m (s / 2) (by rw [Nat.pow_succ] at h; omega) (by omega)]
theorem pc_le (s : Nat) : pc s ≤ 32 := pcn_le 32 s
theorem pcn_s (n s : Nat) : pcn (n + 1) s = s % 2 + pcn n (s / 2) := rfl
theorem pcn_split : ∀ (n m a b : Nat), a < 2 ^ n → pcn (n + m) (a + 2 ^ n * b) = pcn n a + pcn m b
  | 0, m, a, b, h => by
    have : a = 0 := by simpa using h
    subst this
    simp [pcn]
  | n + 1, m, a, b, h => by
    rw [show n + 1 + m = (n + m) + 1 by omega]
    rw [pcn_s, pcn_s]
    have e1 : (a + 2 ^ (n + 1) * b) % 2 = a % 2 := by rw [Nat.pow_succ, Nat.mul_comm (2 ^ n) 2, Nat.mul_assoc]; omega
    have e2 : (a + 2 ^ (n + 1) * b) / 2 = a / 2 + 2 ^ n * b := by rw [Nat.pow_succ, Nat.mul_comm (2 ^ n) 2, Nat.mul_assoc]; omega
    rw [e1, e2, pcn_split n m (a / 2) b (by rw [Nat.pow_succ] at h; omega)]
    omega
/-! the sets of the numbers below n that a test lets through -/
def bO : Nat → (Nat → Bool) → Nat
  | 0, _ => 0
  | n + 1, p => bO n p ||| (if p n then 1 <<< n else 0)
theorem bO_lt : ∀ (n : Nat) (p : Nat → Bool), bO n p < 2 ^ n
  | 0, _ => Nat.one_pos
  | n + 1, p => by
    unfold bO
    refine or_lt (Nat.lt_trans (bO_lt n p) (Nat.pow_lt_pow_right (by decide) (by omega))) ?_
    split
    · exact one_lt (by omega)
    · exact Nat.two_pow_pos _
theorem tb_bO : ∀ (n : Nat) (p : Nat → Bool) (i : Nat), (bO n p).testBit i = (decide (i < n) && p i)
  | 0, p, i => by simp [bO]
  | n + 1, p, i => by
    unfold bO
    rw [Nat.testBit_or, tb_bO n p i]
    by_cases hp : p n = true
    · rw [if_pos hp, tb_one]
      by_cases hi : n = i
      · subst hi; simp [hp]
      · simp [hi, show (i < n + 1) = (i < n) by simp; omega]
    · rw [if_neg hp]
      by_cases hi : n = i
      · subst hi; simp [hp]
      · simp [show (i < n + 1) = (i < n) by simp; omega]
theorem tb_ext {a b n : Nat} (ha : a < 2 ^ n) (hb : b < 2 ^ n) (h : ∀ i, i < n → a.testBit i = b.testBit i) : a = b := by
  apply Nat.eq_of_testBit_eq
  intro i
  by_cases hi : i < n
  · exact h i hi
  · rw [tb_big ha (by omega), tb_big hb (by omega)]
theorem bO_eta {s n : Nat} (h : s < 2 ^ n) : bO n (fun i => s.testBit i) = s := tb_ext (bO_lt n _) h (fun i hi => by rw [tb_bO]; simp [hi])
theorem bO_cong {n : Nat} {p q : Nat → Bool} (h : ∀ i, i < n → p i = q i) : bO n p = bO n q := tb_ext (bO_lt n _) (bO_lt n _) (fun i hi => by rw [tb_bO, tb_bO, h i hi])
theorem T0 : (0 : Int32).toInt = 0 := rfl
theorem T1 : (1 : Int32).toInt = 1 := rfl
theorem T2 : (2 : Int32).toInt = 2 := rfl
theorem T3 : (3 : Int32).toInt = 3 := rfl
theorem T4 : (4 : Int32).toInt = 4 := rfl
theorem T5 : (5 : Int32).toInt = 5 := rfl
theorem T6 : (6 : Int32).toInt = 6 := rfl
theorem T7 : (7 : Int32).toInt = 7 := rfl
theorem T8 : (8 : Int32).toInt = 8 := rfl
theorem T9 : (9 : Int32).toInt = 9 := rfl
theorem T10 : (10 : Int32).toInt = 10 := rfl
theorem T15 : (15 : Int32).toInt = 15 := rfl
theorem T24 : (24 : Int32).toInt = 24 := rfl
theorem T32 : (32 : Int32).toInt = 32 := rfl
theorem T48 : (48 : Int32).toInt = 48 := rfl
theorem T60 : (60 : Int32).toInt = 60 := rfl
theorem T63 : (63 : Int32).toInt = 63 := rfl
theorem T64 : (64 : Int32).toInt = 64 := rfl
theorem T80 : (80 : Int32).toInt = 80 := rfl
theorem T200 : (200 : Int32).toInt = 200 := rfl
theorem T384 : (384 : Int32).toInt = 384 := rfl
theorem T1000 : (1000 : Int32).toInt = 1000 := rfl
theorem TN : (1048576 : Int32).toInt = 1048576 := rfl
theorem TP : (2147483647 : Int32).toInt = 2147483647 := rfl
theorem Tm1 : (-1 : Int32).toInt = -1 := rfl
theorem Tm9 : (-9 : Int32).toInt = -9 := rfl

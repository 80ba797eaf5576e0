/-! the reference: steps, lines, corners, light -/
def dX (way : Nat) : Int := if way = 1 then 1 else if way = 3 then -1 else 0
def dY (way : Nat) : Int := if way = 0 then -1 else if way = 2 then 1 else 0
theorem nq_xy {T : tT} (hT : tG T) {c way : Nat} (hc : c < tC T) (hw : way < 4) : nq T c way = if 0 ≤ ((c % tW T : Nat) : Int) + dX way ∧ ((c % tW T : Nat) : Int) + dX way < tW T ∧ 0 ≤ ((c / tW T : Nat) : Int) + dY way ∧ ((c / tW T : Nat) : Int) + dY way < tH T then some ((tW T : Int) * (((c / tW T : Nat) : Int) + dY way) + (((c % tW T : Nat) : Int) + dX way)).toNat else none := by
  obtain ⟨h1, h2, h3, h4, -⟩ := hT
  unfold nq tC at *
  generalize tW T = w at *
  generalize tH T = h at *
  have hw6 : w = 2 ∨ w = 3 ∨ w = 4 ∨ w = 5 ∨ w = 6 := by omega
  match way, hw with
  | 0, _ =>
    simp only [show dX 0 = 0 from rfl, show dY 0 = -1 from rfl]
    rcases hw6 with rfl | rfl | rfl | rfl | rfl <;> split <;> split <;> first | rfl | (exfalso; omega) | (congr 1; omega)
  | 1, _ =>
    simp only [show dX 1 = 1 from rfl, show dY 1 = 0 from rfl]
    rcases hw6 with rfl | rfl | rfl | rfl | rfl <;> split <;> split <;> first | rfl | (exfalso; omega) | (congr 1; omega)
  | 2, _ =>
    simp only [show dX 2 = 0 from rfl, show dY 2 = 1 from rfl]
    rcases hw6 with rfl | rfl | rfl | rfl | rfl <;> split <;> split <;> first | rfl | (exfalso; omega) | (congr 1; omega)
  | 3, _ =>
    simp only [show dX 3 = -1 from rfl, show dY 3 = 0 from rfl]
    rcases hw6 with rfl | rfl | rfl | rfl | rfl <;> split <;> split <;> first | rfl | (exfalso; omega) | (congr 1; omega)
/-- a set and the streets beside it -/
def spT (T : tT) (s : Nat) : Nat := ((((s ||| s <<< tW T) ||| s >>> tW T) ||| (s &&& cm (rB T)) <<< 1) ||| (s &&& cm (lA T)) >>> 1) &&& tS T
theorem spT_eq (T : tT) (s : Nat) : spT T s = (s &&& tS T) ||| nr T s := by
  apply Nat.eq_of_testBit_eq
  intro i
  unfold spT nr
  simp only [Nat.testBit_and, Nat.testBit_or]
  cases (s.testBit i) <;> cases ((s <<< tW T).testBit i) <;> cases ((s >>> tW T).testBit i) <;> cases (((s &&& cm (rB T)) <<< 1).testBit i) <;> cases (((s &&& cm (lA T)) >>> 1).testBit i) <;> cases ((tS T).testBit i) <;> rfl
theorem one_sub {S c : Nat} (h : S.testBit c = true) : 1 <<< c &&& S = 1 <<< c := by
  apply Nat.eq_of_testBit_eq
  intro i
  rw [Nat.testBit_and, tb_one]
  by_cases e : c = i
  · subst e; simp [h]
  · simp [e]
theorem nr_sub (T : tT) (s : Nat) : nr T s &&& tS T = nr T s := by
  unfold nr
  rw [Nat.and_assoc, Nat.and_self]
theorem cor_sub {T : tT} {c : Nat} (h : (tS T).testBit c = true) : ∀ i, cor T c i &&& tS T = cor T c i
  | 0 => one_sub h
  | i + 1 => by
    show (cor T c i ||| nr T (cor T c i)) &&& tS T = _
    rw [Nat.and_or_distrib_right, cor_sub h i, nr_sub]
    rfl
theorem lnAt_none {T : tT} {c way i : Nat} (h : lnAt T c way i = none) : ∀ j, i ≤ j → lnAt T c way j = none
  | 0, hj => by
    obtain rfl : i = 0 := by omega
    exact h
  | j + 1, hj => by
    by_cases e : i = j + 1
    · subst e; exact h
    · rw [show lnAt T c way (j + 1) = match lnAt T c way j with
        | some q => nx T q way
        | none => none from rfl, lnAt_none h j (by omega)]
theorem lnS_early {T : tT} {c way i : Nat} (h : lnAt T c way i = none) : ∀ n, i ≤ n → lnS T c way n = orN (i + 1) (fun i => oneO (lnAt T c way i))
  | 0, hn => by
    obtain rfl : i = 0 := by omega
    rfl
  | n + 1, hn => by
    by_cases e : i = n + 1
    · subst e; rfl
    · have := lnS_early h n (by omega)
      show lnS T c way n ||| oneO (lnAt T c way (n + 1)) = _
      rw [this, lnAt_none h (n + 1) hn]
      exact Nat.or_zero _
section MG
variable {G : am_G} {l : Launch} {t : am_T} {I : am_I} {L : am_J} {Q : bm_P}
theorem mdiv {c w : Nat} (hc : c < 1000) (hw : 0 < w) (hw2 : w < 1000) : nI c / nI w = nI (c / w) ∧ nI c - nI c / nI w * nI w = nI (c % w) := ⟨pk_div (by omega) hw (by omega), pk_rem (by omega) hw (by omega)⟩
theorem addI {x y : Int32} (a b : Int) (hx : x.toInt = a) (hy : y.toInt = b) (h1 : -2 ^ 31 ≤ a + b) (h2 : a + b < 2 ^ 31) : (x + y).toInt = a + b := by
  rw [Int32.toInt_add, hx, hy]
  exact Int.bmod_eq_of_le (by omega) (by omega)
theorem subI {x y : Int32} (a b : Int) (hx : x.toInt = a) (hy : y.toInt = b) (h1 : -2 ^ 31 ≤ a - b) (h2 : a - b < 2 ^ 31) : (x - y).toInt = a - b := by
  rw [Int32.toInt_sub, hx, hy]
  exact Int.bmod_eq_of_le (by omega) (by omega)
theorem sm_next_0 {T : tT} {z : Int32} (c : Nat) (hT : tG T) (hm : mT T I) (hz : z = nI c) (hc : c < tC T) (h : Q (some (.int (eM (nx T c 0)))) t I L) : bm_C G l 92 [.ref 61, .int z, .int 0] t I L Q := by
  obtain ⟨m1, m2, -, -, -, m6, -⟩ := hm
  have h24 := hT.c24
  have hS : tS T < 2 ^ 31 := Nat.lt_trans hT.s24 (by decide)
  have hq := nq_xy hT hc (show 0 < 4 by decide)
  obtain ⟨g1, g2, g3, g4, -⟩ := hT
  subst hz
  obtain ⟨dv, md⟩ := mdiv (c := c) (w := tW T) (by omega) (by omega) (by omega)
  have hcw : c % tW T < tW T := Nat.mod_lt _ (by omega)
  have hch : c / tW T < tH T := Nat.div_lt_of_lt_mul hc
  clear hc h24
  generalize c % tW T = cx at *
  generalize c / tW T = cy at *
  have hW : (I 61 11).toInt = (tW T : Int) := by rw [m1]; exact nI_toInt (by omega)
  have hx0 : (nI c - nI c / I 61 11 * I 61 11).toInt = (cx : Int) := by rw [m1, md]; exact nI_toInt (by omega)
  have hy0 : (nI c / I 61 11).toInt = (cy : Int) := by rw [m1, dv]; exact nI_toInt (by omega)
  have hx1 : (nI c - nI c / I 61 11 * I 61 11 + (0)).toInt = (cx : Int) + dX 0 := addI _ _ hx0 rfl (by have : dX 0 = 0 := rfl; clear hS; omega) (by have : dX 0 = 0 := rfl; clear hS; omega)
  have hy1 : (nI c / I 61 11 + (-1)).toInt = (cy : Int) + dY 0 := addI _ _ hy0 rfl (by have : dY 0 = -1 := rfl; omega) (by have : dY 0 = -1 := rfl; omega)
  have hw1 : (I 61 11 - 1).toInt64.toInt = (tW T : Int) - 1 := by
    rw [i64]
    exact subI _ _ hW T1 (by omega) (by omega)
  have hh1 : (I 61 12 - 1).toInt64.toInt = (tH T : Int) - 1 := by
    rw [i64]
    refine subI _ _ ?_ T1 (by omega) (by omega)
    rw [m2]; exact nI_toInt (by omega)
  generalize (cx : Int) + dX 0 = X at *
  generalize (cy : Int) + dY 0 = Y at *
  refine bm_go (am_ok_all 92 (by decide)) 90 ?_
  refine ⟨by omega, ?_⟩
  repeat (first | refine And.intro (fun cd => absurd cd (by decide)) (fun _ => ?_) | refine And.intro (fun _ => ?_) (fun cd => absurd cd (by decide)))
  refine ⟨by omega, ?_⟩
  repeat (first | refine And.intro (fun cd => absurd cd (by decide)) (fun _ => ?_) | refine And.intro (fun _ => ?_) (fun cd => absurd cd (by decide)))
  refine sm_in X 0 _ ((i64 _).trans hx1) rfl hw1 (fun c1 c2 => ?_) (fun c1 => ?_)
  · first | refine And.intro (fun cd => absurd cd (by decide)) (fun _ => ?_) | refine And.intro (fun _ => ?_) (fun cd => absurd cd (by decide)) | refine And.intro (fun cd => ?_) (fun cd => ?_)
    refine sm_in Y 0 _ ((i64 _).trans hy1) rfl hh1 (fun c3 c4 => ?_) (fun c3 => ?_)
    · first | refine And.intro (fun cd => absurd cd (by decide)) (fun _ => ?_) | refine And.intro (fun _ => ?_) (fun cd => absurd cd (by decide)) | refine And.intro (fun cd => ?_) (fun cd => ?_)
      rw [if_pos (by omega)] at hq
      obtain ⟨q, rfl⟩ := Int.eq_ofNat_of_zero_le c1
      obtain ⟨p, rfl⟩ := Int.eq_ofNat_of_zero_le c3
      have ex : nI c - nI c / I 61 11 * I 61 11 + (0) = nI q := Int32.toInt_inj.mp (by rw [hx1, nI_toInt (by omega)])
      have ey : nI c / I 61 11 + (-1) = nI p := Int32.toInt_inj.mp (by rw [hy1, nI_toInt (by omega)])
      have ej : ((tW T : Int) * (p : Int) + (q : Int)).toNat = tW T * p + q := by
        rw [← Int.natCast_mul, ← Int.natCast_add]
        exact Int.toNat_natCast _
      rw [ej] at hq
      have hj32 : tW T * p + q < 32 := by
        have : tW T * p ≤ 6 * 3 := Nat.mul_le_mul g2 (by omega)
        omega
      have hj : I 61 11 * (nI c / I 61 11 + (-1)) + (nI c - nI c / I 61 11 * I 61 11 + (0)) = nI (tW T * p + q) := by
        rw [ex, ey, m1, pk_mul, nI_add]
      have hbit : (I 61 16 >>> ((I 61 11 * (nI c / I 61 11 + (-1)) + (nI c - nI c / I 61 11 * I 61 11 + (0))) &&& 31)) &&& 1 = nI (if (tS T).testBit (tW T * p + q) then 1 else 0) := by
        rw [hj, m6, n_shr hS hj32, k1, n_and, tb_sh1]
      have hnx : nx T c 0 = if (tS T).testBit (tW T * p + q) then some (tW T * p + q) else none := by
        unfold nx
        rw [hq]
      rw [hnx] at h
      cases hb : (tS T).testBit (tW T * p + q) with
      | true =>
        rw [hb] at hbit h
        refine And.intro (fun cd => absurd (by rw [hbit]; rfl) cd) (fun cd => ?_)
        rw [if_pos rfl] at h
        have h2 : Q (some (.int (I 61 11 * (nI c / I 61 11 + (-1)) + (nI c - nI c / I 61 11 * I 61 11 + (0))))) t I L := by
          rw [hj]
          exact h
        exact h2
      | false =>
        rw [hb] at hbit h
        refine And.intro (fun cd => h) (fun cd => ?_)
        rw [hbit] at cd
        exact absurd cd (by decide)
    · first | refine And.intro (fun cd => absurd cd (by decide)) (fun _ => ?_) | refine And.intro (fun _ => ?_) (fun cd => absurd cd (by decide)) | refine And.intro (fun cd => ?_) (fun cd => ?_)
      rw [if_neg (by omega)] at hq
      have hnx : nx T c 0 = none := by
        unfold nx
        rw [hq]
      rw [hnx] at h
      exact h
  · first | refine And.intro (fun cd => absurd cd (by decide)) (fun _ => ?_) | refine And.intro (fun _ => ?_) (fun cd => absurd cd (by decide)) | refine And.intro (fun cd => ?_) (fun cd => ?_)
    rw [if_neg (by omega)] at hq
    have hnx : nx T c 0 = none := by
      unfold nx
      rw [hq]
    rw [hnx] at h
    exact h
theorem sm_next_1 {T : tT} {z : Int32} (c : Nat) (hT : tG T) (hm : mT T I) (hz : z = nI c) (hc : c < tC T) (h : Q (some (.int (eM (nx T c 1)))) t I L) : bm_C G l 92 [.ref 61, .int z, .int 1] t I L Q := by
  obtain ⟨m1, m2, -, -, -, m6, -⟩ := hm
  have h24 := hT.c24
  have hS : tS T < 2 ^ 31 := Nat.lt_trans hT.s24 (by decide)
  have hq := nq_xy hT hc (show 1 < 4 by decide)
  obtain ⟨g1, g2, g3, g4, -⟩ := hT
  subst hz
  obtain ⟨dv, md⟩ := mdiv (c := c) (w := tW T) (by omega) (by omega) (by omega)
  have hcw : c % tW T < tW T := Nat.mod_lt _ (by omega)
  have hch : c / tW T < tH T := Nat.div_lt_of_lt_mul hc
  clear hc h24
  generalize c % tW T = cx at *
  generalize c / tW T = cy at *
  have hW : (I 61 11).toInt = (tW T : Int) := by rw [m1]; exact nI_toInt (by omega)
  have hx0 : (nI c - nI c / I 61 11 * I 61 11).toInt = (cx : Int) := by rw [m1, md]; exact nI_toInt (by omega)
  have hy0 : (nI c / I 61 11).toInt = (cy : Int) := by rw [m1, dv]; exact nI_toInt (by omega)
  have hx1 : (nI c - nI c / I 61 11 * I 61 11 + (1)).toInt = (cx : Int) + dX 1 := addI _ _ hx0 rfl (by have : dX 1 = 1 := rfl; clear hS; omega) (by have : dX 1 = 1 := rfl; clear hS; omega)
  have hy1 : (nI c / I 61 11 + (0)).toInt = (cy : Int) + dY 1 := addI _ _ hy0 rfl (by have : dY 1 = 0 := rfl; omega) (by have : dY 1 = 0 := rfl; omega)
  have hw1 : (I 61 11 - 1).toInt64.toInt = (tW T : Int) - 1 := by
    rw [i64]
    exact subI _ _ hW T1 (by omega) (by omega)
  have hh1 : (I 61 12 - 1).toInt64.toInt = (tH T : Int) - 1 := by
    rw [i64]
    refine subI _ _ ?_ T1 (by omega) (by omega)
    rw [m2]; exact nI_toInt (by omega)
  generalize (cx : Int) + dX 1 = X at *
  generalize (cy : Int) + dY 1 = Y at *
  refine bm_go (am_ok_all 92 (by decide)) 90 ?_
  refine ⟨by omega, ?_⟩
  repeat (first | refine And.intro (fun cd => absurd cd (by decide)) (fun _ => ?_) | refine And.intro (fun _ => ?_) (fun cd => absurd cd (by decide)))
  refine ⟨by omega, ?_⟩
  repeat (first | refine And.intro (fun cd => absurd cd (by decide)) (fun _ => ?_) | refine And.intro (fun _ => ?_) (fun cd => absurd cd (by decide)))
  refine sm_in X 0 _ ((i64 _).trans hx1) rfl hw1 (fun c1 c2 => ?_) (fun c1 => ?_)
  · first | refine And.intro (fun cd => absurd cd (by decide)) (fun _ => ?_) | refine And.intro (fun _ => ?_) (fun cd => absurd cd (by decide)) | refine And.intro (fun cd => ?_) (fun cd => ?_)
    refine sm_in Y 0 _ ((i64 _).trans hy1) rfl hh1 (fun c3 c4 => ?_) (fun c3 => ?_)
    · first | refine And.intro (fun cd => absurd cd (by decide)) (fun _ => ?_) | refine And.intro (fun _ => ?_) (fun cd => absurd cd (by decide)) | refine And.intro (fun cd => ?_) (fun cd => ?_)
      rw [if_pos (by omega)] at hq
      obtain ⟨q, rfl⟩ := Int.eq_ofNat_of_zero_le c1
      obtain ⟨p, rfl⟩ := Int.eq_ofNat_of_zero_le c3
      have ex : nI c - nI c / I 61 11 * I 61 11 + (1) = nI q := Int32.toInt_inj.mp (by rw [hx1, nI_toInt (by omega)])
      have ey : nI c / I 61 11 + (0) = nI p := Int32.toInt_inj.mp (by rw [hy1, nI_toInt (by omega)])
      have ej : ((tW T : Int) * (p : Int) + (q : Int)).toNat = tW T * p + q := by
        rw [← Int.natCast_mul, ← Int.natCast_add]
        exact Int.toNat_natCast _
      rw [ej] at hq
      have hj32 : tW T * p + q < 32 := by
        have : tW T * p ≤ 6 * 3 := Nat.mul_le_mul g2 (by omega)
        omega
      have hj : I 61 11 * (nI c / I 61 11 + (0)) + (nI c - nI c / I 61 11 * I 61 11 + (1)) = nI (tW T * p + q) := by
        rw [ex, ey, m1, pk_mul, nI_add]
      have hbit : (I 61 16 >>> ((I 61 11 * (nI c / I 61 11 + (0)) + (nI c - nI c / I 61 11 * I 61 11 + (1))) &&& 31)) &&& 1 = nI (if (tS T).testBit (tW T * p + q) then 1 else 0) := by
        rw [hj, m6, n_shr hS hj32, k1, n_and, tb_sh1]
      have hnx : nx T c 1 = if (tS T).testBit (tW T * p + q) then some (tW T * p + q) else none := by
        unfold nx
        rw [hq]
      rw [hnx] at h
      cases hb : (tS T).testBit (tW T * p + q) with
      | true =>
        rw [hb] at hbit h
        refine And.intro (fun cd => absurd (by rw [hbit]; rfl) cd) (fun cd => ?_)
        rw [if_pos rfl] at h
        have h2 : Q (some (.int (I 61 11 * (nI c / I 61 11 + (0)) + (nI c - nI c / I 61 11 * I 61 11 + (1))))) t I L := by
          rw [hj]
          exact h
        exact h2
      | false =>
        rw [hb] at hbit h
        refine And.intro (fun cd => h) (fun cd => ?_)
        rw [hbit] at cd
        exact absurd cd (by decide)
    · first | refine And.intro (fun cd => absurd cd (by decide)) (fun _ => ?_) | refine And.intro (fun _ => ?_) (fun cd => absurd cd (by decide)) | refine And.intro (fun cd => ?_) (fun cd => ?_)
      rw [if_neg (by omega)] at hq
      have hnx : nx T c 1 = none := by
        unfold nx
        rw [hq]
      rw [hnx] at h
      exact h
  · first | refine And.intro (fun cd => absurd cd (by decide)) (fun _ => ?_) | refine And.intro (fun _ => ?_) (fun cd => absurd cd (by decide)) | refine And.intro (fun cd => ?_) (fun cd => ?_)
    rw [if_neg (by omega)] at hq
    have hnx : nx T c 1 = none := by
      unfold nx
      rw [hq]
    rw [hnx] at h
    exact h
theorem sm_next_2 {T : tT} {z : Int32} (c : Nat) (hT : tG T) (hm : mT T I) (hz : z = nI c) (hc : c < tC T) (h : Q (some (.int (eM (nx T c 2)))) t I L) : bm_C G l 92 [.ref 61, .int z, .int 2] t I L Q := by
  obtain ⟨m1, m2, -, -, -, m6, -⟩ := hm
  have h24 := hT.c24
  have hS : tS T < 2 ^ 31 := Nat.lt_trans hT.s24 (by decide)
  have hq := nq_xy hT hc (show 2 < 4 by decide)
  obtain ⟨g1, g2, g3, g4, -⟩ := hT
  subst hz
  obtain ⟨dv, md⟩ := mdiv (c := c) (w := tW T) (by omega) (by omega) (by omega)
  have hcw : c % tW T < tW T := Nat.mod_lt _ (by omega)
  have hch : c / tW T < tH T := Nat.div_lt_of_lt_mul hc
  clear hc h24
  generalize c % tW T = cx at *
  generalize c / tW T = cy at *
  have hW : (I 61 11).toInt = (tW T : Int) := by rw [m1]; exact nI_toInt (by omega)
  have hx0 : (nI c - nI c / I 61 11 * I 61 11).toInt = (cx : Int) := by rw [m1, md]; exact nI_toInt (by omega)
  have hy0 : (nI c / I 61 11).toInt = (cy : Int) := by rw [m1, dv]; exact nI_toInt (by omega)
  have hx1 : (nI c - nI c / I 61 11 * I 61 11 + (0)).toInt = (cx : Int) + dX 2 := addI _ _ hx0 rfl (by have : dX 2 = 0 := rfl; clear hS; omega) (by have : dX 2 = 0 := rfl; clear hS; omega)
  have hy1 : (nI c / I 61 11 + (1)).toInt = (cy : Int) + dY 2 := addI _ _ hy0 rfl (by have : dY 2 = 1 := rfl; omega) (by have : dY 2 = 1 := rfl; omega)
  have hw1 : (I 61 11 - 1).toInt64.toInt = (tW T : Int) - 1 := by
    rw [i64]
    exact subI _ _ hW T1 (by omega) (by omega)
  have hh1 : (I 61 12 - 1).toInt64.toInt = (tH T : Int) - 1 := by
    rw [i64]
    refine subI _ _ ?_ T1 (by omega) (by omega)
    rw [m2]; exact nI_toInt (by omega)
  generalize (cx : Int) + dX 2 = X at *
  generalize (cy : Int) + dY 2 = Y at *
  refine bm_go (am_ok_all 92 (by decide)) 90 ?_
  refine ⟨by omega, ?_⟩
  repeat (first | refine And.intro (fun cd => absurd cd (by decide)) (fun _ => ?_) | refine And.intro (fun _ => ?_) (fun cd => absurd cd (by decide)))
  refine ⟨by omega, ?_⟩
  repeat (first | refine And.intro (fun cd => absurd cd (by decide)) (fun _ => ?_) | refine And.intro (fun _ => ?_) (fun cd => absurd cd (by decide)))
  refine sm_in X 0 _ ((i64 _).trans hx1) rfl hw1 (fun c1 c2 => ?_) (fun c1 => ?_)
  · first | refine And.intro (fun cd => absurd cd (by decide)) (fun _ => ?_) | refine And.intro (fun _ => ?_) (fun cd => absurd cd (by decide)) | refine And.intro (fun cd => ?_) (fun cd => ?_)
    refine sm_in Y 0 _ ((i64 _).trans hy1) rfl hh1 (fun c3 c4 => ?_) (fun c3 => ?_)
    · first | refine And.intro (fun cd => absurd cd (by decide)) (fun _ => ?_) | refine And.intro (fun _ => ?_) (fun cd => absurd cd (by decide)) | refine And.intro (fun cd => ?_) (fun cd => ?_)
      rw [if_pos (by omega)] at hq
      obtain ⟨q, rfl⟩ := Int.eq_ofNat_of_zero_le c1
      obtain ⟨p, rfl⟩ := Int.eq_ofNat_of_zero_le c3
      have ex : nI c - nI c / I 61 11 * I 61 11 + (0) = nI q := Int32.toInt_inj.mp (by rw [hx1, nI_toInt (by omega)])
      have ey : nI c / I 61 11 + (1) = nI p := Int32.toInt_inj.mp (by rw [hy1, nI_toInt (by omega)])
      have ej : ((tW T : Int) * (p : Int) + (q : Int)).toNat = tW T * p + q := by
        rw [← Int.natCast_mul, ← Int.natCast_add]
        exact Int.toNat_natCast _
      rw [ej] at hq
      have hj32 : tW T * p + q < 32 := by
        have : tW T * p ≤ 6 * 3 := Nat.mul_le_mul g2 (by omega)
        omega
      have hj : I 61 11 * (nI c / I 61 11 + (1)) + (nI c - nI c / I 61 11 * I 61 11 + (0)) = nI (tW T * p + q) := by
        rw [ex, ey, m1, pk_mul, nI_add]
      have hbit : (I 61 16 >>> ((I 61 11 * (nI c / I 61 11 + (1)) + (nI c - nI c / I 61 11 * I 61 11 + (0))) &&& 31)) &&& 1 = nI (if (tS T).testBit (tW T * p + q) then 1 else 0) := by
        rw [hj, m6, n_shr hS hj32, k1, n_and, tb_sh1]
      have hnx : nx T c 2 = if (tS T).testBit (tW T * p + q) then some (tW T * p + q) else none := by
        unfold nx
        rw [hq]
      rw [hnx] at h
      cases hb : (tS T).testBit (tW T * p + q) with
      | true =>
        rw [hb] at hbit h
        refine And.intro (fun cd => absurd (by rw [hbit]; rfl) cd) (fun cd => ?_)
        rw [if_pos rfl] at h
        have h2 : Q (some (.int (I 61 11 * (nI c / I 61 11 + (1)) + (nI c - nI c / I 61 11 * I 61 11 + (0))))) t I L := by
          rw [hj]
          exact h
        exact h2
      | false =>
        rw [hb] at hbit h
        refine And.intro (fun cd => h) (fun cd => ?_)
        rw [hbit] at cd
        exact absurd cd (by decide)
    · first | refine And.intro (fun cd => absurd cd (by decide)) (fun _ => ?_) | refine And.intro (fun _ => ?_) (fun cd => absurd cd (by decide)) | refine And.intro (fun cd => ?_) (fun cd => ?_)
      rw [if_neg (by omega)] at hq
      have hnx : nx T c 2 = none := by
        unfold nx
        rw [hq]
      rw [hnx] at h
      exact h
  · first | refine And.intro (fun cd => absurd cd (by decide)) (fun _ => ?_) | refine And.intro (fun _ => ?_) (fun cd => absurd cd (by decide)) | refine And.intro (fun cd => ?_) (fun cd => ?_)
    rw [if_neg (by omega)] at hq
    have hnx : nx T c 2 = none := by
      unfold nx
      rw [hq]
    rw [hnx] at h
    exact h
theorem sm_next_3 {T : tT} {z : Int32} (c : Nat) (hT : tG T) (hm : mT T I) (hz : z = nI c) (hc : c < tC T) (h : Q (some (.int (eM (nx T c 3)))) t I L) : bm_C G l 92 [.ref 61, .int z, .int 3] t I L Q := by
  obtain ⟨m1, m2, -, -, -, m6, -⟩ := hm
  have h24 := hT.c24
  have hS : tS T < 2 ^ 31 := Nat.lt_trans hT.s24 (by decide)
  have hq := nq_xy hT hc (show 3 < 4 by decide)
  obtain ⟨g1, g2, g3, g4, -⟩ := hT
  subst hz
  obtain ⟨dv, md⟩ := mdiv (c := c) (w := tW T) (by omega) (by omega) (by omega)
  have hcw : c % tW T < tW T := Nat.mod_lt _ (by omega)
  have hch : c / tW T < tH T := Nat.div_lt_of_lt_mul hc
  clear hc h24
  generalize c % tW T = cx at *
  generalize c / tW T = cy at *
  have hW : (I 61 11).toInt = (tW T : Int) := by rw [m1]; exact nI_toInt (by omega)
  have hx0 : (nI c - nI c / I 61 11 * I 61 11).toInt = (cx : Int) := by rw [m1, md]; exact nI_toInt (by omega)
  have hy0 : (nI c / I 61 11).toInt = (cy : Int) := by rw [m1, dv]; exact nI_toInt (by omega)
  have hx1 : (nI c - nI c / I 61 11 * I 61 11 + (-1)).toInt = (cx : Int) + dX 3 := addI _ _ hx0 rfl (by have : dX 3 = -1 := rfl; clear hS; omega) (by have : dX 3 = -1 := rfl; clear hS; omega)
  have hy1 : (nI c / I 61 11 + (0)).toInt = (cy : Int) + dY 3 := addI _ _ hy0 rfl (by have : dY 3 = 0 := rfl; omega) (by have : dY 3 = 0 := rfl; omega)
  have hw1 : (I 61 11 - 1).toInt64.toInt = (tW T : Int) - 1 := by
    rw [i64]
    exact subI _ _ hW T1 (by omega) (by omega)
  have hh1 : (I 61 12 - 1).toInt64.toInt = (tH T : Int) - 1 := by
    rw [i64]
    refine subI _ _ ?_ T1 (by omega) (by omega)
    rw [m2]; exact nI_toInt (by omega)
  generalize (cx : Int) + dX 3 = X at *
  generalize (cy : Int) + dY 3 = Y at *
  refine bm_go (am_ok_all 92 (by decide)) 90 ?_
  refine ⟨by omega, ?_⟩
  repeat (first | refine And.intro (fun cd => absurd cd (by decide)) (fun _ => ?_) | refine And.intro (fun _ => ?_) (fun cd => absurd cd (by decide)))
  refine ⟨by omega, ?_⟩
  repeat (first | refine And.intro (fun cd => absurd cd (by decide)) (fun _ => ?_) | refine And.intro (fun _ => ?_) (fun cd => absurd cd (by decide)))
  refine sm_in X 0 _ ((i64 _).trans hx1) rfl hw1 (fun c1 c2 => ?_) (fun c1 => ?_)
  · first | refine And.intro (fun cd => absurd cd (by decide)) (fun _ => ?_) | refine And.intro (fun _ => ?_) (fun cd => absurd cd (by decide)) | refine And.intro (fun cd => ?_) (fun cd => ?_)
    refine sm_in Y 0 _ ((i64 _).trans hy1) rfl hh1 (fun c3 c4 => ?_) (fun c3 => ?_)
    · first | refine And.intro (fun cd => absurd cd (by decide)) (fun _ => ?_) | refine And.intro (fun _ => ?_) (fun cd => absurd cd (by decide)) | refine And.intro (fun cd => ?_) (fun cd => ?_)
      rw [if_pos (by omega)] at hq
      obtain ⟨q, rfl⟩ := Int.eq_ofNat_of_zero_le c1
      obtain ⟨p, rfl⟩ := Int.eq_ofNat_of_zero_le c3
      have ex : nI c - nI c / I 61 11 * I 61 11 + (-1) = nI q := Int32.toInt_inj.mp (by rw [hx1, nI_toInt (by omega)])
      have ey : nI c / I 61 11 + (0) = nI p := Int32.toInt_inj.mp (by rw [hy1, nI_toInt (by omega)])
      have ej : ((tW T : Int) * (p : Int) + (q : Int)).toNat = tW T * p + q := by
        rw [← Int.natCast_mul, ← Int.natCast_add]
        exact Int.toNat_natCast _
      rw [ej] at hq
      have hj32 : tW T * p + q < 32 := by
        have : tW T * p ≤ 6 * 3 := Nat.mul_le_mul g2 (by omega)
        omega
      have hj : I 61 11 * (nI c / I 61 11 + (0)) + (nI c - nI c / I 61 11 * I 61 11 + (-1)) = nI (tW T * p + q) := by
        rw [ex, ey, m1, pk_mul, nI_add]
      have hbit : (I 61 16 >>> ((I 61 11 * (nI c / I 61 11 + (0)) + (nI c - nI c / I 61 11 * I 61 11 + (-1))) &&& 31)) &&& 1 = nI (if (tS T).testBit (tW T * p + q) then 1 else 0) := by
        rw [hj, m6, n_shr hS hj32, k1, n_and, tb_sh1]
      have hnx : nx T c 3 = if (tS T).testBit (tW T * p + q) then some (tW T * p + q) else none := by
        unfold nx
        rw [hq]
      rw [hnx] at h
      cases hb : (tS T).testBit (tW T * p + q) with
      | true =>
        rw [hb] at hbit h
        refine And.intro (fun cd => absurd (by rw [hbit]; rfl) cd) (fun cd => ?_)
        rw [if_pos rfl] at h
        have h2 : Q (some (.int (I 61 11 * (nI c / I 61 11 + (0)) + (nI c - nI c / I 61 11 * I 61 11 + (-1))))) t I L := by
          rw [hj]
          exact h
        exact h2
      | false =>
        rw [hb] at hbit h
        refine And.intro (fun cd => h) (fun cd => ?_)
        rw [hbit] at cd
        exact absurd cd (by decide)
    · first | refine And.intro (fun cd => absurd cd (by decide)) (fun _ => ?_) | refine And.intro (fun _ => ?_) (fun cd => absurd cd (by decide)) | refine And.intro (fun cd => ?_) (fun cd => ?_)
      rw [if_neg (by omega)] at hq
      have hnx : nx T c 3 = none := by
        unfold nx
        rw [hq]
      rw [hnx] at h
      exact h
  · first | refine And.intro (fun cd => absurd cd (by decide)) (fun _ => ?_) | refine And.intro (fun _ => ?_) (fun cd => absurd cd (by decide)) | refine And.intro (fun cd => ?_) (fun cd => ?_)
    rw [if_neg (by omega)] at hq
    have hnx : nx T c 3 = none := by
      unfold nx
      rw [hq]
    rw [hnx] at h
    exact h
theorem sm_next {T : tT} {x y : Int32} (c way : Nat) (hT : tG T) (hm : mT T I) (hx : x = nI c) (hc : c < tC T) (hy : y = nI way) (hw : way < 4) (h : Q (some (.int (eM (nx T c way)))) t I L) : bm_C G l 92 [.ref 61, .int x, .int y] t I L Q := by
  subst hy
  match way, hw with
  | 0, _ => exact sm_next_0 c hT hm hx hc h
  | 1, _ => exact sm_next_1 c hT hm hx hc h
  | 2, _ => exact sm_next_2 c hT hm hx hc h
  | 3, _ => exact sm_next_3 c hT hm hx hc h
end MG

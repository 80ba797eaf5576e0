/-! the law's script, and the small words of it -/
def sX (G : am_G) (k : Nat) : Int32 := (if k < G.2.2.1 then G.2.2.2.1 k else 15485957 * nI k + 107) &&& 2147483647
def ce (G : am_G) (k : Nat) : Nat := un (sX G k)
theorem ce_lt (G : am_G) (k : Nat) : ce G k < 2 ^ 31 := by
  unfold ce sX
  generalize (if k < G.2.2.1 then G.2.2.2.1 k else 15485957 * nI k + 107) = z
  rw [pk_and z 31 (m := 2147483647) (by decide)]
  have : z.toBitVec.toNat % 2 ^ 31 < 2 ^ 31 := Nat.mod_lt _ (by decide)
  rw [un_n (by omega)]
  exact this
def sW (G : am_G) : Nat := 2 + ce G 0 % 5
def sH (G : am_G) : Nat := 1 + (ce G 0 >>> 3) % 4
def sN (G : am_G) : Nat := sW G * sH G
def sD (G : am_G) : Nat := (ce G 0 >>> 6) % sN G
def sSt (G : am_G) (c : Nat) : Bool := decide (c = sD G) || !((ce G 1).testBit c && (ce G 2).testBit c)
def sKd (G : am_G) (k : Nat) : Nat := (ce G 4 >>> (4 * k)) % 6
def sRc (G : am_G) (k : Nat) : Nat := 1 + (ce G 5 >>> (4 * k)) % 5
def sWant (G : am_G) : Nat := (ce G 0 >>> 12) % 7
theorem sW_b (G : am_G) : 2 ≤ sW G ∧ sW G ≤ 6 := by
  unfold sW
  omega
theorem sH_b (G : am_G) : 1 ≤ sH G ∧ sH G ≤ 4 := by
  unfold sH
  omega
theorem sN_b (G : am_G) : 2 ≤ sN G ∧ sN G ≤ 24 := by
  have hw := sW_b G
  have hh := sH_b G
  have h1 : 2 * 1 ≤ sW G * sH G := Nat.mul_le_mul hw.1 hh.1
  have h2 : sW G * sH G ≤ 6 * 4 := Nat.mul_le_mul hw.2 hh.2
  exact ⟨h1, h2⟩
theorem sD_lt (G : am_G) : sD G < sN G := Nat.mod_lt _ (by have := (sN_b G).1; omega)
theorem sr_lt {a k : Nat} (h : a < 2 ^ 31) : a >>> k < 2 ^ 31 := by
  rw [Nat.shiftRight_eq_div_pow]
  exact Nat.lt_of_le_of_lt (Nat.div_le_self _ _) h
section SC
variable {G : am_G} {l : Launch} {t : am_T} {I : am_I} {L : am_J} {Q : bm_P}
theorem sp_cell {x : Int32} (hG : G.2.2.1 ≤ 260) (k : Nat) (hk : k < 100) (hx : x = nI k) (hQ : Q (some (.int (nI (ce G k)))) t I L) : bm_C G l 68 [.float 0, .int x] t I L Q := by
  subst hx
  have e : sX G k = nI (ce G k) := (n_un _).symm
  rw [← e] at hQ
  have el : (Int32.ofNat G.2.2.1).toInt = (G.2.2.1 : Int) := nI_toInt (n := G.2.2.1) (by omega)
  have ek := nI_toInt (n := k) (by omega)
  unfold sX at hQ
  refine bm_go (am_ok_all 68 (by decide)) 20 ?_
  refine And.intro (fun cd => ?_) (fun cd => ?_)
  · rw [el, ek] at cd
    rw [if_neg (by omega)] at hQ
    exact hQ
  · rw [el, ek] at cd
    rw [if_pos (by omega)] at hQ
    exact ⟨k, ek, by omega, hQ⟩
theorem sp_wide (hG : G.2.2.1 ≤ 260) (hQ : Q (some (.int (nI (sW G)))) t I L) : bm_C G l 69 [.float 0] t I L Q := by
  have c := ce_lt G 0
  have e : (2 : Int32) + (nI (ce G 0) - nI (ce G 0) / 5 * 5) = nI (sW G) := by
    rw [k5, pk_rem (by omega) (by decide) (by decide), k2, nI_add]
    rfl
  rw [← e] at hQ
  refine bm_go (am_ok_all 69 (by decide)) 20 ?_
  refine sp_cell hG 0 (by decide) rfl ?_
  refine ⟨by decide, ?_⟩
  exact hQ
theorem sp_cells (hG : G.2.2.1 ≤ 260) (hQ : Q (some (.int (nI (sN G)))) t I L) : bm_C G l 70 [.float 0] t I L Q := by
  have c := ce_lt G 0
  have c3 := sr_lt (k := 3) c
  have e : nI (sW G) * ((1 : Int32) + (nI (ce G 0) >>> ((3 : Int32) &&& 31) - nI (ce G 0) >>> ((3 : Int32) &&& 31) / 4 * 4)) = nI (sN G) := by
    rw [k3, n_shr c (by decide), k4, pk_rem (by omega) (by decide) (by decide), k1, nI_add, pk_mul]
    rfl
  rw [← e] at hQ
  refine bm_go (am_ok_all 70 (by decide)) 20 ?_
  refine sp_wide hG ?_
  refine sp_cell hG 0 (by decide) rfl ?_
  refine ⟨by decide, ?_⟩
  exact hQ
theorem sp_door (hG : G.2.2.1 ≤ 260) (hQ : Q (some (.int (nI (sD G)))) t I L) : bm_C G l 71 [.float 0] t I L Q := by
  have c := ce_lt G 0
  have c6 := sr_lt (k := 6) c
  have sb := sN_b G
  have e : nI (ce G 0) >>> ((6 : Int32) &&& 31) - nI (ce G 0) >>> ((6 : Int32) &&& 31) / nI (sN G) * nI (sN G) = nI (sD G) := by
    rw [k6, n_shr c (by decide), pk_rem (by omega) (by omega) (by omega)]
    rfl
  rw [← e] at hQ
  refine bm_go (am_ok_all 71 (by decide)) 20 ?_
  refine sp_cell hG 0 (by decide) rfl ?_
  refine sp_cells hG ?_
  refine ⟨by rw [nI_toInt (by omega)]; omega, ?_⟩
  exact hQ
theorem sp_street {x : Int32} (hG : G.2.2.1 ≤ 260) (c : Nat) (hc : c < 32) (hx : x = nI c) (hQ : Q (some (.int (if sSt G c then 1 else 0))) t I L) : bm_C G l 72 [.float 0, .int x] t I L Q := by
  subst hx
  have c1 := ce_lt G 1
  have c2 := ce_lt G 2
  have sd := sD_lt G
  have sb := sN_b G
  have e : nI (ce G 1) >>> (nI c &&& 31) &&& nI (ce G 2) >>> (nI c &&& 31) &&& 1 = nI (if (ce G 1).testBit c && (ce G 2).testBit c then 1 else 0) := by
    rw [n_shr c1 hc, n_shr c2 hc, n_and, k1, n_and, ← Nat.shiftRight_and_distrib, tb_sh1, Nat.testBit_and]
  refine bm_go (am_ok_all 72 (by decide)) 20 ?_
  refine sp_door hG ?_
  refine And.intro (fun cd => ?_) (fun cd => ?_)
  · rw [nI_toInt (by omega), nI_toInt (by omega)] at cd
    have : sSt G c = true := by
      unfold sSt
      rw [decide_eq_true (show c = sD G by omega)]
      rfl
    rw [this] at hQ
    exact ⟨Or.inr rfl, hQ⟩
  · rw [nI_toInt (by omega), nI_toInt (by omega)] at cd
    have ne : decide (c = sD G) = false := decide_eq_false (by omega)
    refine sp_cell hG 1 (by decide) rfl ?_
    refine sp_cell hG 2 (by decide) rfl ?_
    unfold sSt at hQ
    rw [ne, Bool.false_or] at hQ
    cases eb : ((ce G 1).testBit c && (ce G 2).testBit c) with
    | true =>
      rw [eb] at e hQ
      refine And.intro (fun _ => ⟨Or.inl rfl, hQ⟩) (fun q => ?_)
      rw [e] at q
      exact absurd q (by decide)
    | false =>
      rw [eb] at e hQ
      refine And.intro (fun q => absurd (by rw [e]; rfl) q) (fun _ => ⟨Or.inr rfl, hQ⟩)
theorem sp_kind {x : Int32} (hG : G.2.2.1 ≤ 260) (k : Nat) (hk : k < 8) (hx : x = nI k) (hQ : Q (some (.int (nI (sKd G k)))) t I L) : bm_C G l 73 [.float 0, .int x] t I L Q := by
  subst hx
  have c := ce_lt G 4
  have c6 := sr_lt (k := 4 * k) c
  have e : nI (ce G 4) >>> ((4 : Int32) * nI k &&& 31) - nI (ce G 4) >>> ((4 : Int32) * nI k &&& 31) / 6 * 6 = nI (sKd G k) := by
    rw [k4, pk_mul, n_shr c (by omega), k6, pk_rem (by omega) (by decide) (by decide)]
    rfl
  rw [← e] at hQ
  refine bm_go (am_ok_all 73 (by decide)) 20 ?_
  refine sp_cell hG 4 (by decide) rfl ?_
  refine ⟨by decide, ?_⟩
  exact hQ
theorem sp_reach {x : Int32} (hG : G.2.2.1 ≤ 260) (k : Nat) (hk : k < 8) (hx : x = nI k) (hQ : Q (some (.int (nI (sRc G k)))) t I L) : bm_C G l 74 [.float 0, .int x] t I L Q := by
  subst hx
  have c := ce_lt G 5
  have c6 := sr_lt (k := 4 * k) c
  have e : (1 : Int32) + (nI (ce G 5) >>> ((4 : Int32) * nI k &&& 31) - nI (ce G 5) >>> ((4 : Int32) * nI k &&& 31) / 5 * 5) = nI (sRc G k) := by
    rw [k4, pk_mul, n_shr c (by omega), k5, pk_rem (by omega) (by decide) (by decide), k1, nI_add]
    rfl
  rw [← e] at hQ
  refine bm_go (am_ok_all 74 (by decide)) 20 ?_
  refine sp_cell hG 5 (by decide) rfl ?_
  refine ⟨by decide, ?_⟩
  exact hQ
end SC

/-! the town's text, and what it is read as -/
def ltr (kd : Nat) : Nat := if kd = 0 then 108 else if kd = 1 then 102 else if kd = 2 then 99 else if kd = 3 then 104 else if kd = 4 then 111 else 98
def sLm (G : am_G) (j : Nat) : Nat := if j % 4 = 0 then ltr (sKd G (j / 4)) else if j % 4 = 1 then 48 + sAt G (j / 4) % sW G else if j % 4 = 2 then 48 + sAt G (j / 4) / sW G else 48 + sRc G (j / 4)
def sCl (G : am_G) (c : Nat) : Nat := if c = sD G then 68 else if sSt G c then 46 else 35
def sSg (G : am_G) (i : Nat) : Nat := if i = 0 then 103 else if i = 1 then 48 + sW G else if i = 2 then 48 + sH G else if i - 3 < sN G then sCl G (i - 3) else sLm G (i - 3 - sN G)
def sZ (G : am_G) : Nat := 3 + sN G + 4 * sNum G
def sTx (G : am_G) (i : Nat) : Int := (sSg G i : Int)
theorem sAt_ok (G : am_G) : (∀ j, j < sNum G → sAt G j < sN G ∧ sSt G (sAt G j) = true) ∧ ∀ i j, i < sNum G → j < sNum G → sAt G i = sAt G j → i = j := by
  obtain ⟨-, -, h3, h4⟩ := sLp_ok G (sWant G)
  exact ⟨fun j hj => ⟨(h3 j hj).1, (h3 j hj).2.1⟩, h4⟩
theorem sZ_le (G : am_G) : sZ G ≤ 51 := by
  have := (sN_b G).2
  have := sNum_le G
  unfold sZ
  omega
theorem sAt_div {G : am_G} {j : Nat} (h : j < sNum G) : sAt G j / sW G < sH G ∧ sAt G j % sW G < sW G := by
  have w := sW_b G
  have a := ((sAt_ok G).1 j h).1
  exact ⟨Nat.div_lt_of_lt_mul a, Nat.mod_lt _ (by omega)⟩
theorem ltr_b : ∀ k, k < 6 → kdO (ltr k : Nat) = some k ∧ 97 < ltr k ∧ ltr k < 112 := by decide
theorem sKd_lt (G : am_G) (k : Nat) : sKd G k < 6 := Nat.mod_lt _ (by decide)
theorem sRc_b (G : am_G) (k : Nat) : 1 ≤ sRc G k ∧ sRc G k ≤ 5 := by
  unfold sRc
  omega
theorem sLm_b {G : am_G} {j : Nat} (h : j < 4 * sNum G) : 48 ≤ sLm G j ∧ sLm G j < 112 := by
  have w := sW_b G
  have hh := sH_b G
  have a := @sAt_div G (j / 4) (by omega)
  have k := ltr_b _ (sKd_lt G (j / 4))
  have r := sRc_b G (j / 4)
  have z := Nat.zero_le (sAt G (j / 4) / sW G)
  unfold sLm
  split
  · omega
  · split
    · omega
    · split
      · omega
      · omega
theorem sSg_b {G : am_G} {i : Nat} (h : i < sZ G) : 33 ≤ sSg G i ∧ sSg G i < 112 := by
  have w := sW_b G
  have hh := sH_b G
  unfold sZ at h
  unfold sSg
  split
  · omega
  · split
    · omega
    · split
      · omega
      · split
        · unfold sCl
          split
          · omega
          · split <;> omega
        · have := @sLm_b G (i - 3 - sN G) (by omega)
          omega
theorem tx_sk {G : am_G} {p : Nat} : sk (sZ G) (sTx G) p = p := by
  refine sk_stop (fun q => ?_)
  have := sSg_b q.1
  have q2 : ((sSg G p : Nat) : Int) = 32 := q.2
  omega
theorem tx_sg {G : am_G} {p : Nat} (h : p < sZ G) : sgC (sZ G) (sTx G) p = (sSg G p : Int) := by
  unfold sgC
  rw [if_pos h]
  rfl
theorem tx_fg {G : am_G} {p lo hi v : Nat} (h : p < sZ G) (e : sSg G p = 48 + v) (h1 : lo ≤ v) (h2 : v ≤ hi) : fgO (sZ G) (sTx G) lo hi p = some v := by
  unfold fgO
  rw [tx_sg h, e, if_pos (by omega)]
  congr 1
  omega
theorem tx_S (G : am_G) : pS (sZ G) (sTx G) = (3, some (sW G, sH G)) := by
  have w := sW_b G
  have hh := sH_b G
  have sb := sN_b G
  have z : 3 < sZ G := by unfold sZ; omega
  unfold pS
  rw [tx_sk, tx_sg (by omega), if_pos (show ((sSg G 0 : Nat) : Int) = 103 from rfl), tx_fg (v := sW G) (by omega) rfl w.1 w.2]
  show (match fgO (sZ G) (sTx G) 1 4 2 with
    | none => (2, none)
    | some h => (3, some (sW G, h))) = _
  rw [tx_fg (v := sH G) (by omega) rfl hh.1 hh.2]
theorem tx_cl {G : am_G} {i : Nat} (h : i < sN G) : sSg G (3 + i) = sCl G i := by
  unfold sSg
  rw [if_neg (by omega), if_neg (by omega), if_neg (by omega), show 3 + i - 3 = i by omega, if_pos h]
theorem tx_C (G : am_G) : ∀ (m i : Nat), i + m = sN G → cP (sZ G) (sTx G) m i (3 + i) (bO i (sSt G)) (if sD G < i then some (sD G) else none) = (3 + sN G, some (bO (sN G) (sSt G), some (sD G)))
  | 0, i, h => by
    have := sD_lt G
    obtain rfl : i = sN G := by omega
    rw [if_pos this]
    rfl
  | m + 1, i, h => by
    have ih := tx_C G m (i + 1) (by omega)
    have z : 3 + i < sZ G := by unfold sZ; omega
    unfold cP
    rw [tx_sk, tx_sg z, tx_cl (by omega)]
    rw [bO_s] at ih
    rw [show 3 + i + 1 = 3 + (i + 1) by omega]
    by_cases e : i = sD G
    · subst e
      have sc : sCl G (sD G) = 68 := if_pos rfl
      have ss : sSt G (sD G) = true := by
        unfold sSt
        rw [decide_eq_true rfl]
        rfl
      rw [sc, if_pos ⟨rfl, if_neg (by omega)⟩]
      rw [ss, if_pos rfl, if_pos (by omega)] at ih
      exact ih
    · have ed : (if sD G < i then some (sD G) else none) = if sD G < i + 1 then some (sD G) else none := by
        by_cases q : sD G < i
        · rw [if_pos q, if_pos (by omega)]
        · rw [if_neg q, if_neg (by omega)]
      rw [ed]
      cases ss : sSt G i with
      | true =>
        have sc : sCl G i = 46 := by
          unfold sCl
          rw [if_neg e, ss, if_pos rfl]
        rw [sc, if_neg (fun q => absurd q.1 (by decide)), if_pos (show ((46 : Nat) : Int) = 46 from rfl)]
        rw [ss, if_pos rfl] at ih
        exact ih
      | false =>
        have sc : sCl G i = 35 := by
          unfold sCl
          rw [if_neg e, ss, if_neg (by decide)]
        rw [sc, if_neg (fun q => absurd q.1 (by decide)), if_neg (by decide), if_pos (show ((35 : Nat) : Int) = 35 from rfl)]
        rw [ss, if_neg (by decide), Nat.or_zero] at ih
        exact ih
theorem tx_lm {G : am_G} {k r : Nat} (hr : r < 4) : sSg G (3 + sN G + 4 * k + r) = sLm G (4 * k + r) := by
  unfold sSg
  rw [if_neg (by omega), if_neg (by omega), if_neg (by omega), if_neg (by omega), show 3 + sN G + 4 * k + r - 3 - sN G = 4 * k + r by omega]
theorem tx_1 {G : am_G} {k : Nat} (hk : k < sNum G) {tk : Nat} (ht : tk.testBit (sAt G k) = false) : l1 (sZ G) (sTx G) (sW G) (sH G) (bO (sN G) (sSt G)) tk (3 + sN G + 4 * k) = (3 + sN G + 4 * (k + 1), some (sKd G k, sAt G k, sRc G k)) := by
  have w := sW_b G
  have hh := sH_b G
  have z : 3 + sN G + 4 * k + 3 < sZ G := by unfold sZ; omega
  have a := sAt_div hk
  have a2 := (sAt_ok G).1 k hk
  have lt := ltr_b _ (sKd_lt G k)
  have e0 : sSg G (3 + sN G + 4 * k) = ltr (sKd G k) := by
    have := @tx_lm G k 0 (by decide)
    rw [Nat.add_zero] at this
    rw [this]
    unfold sLm
    rw [if_pos (by omega), show (4 * k + 0) / 4 = k by omega]
  have e1 : sSg G (3 + sN G + 4 * k + 1) = 48 + sAt G k % sW G := by
    rw [tx_lm (by decide)]
    unfold sLm
    rw [if_neg (by omega), if_pos (by omega), show (4 * k + 1) / 4 = k by omega]
  have e2 : sSg G (3 + sN G + 4 * k + 2) = 48 + sAt G k / sW G := by
    rw [tx_lm (by decide)]
    unfold sLm
    rw [if_neg (by omega), if_neg (by omega), if_pos (by omega), show (4 * k + 2) / 4 = k by omega]
  have e3 : sSg G (3 + sN G + 4 * k + 3) = 48 + sRc G k := by
    rw [tx_lm (by decide)]
    unfold sLm
    rw [if_neg (by omega), if_neg (by omega), if_neg (by omega), show (4 * k + 3) / 4 = k by omega]
  have rb := sRc_b G k
  have em : sW G * (sAt G k / sW G) + sAt G k % sW G = sAt G k := Nat.div_add_mod _ _
  unfold l1
  rw [tx_sg (by omega), e0, lt.1]
  show (match fgO (sZ G) (sTx G) 0 (sW G - 1) (3 + sN G + 4 * k + 1) with
    | none => (3 + sN G + 4 * k + 1, none)
    | some x => match fgO (sZ G) (sTx G) 0 (sH G - 1) (3 + sN G + 4 * k + 2) with
      | none => (3 + sN G + 4 * k + 2, none)
      | some y => if (bO (sN G) (sSt G)).testBit (sW G * y + x) = true ∧ tk.testBit (sW G * y + x) = false then
          match fgO (sZ G) (sTx G) 1 5 (3 + sN G + 4 * k + 3) with
          | none => (3 + sN G + 4 * k + 3, none)
          | some r => (3 + sN G + 4 * k + 4, some (sKd G k, sW G * y + x, r))
        else (3 + sN G + 4 * k + 2, none)) = _
  rw [tx_fg (by omega) e1 (Nat.zero_le _) (by omega)]
  show (match fgO (sZ G) (sTx G) 0 (sH G - 1) (3 + sN G + 4 * k + 2) with
      | none => (3 + sN G + 4 * k + 2, none)
      | some y => if (bO (sN G) (sSt G)).testBit (sW G * y + sAt G k % sW G) = true ∧ tk.testBit (sW G * y + sAt G k % sW G) = false then
          match fgO (sZ G) (sTx G) 1 5 (3 + sN G + 4 * k + 3) with
          | none => (3 + sN G + 4 * k + 3, none)
          | some r => (3 + sN G + 4 * k + 4, some (sKd G k, sW G * y + sAt G k % sW G, r))
        else (3 + sN G + 4 * k + 2, none)) = _
  rw [tx_fg (by omega) e2 (Nat.zero_le _) (by omega)]
  show (if (bO (sN G) (sSt G)).testBit (sW G * (sAt G k / sW G) + sAt G k % sW G) = true ∧ tk.testBit (sW G * (sAt G k / sW G) + sAt G k % sW G) = false then
          match fgO (sZ G) (sTx G) 1 5 (3 + sN G + 4 * k + 3) with
          | none => (3 + sN G + 4 * k + 3, none)
          | some r => (3 + sN G + 4 * k + 4, some (sKd G k, sW G * (sAt G k / sW G) + sAt G k % sW G, r))
        else (3 + sN G + 4 * k + 2, none)) = _
  rw [em, if_pos ⟨by rw [tb_bO, decide_eq_true a2.1, a2.2]; rfl, ht⟩, tx_fg (by omega) e3 rb.1 rb.2]
  rw [show 3 + sN G + 4 * (k + 1) = 3 + sN G + 4 * k + 4 by omega]
theorem tx_L (G : am_G) : ∀ (m k : Nat) (K P R : Nat → Nat), 7 ≤ m + k → k ≤ sNum G → (∀ j, j < k → K j = sKd G j ∧ P j = sAt G j ∧ R j = sRc G j) → ∃ K' P' R', lP (sZ G) (sTx G) (sW G) (sH G) (bO (sN G) (sSt G)) m k (3 + sN G + 4 * k) K P R = (sZ G, some (sNum G, K', P', R')) ∧ ∀ j, j < sNum G → K' j = sKd G j ∧ P' j = sAt G j ∧ R' j = sRc G j
  | 0, k, K, P, R, h, hk, hj => by
    have := sNum_le G
    omega
  | m + 1, k, K, P, R, h, hk, hj => by
    have n6 := sNum_le G
    have ds := (sAt_ok G).2
    by_cases e : k = sNum G
    · subst e
      refine ⟨K, P, R, ?_, hj⟩
      unfold lP
      rw [tx_sk, if_pos (by unfold sZ; omega)]
      rfl
    · have ht : (orN k (fun j => 1 <<< P j)).testBit (sAt G k) = false := by
        cases q : (orN k (fun j => 1 <<< P j)).testBit (sAt G k) with
        | false => rfl
        | true =>
          obtain ⟨j, hj2, hb⟩ := (tb_orN _ _ _).mp q
          rw [tb_one, (hj j hj2).2.1] at hb
          have := ds j k (by omega) (by omega) (by simpa using hb)
          omega
      obtain ⟨K', P', R', e', h'⟩ := tx_L G m (k + 1) (up K k (sKd G k)) (up P k (sAt G k)) (up R k (sRc G k)) (by omega) (by omega) (fun j hj2 => by
        unfold up
        by_cases q : j = k
        · subst q
          rw [if_pos rfl, if_pos rfl, if_pos rfl]
          exact ⟨rfl, rfl, rfl⟩
        · rw [if_neg q, if_neg q, if_neg q]
          exact hj j (by omega))
      refine ⟨K', P', R', ?_, h'⟩
      unfold lP
      rw [tx_sk, if_neg (by unfold sZ; omega), if_neg (by omega), tx_1 (by omega) ht]
      exact e'
theorem tx_P (G : am_G) : ∃ T : tT, pP (sZ G) (sTx G) = (sZ G, some T) ∧ tW T = sW G ∧ tH T = sH G ∧ tS T = bO (sN G) (sSt G) ∧ tD T = sD G ∧ tN T = sNum G ∧ ∀ k, k < sNum G → tK T k = sKd G k ∧ tP T k = sAt G k ∧ tR T k = sRc G k := by
  obtain ⟨K, P, R, e, h⟩ := tx_L G 7 0 (fun _ => 0) (fun _ => 0) (fun _ => 0) (by omega) (Nat.zero_le _) (fun j hj => absurd hj (Nat.not_lt_zero j))
  have c := tx_C G (sN G) 0 (Nat.zero_add _)
  rw [if_neg (Nat.not_lt_zero _)] at c
  refine ⟨((sW G, sH G, bO (sN G) (sSt G), sD G, sNum G), K, P, R), ?_, rfl, rfl, rfl, rfl, rfl, h⟩
  unfold pP
  rw [tx_S]
  show (match cP (sZ G) (sTx G) (sW G * sH G) 0 3 0 none with
    | (q, none) => (q, none)
    | (q, some (_, none)) => (q, none)
    | (q, some (S, some D)) => match lP (sZ G) (sTx G) (sW G) (sH G) S 7 0 q (fun _ => 0) (fun _ => 0) (fun _ => 0) with
      | (r, none) => (r, none)
      | (r, some (k, K, P, R)) => (r, some ((sW G, sH G, S, D, k), K, P, R))) = _
  have c : cP (sZ G) (sTx G) (sW G * sH G) 0 3 0 none = (3 + sN G, some (bO (sN G) (sSt G), some (sD G))) := c
  rw [c]
  show (match lP (sZ G) (sTx G) (sW G) (sH G) (bO (sN G) (sSt G)) 7 0 (3 + sN G) (fun _ => 0) (fun _ => 0) (fun _ => 0) with
      | (r, none) => (r, none)
      | (r, some (k, K, P, R)) => (r, some ((sW G, sH G, bO (sN G) (sSt G), sD G, k), K, P, R))) = _
  rw [Nat.mul_zero, Nat.add_zero] at e
  rw [e]

/-! the class: who stands where, who shines on whom, rings, thieves, the table of lights -/
theorem and_one {a p : Nat} : (a &&& 1 <<< p) = 0 ↔ a.testBit p = false := by
  constructor
  · intro h
    have := congrArg (fun x => x.testBit p) h
    simp only [Nat.testBit_and, tb_one, decide_true, Bool.and_true, Nat.zero_testBit] at this
    exact this
  · intro h
    apply Nat.eq_of_testBit_eq
    intro i
    rw [Nat.testBit_and, tb_one, Nat.zero_testBit]
    by_cases e : p = i
    · subst e; rw [h]; rfl
    · simp [e]
theorem n_z {a : Nat} (h : a < 2 ^ 31) : (nI a).toInt = 0 ↔ a = 0 := by
  rw [nI_toInt h]
  omega
theorem lit_one {T : tT} (sh : Nat) {k : Nat} (hk : k < tN T) : lit T sh (1 <<< k) = shn T sh k := by
  apply Nat.eq_of_testBit_eq
  intro i
  rw [Bool.eq_iff_iff]
  unfold lit
  rw [tb_orN]
  constructor
  · rintro ⟨j, hj, h⟩
    rw [tb_one] at h
    by_cases e : k = j
    · subst e
      simpa using h
    · simp [e] at h
  · intro h
    refine ⟨k, hk, ?_⟩
    rw [tb_one]
    simpa using h
def bar (T : tT) (sh k : Nat) : Nat := bO (tN T) (fun j => j != k && (shn T sh k).testBit (tP T j))
def byL (T : tT) (sh k : Nat) : Nat := bO (tN T) (fun j => j != k && (shn T sh j).testBit (tP T k))
def rg (T : tT) (sh k : Nat) : Nat → Nat
  | 0 => 1 <<< k
  | i + 1 => orN (tN T) (fun j => if (rg T sh k i).testBit j then bar T sh j else 0)
def dk (T : tT) (b f : Nat) : Nat → Nat
  | 0 => (f &&& tS T) &&& cm b
  | i + 1 => dk T b f i ||| (nr T (dk T b f i) &&& cm b)
theorem bO_s (n : Nat) (p : Nat → Bool) : bO (n + 1) p = bO n p ||| (if p n then 1 <<< n else 0) := rfl
theorem orN_s (n : Nat) (f : Nat → Nat) : orN (n + 1) f = orN n f ||| f n := rfl
theorem lt6 {n : Nat} (h : n ≤ 6) {a : Nat} (ha : a < 2 ^ n) : a < 64 := Nat.lt_of_lt_of_le ha (Nat.pow_le_pow_right (n := 2) (by decide) h)
section LF
variable {G : am_G} {l : Launch} {t : am_T} {I : am_I} {L : am_J} {Q : bm_P}
theorem sp_lampIn {T : tT} {x : Int32} (c : Nat) (hc : c < 1000) (hn6 : tN T ≤ 6) (hx : x = nI c) (hn : I 7 3 = nI (tN T)) (hP : ∀ k, k < tN T → I 9 k = nI (tP T k) ∧ tP T k < 32) (h1 : ∀ k, k < tN T → tP T k = c → Q (some (.int (nI k))) t I L) (h0 : (∀ k, k < tN T → tP T k ≠ c) → Q (some (.int (-9))) t I L) : bm_C G l 249 [.ref 7, .int x] t I L Q := by
  have lp : ∀ d k y, tN T - k = d → k ≤ tN T → y = nI k → (∀ j, j < k → tP T j ≠ c) → bm_W G l 249 2 [some (.ref 7), some (.int x), some (.int y)] [] t I L Q := by
    intro d
    induction d with
    | zero =>
      intro k y hd hk hy hb
      subst hy
      refine bm_go (am_ok_all 249 (by decide)) 20 ?_
      refine And.intro (fun cd => h0 (fun j hj => hb j (by omega))) (fun cd => ?_)
      simp (disch := omega) only [nI_toInt, T0, T1, T2, T3, T4, T5, T6, T7, T8, T9, T10, T15, T24, T32, T48, T60, T63, T64, T80, T200, T384, T1000, TN, TP, Tm1, Tm9, hn] at cd
      omega
    | succ d ih =>
      intro k y hd hk hy hb
      subst hy
      obtain ⟨p1, p2⟩ := hP k (by omega)
      refine bm_go (am_ok_all 249 (by decide)) 20 ?_
      refine And.intro (fun cd => ?_) (fun cd => ?_)
      · simp (disch := omega) only [nI_toInt, T0, T1, T2, T3, T4, T5, T6, T7, T8, T9, T10, T15, T24, T32, T48, T60, T63, T64, T80, T200, T384, T1000, TN, TP, Tm1, Tm9, hn] at cd
        omega
      · refine ⟨k, and7 (by omega), (by omega : k < 8), ?_⟩
        refine And.intro (fun cd => ?_) (fun cd => ?_)
        · refine ih (k + 1) _ (by omega) (by omega) (nI_succ k).symm ?_
          intro j hj
          by_cases e : j = k
          · subst e
            intro e2
            apply cd
            rw [p1, hx, e2]
          · exact hb j (by omega)
        · refine h1 k (by omega) ?_
          rw [hx] at cd
          simp (disch := omega) only [nI_toInt, T0, T1, T2, T3, T4, T5, T6, T7, T8, T9, T10, T15, T24, T32, T48, T60, T63, T64, T80, T200, T384, T1000, TN, TP, Tm1, Tm9, p1] at cd
          omega
  refine bm_go (am_ok_all 249 (by decide)) 20 ?_
  exact lp (tN T) 0 _ rfl (by omega) rfl (fun j hj => by omega)
theorem sp_howMany {T : tT} {x : Int32} (q : Nat) (hq : q ≤ 5) (hx : x = nI q) (hn6 : tN T ≤ 6) (hn : I 7 3 = nI (tN T)) (hK : ∀ k, k < tN T → I 8 k = nI (tK T k) ∧ tK T k ≤ 5) (h : Q (some (.int (nI (pc (bO (tN T) (fun k => isK (tK T k) q)))))) t I L) : bm_C G l 251 [.ref 7, .int x] t I L Q := by
  have lp : ∀ d k y m, tN T - k = d → k ≤ tN T → y = nI k → m = nI (pc (bO k (fun k => isK (tK T k) q))) → bm_W G l 251 4 [some (.ref 7), some (.int x), some (.int m), some (.int y)] [] t I L Q := by
    intro d
    induction d with
    | zero =>
      intro k y m hd hk hy hm
      obtain rfl : k = tN T := by omega
      subst hy hm
      refine bm_go (am_ok_all 251 (by decide)) 20 ?_
      refine And.intro (fun cd => h) (fun cd => ?_)
      simp (disch := omega) only [nI_toInt, T0, T1, T2, T3, T4, T5, T6, T7, T8, T9, T10, T15, T24, T32, T48, T60, T63, T64, T80, T200, T384, T1000, TN, TP, Tm1, Tm9, hn] at cd
      omega
    | succ d ih =>
      intro k y m hd hk hy hm
      subst hy hm
      obtain ⟨p1, p2⟩ := hK k (by omega)
      refine bm_go (am_ok_all 251 (by decide)) 20 ?_
      refine And.intro (fun cd => ?_) (fun cd => ?_)
      · simp (disch := omega) only [nI_toInt, T0, T1, T2, T3, T4, T5, T6, T7, T8, T9, T10, T15, T24, T32, T48, T60, T63, T64, T80, T200, T384, T1000, TN, TP, Tm1, Tm9, hn] at cd
        omega
      · refine sp_isOfKind (T := T) k q (by omega) rfl hx hq p1 p2 (fun e => ?_) (fun e => ?_)
        · first | refine And.intro (fun cd => absurd cd (by decide)) (fun _ => ?_) | refine And.intro (fun _ => ?_) (fun cd => absurd cd (by decide)) | refine And.intro (fun cd => ?_) (fun cd => ?_)
          refine ih (k + 1) _ _ (by omega) (by omega) (nI_succ k).symm ?_
          rw [pc_bO k _ (by omega), e, k1, nI_add]
          rfl
        · first | refine And.intro (fun cd => absurd cd (by decide)) (fun _ => ?_) | refine And.intro (fun _ => ?_) (fun cd => absurd cd (by decide)) | refine And.intro (fun cd => ?_) (fun cd => ?_)
          refine ih (k + 1) _ _ (by omega) (by omega) (nI_succ k).symm ?_
          rw [pc_bO k _ (by omega), e, k0, nI_add]
          rfl
  refine bm_go (am_ok_all 251 (by decide)) 20 ?_
  exact lp (tN T) 0 _ _ rfl (by omega) rfl (by rw [show bO 0 (fun k => isK (tK T k) q) = 0 from rfl, show pc 0 = 0 from pcn_0 32]; rfl)
theorem sp_barring {T : tT} {x : Int32} (sh k : Nat) (hk : k < tN T) (hx : x = nI k) (hT : tOk T) (hc : cT T I) (hL : cL T sh 13 I) (h : Q (some (.int (nI (bar T sh k)))) t I L) : bm_C G l 260 [.ref 7, .ref 12, .int x] t I L Q := by
  subst hx
  have n6 := hT.2.2.2.1
  have h24 := hT.1.c24
  obtain ⟨-, -, -, hn, -, hl, -⟩ := hc
  have one6 : 1 <<< k < 64 := by
    have := one_lt (k := k) (n := 6) (by omega)
    omega
  have lp : ∀ d j y m, tN T - j = d → j ≤ tN T → y = nI j → m = nI (bO j (fun j => j != k && (shn T sh k).testBit (tP T j))) → bm_W G l 260 5 [some (.ref 7), some (.ref 12), some (.int (nI k)), some (.int m), some (.int y)] [] t I L Q := by
    intro d
    induction d with
    | zero =>
      intro j y m hd hj hy hm
      obtain rfl : j = tN T := by omega
      subst hy hm
      refine bm_go (am_ok_all 260 (by decide)) 20 ?_
      refine And.intro (fun cd => h) (fun cd => ?_)
      simp (disch := omega) only [nI_toInt, T0, T1, T2, T3, T4, T5, T6, T7, T8, T9, T10, T15, T24, T32, T48, T60, T63, T64, T80, T200, T384, T1000, TN, TP, Tm1, Tm9, hn] at cd
      omega
    | succ d ih =>
      intro j y m hd hj hy hm
      subst hy hm
      have hjp := (hT.2.2.2.2.1 j (by omega)).2.1
      refine bm_go (am_ok_all 260 (by decide)) 30 ?_
      refine And.intro (fun cd => ?_) (fun cd => ?_)
      · simp (disch := omega) only [nI_toInt, T0, T1, T2, T3, T4, T5, T6, T7, T8, T9, T10, T15, T24, T32, T48, T60, T63, T64, T80, T200, T384, T1000, TN, TP, Tm1, Tm9, hn] at cd
        omega
      · refine And.intro (fun cd => ?_) (fun cd => ?_)
        · refine ih (j + 1) _ _ (by omega) (by omega) (nI_succ j).symm ?_
          have e : j = k := by
            simp (disch := omega) only [nI_toInt] at cd
            omega
          rw [bO_s, k0, n_or]
          simp [e]
        · have e : j ≠ k := fun e => cd (by rw [e])
          refine sp_of 12 (Or.inl rfl) (1 <<< k) (shl1 (by omega)) one6 ?_
          refine sp_spotOf j (tP T j) rfl (by omega) (hl j (by omega)).2.1 (by omega) ?_
          rw [hL _ one6, lit_one sh hk]
          have hlt := up24 hT.1 (shn_lt hT.1 (sh := sh) (hT.2.2.2.2.1 k hk).2.1)
          have hz := n_z (a := shn T sh k &&& 1 <<< tP T j) (Nat.lt_trans (and_lt _ hlt) (by decide))
          refine And.intro (fun cd => ?_) (fun cd => ?_)
          · refine ih (j + 1) _ _ (by omega) (by omega) (nI_succ j).symm ?_
            have q := and_one.mp (hz.mp (by rwa [n_and] at cd))
            rw [bO_s, k0, n_or, q]
            simp
          · refine ih (j + 1) _ _ (by omega) (by omega) (nI_succ j).symm ?_
            have q : (shn T sh k).testBit (tP T j) = true := by
              cases hb : (shn T sh k).testBit (tP T j) with
              | true => rfl
              | false => exact absurd (by rw [n_and]; exact hz.mpr (and_one.mpr hb)) cd
            rw [bO_s, shl1 (by omega), n_or, q]
            simp [e]
  refine bm_go (am_ok_all 260 (by decide)) 20 ?_
  exact lp (tN T) 0 _ _ rfl (by omega) rfl rfl
theorem sp_barredBy {T : tT} {x : Int32} (sh k : Nat) (hk : k < tN T) (hx : x = nI k) (hT : tOk T) (hc : cT T I) (hL : cL T sh 13 I) (h : Q (some (.int (nI (byL T sh k)))) t I L) : bm_C G l 261 [.ref 7, .ref 12, .int x] t I L Q := by
  subst hx
  have n6 := hT.2.2.2.1
  have h24 := hT.1.c24
  obtain ⟨-, -, -, hn, -, hl, -⟩ := hc
  have hkp := (hT.2.2.2.2.1 k hk).2.1
  have lp : ∀ d j y m, tN T - j = d → j ≤ tN T → y = nI j → m = nI (bO j (fun j => j != k && (shn T sh j).testBit (tP T k))) → bm_W G l 261 5 [some (.ref 7), some (.ref 12), some (.int (nI k)), some (.int m), some (.int y)] [] t I L Q := by
    intro d
    induction d with
    | zero =>
      intro j y m hd hj hy hm
      obtain rfl : j = tN T := by omega
      subst hy hm
      refine bm_go (am_ok_all 261 (by decide)) 20 ?_
      refine And.intro (fun cd => h) (fun cd => ?_)
      simp (disch := omega) only [nI_toInt, T0, T1, T2, T3, T4, T5, T6, T7, T8, T9, T10, T15, T24, T32, T48, T60, T63, T64, T80, T200, T384, T1000, TN, TP, Tm1, Tm9, hn] at cd
      omega
    | succ d ih =>
      intro j y m hd hj hy hm
      subst hy hm
      have hjp := (hT.2.2.2.2.1 j (by omega)).2.1
      have one6 : 1 <<< j < 64 := by
        have := one_lt (k := j) (n := 6) (by omega)
        omega
      refine bm_go (am_ok_all 261 (by decide)) 30 ?_
      refine And.intro (fun cd => ?_) (fun cd => ?_)
      · simp (disch := omega) only [nI_toInt, T0, T1, T2, T3, T4, T5, T6, T7, T8, T9, T10, T15, T24, T32, T48, T60, T63, T64, T80, T200, T384, T1000, TN, TP, Tm1, Tm9, hn] at cd
        omega
      · refine And.intro (fun cd => ?_) (fun cd => ?_)
        · refine ih (j + 1) _ _ (by omega) (by omega) (nI_succ j).symm ?_
          have e : j = k := by
            simp (disch := omega) only [nI_toInt] at cd
            omega
          rw [bO_s, k0, n_or]
          simp [e]
        · have e : j ≠ k := fun e => cd (by rw [e])
          refine sp_of 12 (Or.inl rfl) (1 <<< j) (shl1 (by omega)) one6 ?_
          refine sp_spotOf k (tP T k) rfl (by omega) (hl k hk).2.1 (by omega) ?_
          rw [hL _ one6, lit_one sh (by omega)]
          have hlt := up24 hT.1 (shn_lt hT.1 (sh := sh) hjp)
          have hz := n_z (a := shn T sh j &&& 1 <<< tP T k) (Nat.lt_trans (and_lt _ hlt) (by decide))
          refine And.intro (fun cd => ?_) (fun cd => ?_)
          · refine ih (j + 1) _ _ (by omega) (by omega) (nI_succ j).symm ?_
            have q := and_one.mp (hz.mp (by rwa [n_and] at cd))
            rw [bO_s, k0, n_or, q]
            simp
          · refine ih (j + 1) _ _ (by omega) (by omega) (nI_succ j).symm ?_
            have q : (shn T sh j).testBit (tP T k) = true := by
              cases hb : (shn T sh j).testBit (tP T k) with
              | true => rfl
              | false => exact absurd (by rw [n_and]; exact hz.mpr (and_one.mpr hb)) cd
            rw [bO_s, shl1 (by omega), n_or, q]
            simp [e]
  refine bm_go (am_ok_all 261 (by decide)) 20 ?_
  exact lp (tN T) 0 _ _ rfl (by omega) rfl rfl
theorem sp_darkFrom {T : tT} {x y : Int32} (f b : Nat) (hx : x = nI f) (hy : y = nI b) (hT : tG T) (hc : cG T I) (h : Q (some (.int (nI (dk T b f 24)))) t I L) : bm_C G l 263 [.ref 7, .int x, .int y] t I L Q := by
  have dlt : ∀ i, dk T b f i < 2 ^ 24 := by
    intro i
    induction i with
    | zero => exact and_lt _ (and_lt' _ hT.s24)
    | succ i ih => exact or_lt ih (and_lt _ (nr_lt hT _))
  have lp : ∀ d i z m, 24 - i = d → i ≤ 24 → z = nI i → m = nI (dk T b f i) → bm_W G l 263 14 [some (.ref 7), some (.int x), some (.int y), some (.int m), some (.int z)] [] t I L Q := by
    intro d
    induction d with
    | zero =>
      intro i z m hd hi hz hm
      obtain rfl : i = 24 := by omega
      subst hz hm
      refine bm_go (am_ok_all 263 (by decide)) 20 ?_
      refine And.intro (fun cd => h) (fun cd => ?_)
      simp (disch := omega) only [nI_toInt, T0, T1, T2, T3, T4, T5, T6, T7, T8, T9, T10, T15, T24, T32, T48, T60, T63, T64, T80, T200, T384, T1000, TN, TP, Tm1, Tm9] at cd
      omega
    | succ d ih =>
      intro i z m hd hi hz hm
      subst hz hm
      refine bm_go (am_ok_all 263 (by decide)) 20 ?_
      refine And.intro (fun cd => ?_) (fun cd => ?_)
      · simp (disch := omega) only [nI_toInt, T0, T1, T2, T3, T4, T5, T6, T7, T8, T9, T10, T15, T24, T32, T48, T60, T63, T64, T80, T200, T384, T1000, TN, TP, Tm1, Tm9] at cd
        omega
      · refine sp_near _ hT hc rfl (w24 (dlt i)) ?_
        refine ih (i + 1) _ _ (by omega) (by omega) (nI_succ i).symm ?_
        rw [hy, km1, n_cm, n_and, n_or]
        rfl
  refine bm_go (am_ok_all 263 (by decide)) 20 ?_
  refine lp 24 0 _ _ rfl (by omega) rfl ?_
  rw [hx, hy, hc.1, km1, n_cm, n_and, n_and]
  rfl
end LF

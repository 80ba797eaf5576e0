/-! the reference: corners, lines -/
section MG
variable {G : am_G} {l : Launch} {t : am_T} {I : am_I} {L : am_J} {Q : bm_P}
theorem sm_spreads {T : tT} {x : Int32} (s : Nat) (hT : tG T) (hm : mT T I) (hx : x = nI s) (hs : s < 2 ^ 31) (h : Q (some (.int (nI (spT T s)))) t I L) : bm_C G l 94 [.ref 61, .int x] t I L Q := by
  obtain ⟨m1, -, -, -, -, m6, m7, m8, -⟩ := hm
  have hw2 : tW T < 32 := Nat.lt_of_le_of_lt hT.2.1 (by decide)
  subst hx
  refine bm_go (am_ok_all 94 (by decide)) 60 ?_
  have key : ((((nI s ||| nI s <<< (I 61 11 &&& 31)) ||| nI s >>> (I 61 11 &&& 31)) ||| (nI s &&& (I 61 18 ^^^ -1)) <<< ((1 : Int32) &&& 31)) ||| (nI s &&& (I 61 17 ^^^ -1)) >>> ((1 : Int32) &&& 31)) &&& I 61 16 = nI (spT T s) := by
    rw [m1, m6, m7, m8, km1, n_cm, n_cm, n_and, n_and, n_shl _ hw2, n_shr hs hw2, k1, n_shl _ (by decide), n_shr (and_lt _ hs) (by decide)]
    simp only [n_or, n_and]
    rfl
  rw [← key] at h
  exact h
theorem sm_corners {T : tT} {x y : Int32} (c n : Nat) (hT : tG T) (hm : mT T I) (hx : x = nI c) (hc : c < tC T) (hS : (tS T).testBit c = true) (hy : y = nI n) (hn : n < 1000) (h : Q (some (.int (nI (cor T c n)))) t I L) : bm_C G l 95 [.ref 61, .int x, .int y] t I L Q := by
  have h24 := hT.c24
  have lp : ∀ d i z s, n - i = d → i ≤ n → z = nI i → s = nI (cor T c i) → bm_W G l 95 7 [some (.ref 61), some (.int x), some (.int y), some (.int s), some (.int z)] [] t I L Q := by
    intro d
    induction d with
    | zero =>
      intro i z s hd hi hz hs
      obtain rfl : i = n := by omega
      subst hz hs
      refine bm_go (am_ok_all 95 (by decide)) 20 ?_
      refine And.intro (fun c => h) (fun cd => ?_)
      rw [hy] at cd
      omega
    | succ d ih =>
      intro i z s hd hi hz hs
      subst hz hs
      refine bm_go (am_ok_all 95 (by decide)) 20 ?_
      refine And.intro (fun cd => ?_) (fun cd => ?_)
      · rw [hy] at cd
        simp (disch := omega) only [nI_toInt, T0, T1, T2, T3, T4, T5, T6, T7, T8, T9, T10, T15, T24, T32, T48, T60, T63, T64, T80, T200, T384, T1000, TN, TP, Tm1, Tm9] at cd
        omega
      · refine sm_spreads _ hT hm rfl (Nat.lt_trans (up24 hT (cor_lt hT hc i)) (by decide)) ?_
        refine ih (i + 1) _ _ (by omega) (by omega) (nI_succ i).symm ?_
        rw [spT_eq, cor_sub hS]
        rfl
  refine bm_go (am_ok_all 95 (by decide)) 20 ?_
  exact lp n 0 _ _ rfl (by omega) rfl (by rw [hx, shl1 (by omega)]; rfl)
theorem em_ne {o : Option Nat} (h : ∀ j, o = some j → j < 1000) : (eM o).toInt = -9 ↔ o = none := by
  cases o with
  | none => exact ⟨fun _ => rfl, fun _ => rfl⟩
  | some j =>
    have := h j rfl
    show (nI j).toInt = -9 ↔ _
    rw [nI_toInt (by omega)]
    constructor
    · intro q; omega
    · intro q; cases q
theorem sm_lines {T : tT} {x y : Int32} (c n : Nat) (b : Bool) (hT : tG T) (hm : mT T I) (hx : x = nI c) (hc : c < tC T) (hy : y = nI n) (hn : n < 1000) (h : Q (some (.int (nI (ln T c n (if b then 15 else 10))))) t I L) : bm_C G l 93 [.ref 61, .int x, .int y, .int (bI b)] t I L Q := by
  have h24 := hT.c24
  have inn : ∀ way base (xw : Int32), way < 4 → xw = nI way → (∀ d6 d7, bm_W G l 93 16 [some (.ref 61), some (.int x), some (.int y), some (.int (bI b)), some (.int (nI (base ||| lnS T c way n))), some (.int (xw + (if b then 1 else 2))), d6, d7] [] t I L Q) →
      ∀ d i z s a, n - i = d → i ≤ n → z = nI i → a = eM (lnAt T c way i) → s = nI (base ||| orN (i + 1) (fun i => oneO (lnAt T c way i))) → bm_W G l 93 28 [some (.ref 61), some (.int x), some (.int y), some (.int (bI b)), some (.int s), some (.int xw), some (.int a), some (.int z)] [] t I L Q := by
    intro way base xw hw hxw kont d
    have ex : ∀ s d6 d7, s = nI (base ||| lnS T c way n) → bm_W G l 93 77 [some (.ref 61), some (.int x), some (.int y), some (.int (bI b)), some (.int s), some (.int xw), d6, d7] [] t I L Q := by
      intro s d6 d7 hs
      subst hs
      refine bm_go (am_ok_all 93 (by decide)) 20 ?_
      cases b with
      | true =>
        first | refine And.intro (fun cd => absurd cd (by decide)) (fun _ => ?_) | refine And.intro (fun _ => ?_) (fun cd => absurd cd (by decide)) | refine And.intro (fun cd => ?_) (fun cd => ?_)
        exact kont _ _
      | false =>
        first | refine And.intro (fun cd => absurd cd (by decide)) (fun _ => ?_) | refine And.intro (fun _ => ?_) (fun cd => absurd cd (by decide)) | refine And.intro (fun cd => ?_) (fun cd => ?_)
        exact kont _ _
    induction d with
    | zero =>
      intro i z s a hd hi hz ha hs
      obtain rfl : i = n := by omega
      subst hz
      refine bm_go (am_ok_all 93 (by decide)) 2 ?_
      refine And.intro (fun cd => ex _ _ _ hs) (fun cd => ?_)
      rw [hy] at cd
      omega
    | succ d ih =>
      intro i z s a hd hi hz ha hs
      subst hz hs ha
      have hlt : ∀ j, lnAt T c way i = some j → j < 1000 := fun j e => by have := lnAt_lt hT hc i j e; omega
      cases e : lnAt T c way i with
      | none =>
        refine bm_go (am_ok_all 93 (by decide)) 5 ?_
        refine And.intro (fun cd => ?_) (fun cd => ?_)
        · rw [hy] at cd
          simp (disch := omega) only [nI_toInt, T0, T1, T2, T3, T4, T5, T6, T7, T8, T9, T10, T15, T24, T32, T48, T60, T63, T64, T80, T200, T384, T1000, TN, TP, Tm1, Tm9] at cd
          omega
        · refine And.intro (fun cd => ?_) (fun cd => absurd rfl cd)
          refine ex _ _ _ ?_
          rw [lnS_early e n (by omega)]
      | some j =>
        have hj := lnAt_lt hT hc i j e
        have e2 : lnAt T c way (i + 1) = nx T j way := by
          rw [show lnAt T c way (i + 1) = match lnAt T c way i with
            | some q => nx T q way
            | none => none from rfl, e]
        refine bm_go (am_ok_all 93 (by decide)) 40 ?_
        refine And.intro (fun cd => ?_) (fun cd => ?_)
        · rw [hy] at cd
          simp (disch := omega) only [nI_toInt, T0, T1, T2, T3, T4, T5, T6, T7, T8, T9, T10, T15, T24, T32, T48, T60, T63, T64, T80, T200, T384, T1000, TN, TP, Tm1, Tm9] at cd
          omega
        · refine And.intro (fun cd => ?_) (fun cd => ?_)
          · have cd : (nI j).toInt = (-9 : Int32).toInt := cd
            rw [nI_toInt (by omega)] at cd
            have : (-9 : Int32).toInt = -9 := rfl
            omega
          · refine sm_next j way hT hm rfl hj hxw hw ?_
            cases e3 : nx T j way with
            | none =>
              refine And.intro (fun cd => absurd rfl cd) (fun cd => ?_)
              refine ih (i + 1) _ _ _ (by omega) (by omega) (nI_succ i).symm (by rw [e2, e3]) ?_
              rw [k0, n_or, Nat.or_zero, orN_s (i + 1), e2, e3, show oneO none = 0 from rfl, Nat.or_zero]
            | some q =>
              have hq := (nx_lt hT e3).1
              refine And.intro (fun cd => ?_) (fun cd => ?_)
              · refine ih (i + 1) _ _ _ (by omega) (by omega) (nI_succ i).symm (by rw [e2, e3]) ?_
                show _ ||| (1 : Int32) <<< (nI q &&& 31) = _
                rw [shl1 (by omega), n_or, orN_s (i + 1), e2, e3, Nat.or_assoc]
                rfl
              · have cd : (nI q).toInt = (-9 : Int32).toInt := cd
                rw [nI_toInt (by omega)] at cd
                have : (-9 : Int32).toInt = -9 := rfl
                omega
  have lp1 : ∀ (base : Nat), 1 <<< c ||| (base ||| orN (0 + 1) (fun i => oneO (lnAt T c 0 i))) = 1 <<< c ||| base := by
    intro base
    apply Nat.eq_of_testBit_eq
    intro i
    show (1 <<< c ||| (base ||| (0 ||| 1 <<< c))).testBit i = _
    simp only [Nat.testBit_or, Nat.zero_or]
    cases (1 <<< c).testBit i <;> cases base.testBit i <;> rfl
  have st : ∀ way base (xw : Int32), way < 4 → xw = nI way → (∀ d6 d7, bm_W G l 93 16 [some (.ref 61), some (.int x), some (.int y), some (.int (bI b)), some (.int (nI (1 <<< c ||| base ||| lnS T c way n))), some (.int (xw + (if b then 1 else 2))), d6, d7] [] t I L Q) → ∀ d6 d7, bm_W G l 93 16 [some (.ref 61), some (.int x), some (.int y), some (.int (bI b)), some (.int (nI (1 <<< c ||| base))), some (.int xw), d6, d7] [] t I L Q := by
    intro way base xw hw hxw kont d6 d7
    refine bm_go (am_ok_all 93 (by decide)) 20 ?_
    refine And.intro (fun cd => ?_) (fun cd => ?_)
    · rw [hxw] at cd
      simp (disch := omega) only [nI_toInt, T0, T1, T2, T3, T4, T5, T6, T7, T8, T9, T10, T15, T24, T32, T48, T60, T63, T64, T80, T200, T384, T1000, TN, TP, Tm1, Tm9] at cd
      omega
    · refine inn way (1 <<< c ||| base) xw hw hxw kont n 0 _ _ _ rfl (by omega) rfl hx ?_
      rw [Nat.or_assoc]
      exact congrArg nI (lp1 base).symm
  have stop : ∀ (xw : Int32) s, 4 ≤ xw.toInt → s = nI (ln T c n (if b then 15 else 10)) → ∀ d6 d7, bm_W G l 93 16 [some (.ref 61), some (.int x), some (.int y), some (.int (bI b)), some (.int s), some (.int xw), d6, d7] [] t I L Q := by
    intro xw s hxw hs d6 d7
    subst hs
    refine bm_go (am_ok_all 93 (by decide)) 20 ?_
    refine And.intro (fun cd => h) (fun cd => ?_)
    rw [T4] at cd
    omega
  have b0 : (1 : Int32) <<< (x &&& 31) = nI (1 <<< c ||| 0) := by rw [hx, shl1 (by omega), Nat.or_zero]
  cases b with
  | true =>
    refine bm_go (am_ok_all 93 (by decide)) 20 ?_
    first | refine And.intro (fun cd => absurd cd (by decide)) (fun _ => ?_) | refine And.intro (fun _ => ?_) (fun cd => absurd cd (by decide)) | refine And.intro (fun cd => ?_) (fun cd => ?_)
    rw [b0]
    refine st 0 0 0 (by decide) rfl (fun d6 d7 => ?_) _ _
    rw [Nat.or_assoc]
    refine st 1 _ _ (by decide) rfl (fun d6 d7 => ?_) _ _
    rw [Nat.or_assoc]
    refine st 2 _ _ (by decide) rfl (fun d6 d7 => ?_) _ _
    rw [Nat.or_assoc]
    refine st 3 _ _ (by decide) rfl (fun d6 d7 => ?_) _ _
    refine stop _ _ (by decide) ?_ _ _
    rw [Nat.or_assoc]
    rfl
  | false =>
    refine bm_go (am_ok_all 93 (by decide)) 20 ?_
    first | refine And.intro (fun cd => absurd cd (by decide)) (fun _ => ?_) | refine And.intro (fun _ => ?_) (fun cd => absurd cd (by decide)) | refine And.intro (fun cd => ?_) (fun cd => ?_)
    rw [b0]
    refine st 1 0 1 (by decide) rfl (fun d6 d7 => ?_) _ _
    rw [Nat.or_assoc]
    refine st 3 _ _ (by decide) rfl (fun d6 d7 => ?_) _ _
    refine stop _ _ (by decide) ?_ _ _
    rw [Nat.or_assoc]
    show _ = nI (1 <<< c ||| ((((0 ||| 0) ||| lnS T c 1 n) ||| 0) ||| lnS T c 3 n))
    rw [Nat.or_zero, Nat.or_zero]
end MG

/-! pair: digest, all of it -/
theorem mx_0 (f : Nat → Int32) (h : Int64) : mx 0 f h = h := rfl
theorem itN_0 (F : Nat → Int64 → Int64) (h : Int64) : itN 0 F h = h := rfl
theorem mx_c (f g : Nat → Int32) (h : Int64) : ∀ n, (∀ j, j < n → f j = g j) → mx n f h = mx n g h
  | 0, _ => by rw [mx_0, mx_0]
  | n + 1, e => by rw [mx_s, mx_s, mx_c f g h n (fun j hj => e j (by omega)), e n (by omega)]
section PD
variable {G : am_G} {l : Launch} {t : am_T} {I : am_I} {L : am_J} {Q : bm_P}
theorem rw_eq (hR : InvR I) {k : Nat} (hk : k < 10) (h' : Int64) : (List.range (I 63 k).toInt.toNat).foldl (fun h j => 31 * h + (I (39 + 2 * k) j).toInt64) (31 * h' + (I (38 + 2 * k) 1).toInt64) = rwV I k h' := by
  obtain ⟨r1, r2, r3, r4, r5⟩ := hR k hk
  unfold rwV
  rw [r1]
  exact mx_c _ _ _ _ (fun j hj => r4 j (by omega))
theorem rw_n (hR : InvR I) {k : Nat} (hk : k < 10) : ((I (38 + 2 * k) 1).toInt = ((I 63 k).toInt.toNat : Int) ∨ ((I (38 + 2 * k) 1).toInt = -1 ∧ (I 63 k).toInt.toNat = 0)) ∧ (I 63 k).toInt.toNat ≤ cp k := by
  obtain ⟨r1, r2, r3, r4, r5⟩ := hR k hk
  rw [r1]
  omega
theorem sp_digest {T : tT} (sh : Nat) (hR : InvR I) (hc : cT T I) (hm : mT T I) (hs : sh < 2 ^ tN T) (a1 : I 0 14 = nI sh) (hK : InvK T I) (hS : InvS T I) (hG : (tOk T ∧ InvG T I) ∨ (tE T ∧ InvE I)) (h : Q (some (.long (dgV T sh I))) t I L) : bm_C G l 48 [.ref 0] t I L Q := by
  have hT := InvX.ok hG
  have n6 := hT.n6
  have c24 := hT.c24
  have p6 := Nat.pow_le_pow_right (n := 2) (by decide) n6
  have hl := InvX.lit hG
  have lu : un (I 17 1) < 2 ^ 31 := by rw [hl.1]; omega
  obtain ⟨m, m8, e13, hk⟩ := id hK
  obtain ⟨s, s1, s2, s3, s4⟩ := id hS
  unfold dgV at h
  generalize hA : mx 9 (cV T sh I) 17 = vA at h
  generalize hB : mx (tC T) (wV T) vA = vB at h
  generalize hC : mx (5 * tN T) (pV T sh (un (I 61 24))) vB = vC at h
  generalize hD : itN (I 61 42).toInt.toNat (snV I) (rdV I vC) = vD at h
  have lpG : ∀ k i y v d4, 4 - i = k → i ≤ 4 → y = nI i → v = itN (6 + i) (rwV I) (itN 3 (kpV I) vD) → bm_W G l 48 224 [some (.ref 0), some (.long v), none, some (.int y), d4] [] t I L Q := by
    intro k
    induction k with
    | zero =>
      intro i y v d4 hk hi hy hv
      obtain rfl : i = 4 := by omega
      subst hy hv
      refine bm_go (am_ok_all 48 (by decide)) 40 ?_
      refine And.intro (fun _ => ?_) (fun cd => absurd cd (by decide))
      exact h
    | succ k ih =>
      intro i y v d4 hk hi hy hv
      subst hy hv
      have hi4 : i < 4 := by omega
      match i, hi4 with
      | 0, _ =>
        refine bm_go (am_ok_all 48 (by decide)) 40 ?_
        refine And.intro (fun cd => absurd cd (by decide)) (fun _ => ?_)
        refine ⟨0, rfl, (by omega : 0 < 4), ?_⟩
        refine sp_digested (6 + 0) (by decide) _ (rw_n hR (k := 6 + 0) (by decide)).1 (rw_n hR (k := 6 + 0) (by decide)).2 ?_
        rw [rw_eq hR (by decide)]
        exact ih (0 + 1) _ _ _ (by omega) (by omega) rfl (itN_s _ _ _).symm
      | 1, _ =>
        refine bm_go (am_ok_all 48 (by decide)) 40 ?_
        refine And.intro (fun cd => absurd cd (by decide)) (fun _ => ?_)
        refine ⟨1, rfl, (by omega : 1 < 4), ?_⟩
        refine sp_digested (6 + 1) (by decide) _ (rw_n hR (k := 6 + 1) (by decide)).1 (rw_n hR (k := 6 + 1) (by decide)).2 ?_
        rw [rw_eq hR (by decide)]
        exact ih (1 + 1) _ _ _ (by omega) (by omega) rfl (itN_s _ _ _).symm
      | 2, _ =>
        refine bm_go (am_ok_all 48 (by decide)) 40 ?_
        refine And.intro (fun cd => absurd cd (by decide)) (fun _ => ?_)
        refine ⟨2, rfl, (by omega : 2 < 4), ?_⟩
        refine sp_digested (6 + 2) (by decide) _ (rw_n hR (k := 6 + 2) (by decide)).1 (rw_n hR (k := 6 + 2) (by decide)).2 ?_
        rw [rw_eq hR (by decide)]
        exact ih (2 + 1) _ _ _ (by omega) (by omega) rfl (itN_s _ _ _).symm
      | 3, _ =>
        refine bm_go (am_ok_all 48 (by decide)) 40 ?_
        refine And.intro (fun cd => absurd cd (by decide)) (fun _ => ?_)
        refine ⟨3, rfl, (by omega : 3 < 4), ?_⟩
        refine sp_digested (6 + 3) (by decide) _ (rw_n hR (k := 6 + 3) (by decide)).1 (rw_n hR (k := 6 + 3) (by decide)).2 ?_
        rw [rw_eq hR (by decide)]
        exact ih (3 + 1) _ _ _ (by omega) (by omega) rfl (itN_s _ _ _).symm
  have lpF : ∀ k i y v d4, 6 - i = k → i ≤ 6 → y = nI i → v = itN i (rwV I) (itN 3 (kpV I) vD) → bm_W G l 48 199 [some (.ref 0), some (.long v), none, some (.int y), d4] [] t I L Q := by
    intro k
    induction k with
    | zero =>
      intro i y v d4 hk hi hy hv
      obtain rfl : i = 6 := by omega
      subst hy hv
      refine bm_go (am_ok_all 48 (by decide)) 40 ?_
      refine And.intro (fun _ => ?_) (fun cd => absurd cd (by decide))
      exact lpG 4 0 _ _ _ rfl (by decide) rfl rfl
    | succ k ih =>
      intro i y v d4 hk hi hy hv
      subst hy hv
      have hi4 : i < 6 := by omega
      match i, hi4 with
      | 0, _ =>
        refine bm_go (am_ok_all 48 (by decide)) 40 ?_
        refine And.intro (fun cd => absurd cd (by decide)) (fun _ => ?_)
        refine ⟨0, rfl, (by omega : 0 < 6), ?_⟩
        refine sp_digested 0 (by decide) _ (rw_n hR (k := 0) (by decide)).1 (rw_n hR (k := 0) (by decide)).2 ?_
        rw [rw_eq hR (by decide)]
        exact ih (0 + 1) _ _ _ (by omega) (by omega) rfl (itN_s _ _ _).symm
      | 1, _ =>
        refine bm_go (am_ok_all 48 (by decide)) 40 ?_
        refine And.intro (fun cd => absurd cd (by decide)) (fun _ => ?_)
        refine ⟨1, rfl, (by omega : 1 < 6), ?_⟩
        refine sp_digested 1 (by decide) _ (rw_n hR (k := 1) (by decide)).1 (rw_n hR (k := 1) (by decide)).2 ?_
        rw [rw_eq hR (by decide)]
        exact ih (1 + 1) _ _ _ (by omega) (by omega) rfl (itN_s _ _ _).symm
      | 2, _ =>
        refine bm_go (am_ok_all 48 (by decide)) 40 ?_
        refine And.intro (fun cd => absurd cd (by decide)) (fun _ => ?_)
        refine ⟨2, rfl, (by omega : 2 < 6), ?_⟩
        refine sp_digested 2 (by decide) _ (rw_n hR (k := 2) (by decide)).1 (rw_n hR (k := 2) (by decide)).2 ?_
        rw [rw_eq hR (by decide)]
        exact ih (2 + 1) _ _ _ (by omega) (by omega) rfl (itN_s _ _ _).symm
      | 3, _ =>
        refine bm_go (am_ok_all 48 (by decide)) 40 ?_
        refine And.intro (fun cd => absurd cd (by decide)) (fun _ => ?_)
        refine ⟨3, rfl, (by omega : 3 < 6), ?_⟩
        refine sp_digested 3 (by decide) _ (rw_n hR (k := 3) (by decide)).1 (rw_n hR (k := 3) (by decide)).2 ?_
        rw [rw_eq hR (by decide)]
        exact ih (3 + 1) _ _ _ (by omega) (by omega) rfl (itN_s _ _ _).symm
      | 4, _ =>
        refine bm_go (am_ok_all 48 (by decide)) 40 ?_
        refine And.intro (fun cd => absurd cd (by decide)) (fun _ => ?_)
        refine ⟨4, rfl, (by omega : 4 < 6), ?_⟩
        refine sp_digested 4 (by decide) _ (rw_n hR (k := 4) (by decide)).1 (rw_n hR (k := 4) (by decide)).2 ?_
        rw [rw_eq hR (by decide)]
        exact ih (4 + 1) _ _ _ (by omega) (by omega) rfl (itN_s _ _ _).symm
      | 5, _ =>
        refine bm_go (am_ok_all 48 (by decide)) 40 ?_
        refine And.intro (fun cd => absurd cd (by decide)) (fun _ => ?_)
        refine ⟨5, rfl, (by omega : 5 < 6), ?_⟩
        refine sp_digested 5 (by decide) _ (rw_n hR (k := 5) (by decide)).1 (rw_n hR (k := 5) (by decide)).2 ?_
        rw [rw_eq hR (by decide)]
        exact ih (5 + 1) _ _ _ (by omega) (by omega) rfl (itN_s _ _ _).symm
  have lpE : ∀ k i y v d4, 3 - i = k → i ≤ 3 → y = nI i → v = itN i (kpV I) vD → bm_W G l 48 141 [some (.ref 0), some (.long v), none, some (.int y), d4] [] t I L Q := by
    intro k
    induction k with
    | zero =>
      intro i y v d4 hk hi hy hv
      obtain rfl : i = 3 := by omega
      subst hy hv
      refine bm_go (am_ok_all 48 (by decide)) 40 ?_
      refine And.intro (fun _ => ?_) (fun cd => absurd cd (by decide))
      exact lpF 6 0 _ _ _ rfl (by decide) rfl (itN_0 _ _).symm
    | succ k ih =>
      intro i y v d4 hd hi hy hv
      subst hy hv
      have hi4 : i < 3 := by omega
      match i, hi4 with
      | 0, _ =>
        have hkk := hk 0 (by decide)
        refine bm_go (am_ok_all 48 (by decide)) 60 ?_
        refine And.intro (fun cd => absurd cd (by decide)) (fun _ => ?_)
        refine sp_isIn m 0 e13 rfl (by omega) (by decide) (fun e => ?_) (fun e => ?_)
        · rw [if_pos e] at hkk
          obtain ⟨st, so, sc, g0, g1, g2, g3⟩ := hkk
          first | refine And.intro (fun cd => absurd cd (by decide)) (fun _ => ?_) | refine And.intro (fun _ => ?_) (fun cd => absurd cd (by decide)) | refine And.intro (fun cd => ?_) (fun cd => ?_)
          refine ⟨0, rfl, (by omega : 0 < 3), ?_⟩
          refine sp_mixed ?_
          refine ⟨0, rfl, (by omega : 0 < 3), ?_⟩
          refine sp_mixed ?_
          refine ih (0 + 1) _ _ _ (by omega) (by omega) rfl ?_
          refine Eq.trans (b := kpV I 0 (itN 0 (kpV I) vD)) ?_ (itN_s _ _ _).symm
          generalize itN 0 (kpV I) vD = w
          unfold kpV
          rw [if_neg (fun q => by
            rw [g0] at q
            have q := congrArg Int32.toInt q
            rw [nI_toInt (by have := so.1; omega)] at q
            have q : (st.1 : Int) = -9 := q
            omega), g0, g1, ← sc.1, ← sc.2.1]
        · rw [if_neg (by rw [e]; decide)] at hkk
          first | refine And.intro (fun cd => absurd cd (by decide)) (fun _ => ?_) | refine And.intro (fun _ => ?_) (fun cd => absurd cd (by decide)) | refine And.intro (fun cd => ?_) (fun cd => ?_)
          refine sp_mixed ?_
          refine ih (0 + 1) _ _ _ (by omega) (by omega) rfl ?_
          refine Eq.trans (b := kpV I 0 (itN 0 (kpV I) vD)) ?_ (itN_s _ _ _).symm
          generalize itN 0 (kpV I) vD = w
          unfold kpV
          rw [if_pos hkk]
          rfl
      | 1, _ =>
        have hkk := hk 1 (by decide)
        refine bm_go (am_ok_all 48 (by decide)) 60 ?_
        refine And.intro (fun cd => absurd cd (by decide)) (fun _ => ?_)
        refine sp_isIn m 1 e13 rfl (by omega) (by decide) (fun e => ?_) (fun e => ?_)
        · rw [if_pos e] at hkk
          obtain ⟨st, so, sc, g0, g1, g2, g3⟩ := hkk
          first | refine And.intro (fun cd => absurd cd (by decide)) (fun _ => ?_) | refine And.intro (fun _ => ?_) (fun cd => absurd cd (by decide)) | refine And.intro (fun cd => ?_) (fun cd => ?_)
          refine ⟨1, rfl, (by omega : 1 < 3), ?_⟩
          refine sp_mixed ?_
          refine ⟨1, rfl, (by omega : 1 < 3), ?_⟩
          refine sp_mixed ?_
          refine ih (1 + 1) _ _ _ (by omega) (by omega) rfl ?_
          refine Eq.trans (b := kpV I 1 (itN 1 (kpV I) vD)) ?_ (itN_s _ _ _).symm
          generalize itN 1 (kpV I) vD = w
          unfold kpV
          rw [if_neg (fun q => by
            rw [g0] at q
            have q := congrArg Int32.toInt q
            rw [nI_toInt (by have := so.1; omega)] at q
            have q : (st.1 : Int) = -9 := q
            omega), g0, g1, ← sc.1, ← sc.2.1]
        · rw [if_neg (by rw [e]; decide)] at hkk
          first | refine And.intro (fun cd => absurd cd (by decide)) (fun _ => ?_) | refine And.intro (fun _ => ?_) (fun cd => absurd cd (by decide)) | refine And.intro (fun cd => ?_) (fun cd => ?_)
          refine sp_mixed ?_
          refine ih (1 + 1) _ _ _ (by omega) (by omega) rfl ?_
          refine Eq.trans (b := kpV I 1 (itN 1 (kpV I) vD)) ?_ (itN_s _ _ _).symm
          generalize itN 1 (kpV I) vD = w
          unfold kpV
          rw [if_pos hkk]
          rfl
      | 2, _ =>
        have hkk := hk 2 (by decide)
        refine bm_go (am_ok_all 48 (by decide)) 60 ?_
        refine And.intro (fun cd => absurd cd (by decide)) (fun _ => ?_)
        refine sp_isIn m 2 e13 rfl (by omega) (by decide) (fun e => ?_) (fun e => ?_)
        · rw [if_pos e] at hkk
          obtain ⟨st, so, sc, g0, g1, g2, g3⟩ := hkk
          first | refine And.intro (fun cd => absurd cd (by decide)) (fun _ => ?_) | refine And.intro (fun _ => ?_) (fun cd => absurd cd (by decide)) | refine And.intro (fun cd => ?_) (fun cd => ?_)
          refine ⟨2, rfl, (by omega : 2 < 3), ?_⟩
          refine sp_mixed ?_
          refine ⟨2, rfl, (by omega : 2 < 3), ?_⟩
          refine sp_mixed ?_
          refine ih (2 + 1) _ _ _ (by omega) (by omega) rfl ?_
          refine Eq.trans (b := kpV I 2 (itN 2 (kpV I) vD)) ?_ (itN_s _ _ _).symm
          generalize itN 2 (kpV I) vD = w
          unfold kpV
          rw [if_neg (fun q => by
            rw [g0] at q
            have q := congrArg Int32.toInt q
            rw [nI_toInt (by have := so.1; omega)] at q
            have q : (st.1 : Int) = -9 := q
            omega), g0, g1, ← sc.1, ← sc.2.1]
        · rw [if_neg (by rw [e]; decide)] at hkk
          first | refine And.intro (fun cd => absurd cd (by decide)) (fun _ => ?_) | refine And.intro (fun _ => ?_) (fun cd => absurd cd (by decide)) | refine And.intro (fun cd => ?_) (fun cd => ?_)
          refine sp_mixed ?_
          refine ih (2 + 1) _ _ _ (by omega) (by omega) rfl ?_
          refine Eq.trans (b := kpV I 2 (itN 2 (kpV I) vD)) ?_ (itN_s _ _ _).symm
          generalize itN 2 (kpV I) vD = w
          unfold kpV
          rw [if_pos hkk]
          rfl
  have lpC : ∀ k i y v d4, tN T - i = k → i ≤ tN T → y = nI i → v = mx (5 * i) (pV T sh (un (I 61 24))) vB → bm_W G l 48 62 [some (.ref 0), some (.long v), none, some (.int y), d4] [] t I L Q := by
    intro k
    induction k with
    | zero =>
      intro i y v d4 hd hi hy hv
      obtain rfl : i = tN T := by omega
      subst hy hv
      rw [hC]
      have run : ∀ x : Int32, x = (if tC T = 0 then 1 else 0) → ∀ Q' : bm_P, (bm_W G l 48 141 [some (.ref 0), some (.long vD), none, some (.int 0), d4] [] t I L Q → Q' (some (.long (rdV I vC))) t I L) → bm_C G l 218 [.ref 16, .long vC, .int x] t I L Q' := fun x hx Q' kont => sp_rdV hT hG hx (kont (lpE 3 0 _ _ _ rfl (by decide) rfl (itN_0 _ _).symm))
      refine bm_go (am_ok_all 48 (by decide)) 60 ?_
      refine And.intro (fun _ => ?_) (fun cd => ?_)
      · refine And.intro (fun cd => ?_) (fun cd => ?_)
        · refine run 0 ?_ _ (fun go => ?_)
          · rw [if_neg (fun q => cd (by show (I 7 0).toInt = 0; rw [hc.2.1, q]; rfl))]
          · refine sp_snV hS ?_
            rw [hD]
            exact go
        · refine run 1 ?_ _ (fun go => ?_)
          · have cd : (I 7 0).toInt = 0 := cd
            rw [hc.2.1, nI_toInt (by omega)] at cd
            rw [if_pos (by omega)]
          · refine sp_snV hS ?_
            rw [hD]
            exact go
      · have cd : (nI (tN T)).toInt < (I 7 3).toInt := cd
        rw [hc.2.2.2.1] at cd
        omega
    | succ k ih =>
      intro i y v d4 hd hi hy hv
      subst hy hv
      have lpI : ∀ k j y v, 5 - j = k → j ≤ 5 → y = nI j → v = mx (5 * i + j) (pV T sh (un (I 61 24))) vB → bm_W G l 48 76 [some (.ref 0), some (.long v), none, some (.int (nI i)), some (.int y)] [] t I L Q := by
        intro k
        induction k with
        | zero =>
          intro j y v hd2 hj hy hv
          obtain rfl : j = 5 := by omega
          subst hy hv
          refine bm_go (am_ok_all 48 (by decide)) 40 ?_
          refine And.intro (fun _ => ?_) (fun cd => absurd cd (by decide))
          exact ih (i + 1) _ _ _ (by omega) (by omega) (nI_succ i).symm rfl
        | succ k ih2 =>
          intro j y v hd2 hj hy hv
          subst hy hv
          refine bm_go (am_ok_all 48 (by decide)) 40 ?_
          refine And.intro (fun cd => ?_) (fun _ => ?_)
          · rw [nI_toInt (by omega), T4] at cd
            omega
          refine sp_ofLamp sh i j rfl hT hc (by omega) a1 (by omega) lu rfl (by omega) ?_
          refine sp_mixed ?_
          refine ih2 (j + 1) _ _ (by omega) (by omega) (nI_succ j).symm ?_
          rw [show 5 * i + (j + 1) = 5 * i + j + 1 from rfl, mx_s]
          have cl := hc.2.2.2.2.2.1 i (by omega)
          unfold pV
          rw [show (5 * i + j) / 5 = i by omega, show (5 * i + j) % 5 = j by omega, cl.1, cl.2.1, cl.2.2, hl.1]
      refine bm_go (am_ok_all 48 (by decide)) 40 ?_
      refine And.intro (fun cd => ?_) (fun _ => ?_)
      · have cd : (I 7 3).toInt ≤ (nI i).toInt := cd
        rw [hc.2.2.2.1, nI_toInt (by omega), nI_toInt (by omega)] at cd
        omega
      exact lpI 5 0 _ _ rfl (by decide) rfl rfl
  have lpB : ∀ k i y v d4, tC T - i = k → i ≤ tC T → y = nI i → v = mx i (wV T) vA → bm_W G l 48 30 [some (.ref 0), some (.long v), none, some (.int y), d4] [] t I L Q := by
    intro k
    induction k with
    | zero =>
      intro i y v d4 hd hi hy hv
      obtain rfl : i = tC T := by omega
      subst hy hv
      rw [hB]
      refine bm_go (am_ok_all 48 (by decide)) 40 ?_
      refine And.intro (fun _ => ?_) (fun cd => ?_)
      · exact lpC _ 0 _ _ _ rfl (Nat.zero_le _) rfl (mx_0 _ _).symm
      · have cd : (nI (tC T)).toInt < (I 7 0).toInt := cd
        rw [hc.2.1] at cd
        omega
    | succ k ih =>
      intro i y v d4 hd hi hy hv
      subst hy hv
      refine bm_go (am_ok_all 48 (by decide)) 40 ?_
      refine And.intro (fun cd => ?_) (fun _ => ?_)
      · have cd : (I 7 0).toInt ≤ (nI i).toInt := cd
        rw [hc.2.1, nI_toInt (by omega), nI_toInt (by omega)] at cd
        omega
      refine sp_what i (hT.okc (k := i) (by omega)) hc.1 hc.2.2.1 rfl (by omega) ?_
      refine sp_mixed ?_
      exact ih (i + 1) _ _ _ (by omega) (by omega) (nI_succ i).symm (mx_s _ _ _).symm
  have lpA : ∀ k i y v d4, 9 - i = k → i ≤ 9 → y = nI i → v = mx i (cV T sh I) 17 → bm_W G l 48 6 [some (.ref 0), some (.long v), none, some (.int y), d4] [] t I L Q := by
    intro k
    induction k with
    | zero =>
      intro i y v d4 hd hi hy hv
      obtain rfl : i = 9 := by omega
      subst hy hv
      rw [hA]
      refine bm_go (am_ok_all 48 (by decide)) 40 ?_
      refine And.intro (fun _ => ?_) (fun cd => absurd cd (by decide))
      exact lpB _ 0 _ _ _ rfl (Nat.zero_le _) rfl (mx_0 _ _).symm
    | succ k ih =>
      intro i y v d4 hd hi hy hv
      subst hy hv
      refine bm_go (am_ok_all 48 (by decide)) 40 ?_
      refine And.intro (fun cd => ?_) (fun _ => ?_)
      · rw [nI_toInt (by omega), T8] at cd
        omega
      refine sp_count sh i rfl (by omega) hT hc hR a1 hs hl (by rw [s2, s3]) ?_
      refine sp_mixed ?_
      exact ih (i + 1) _ _ _ (by omega) (by omega) (nI_succ i).symm (mx_s _ _ _).symm
  refine bm_go (am_ok_all 48 (by decide)) 40 ?_
  exact lpA 9 0 _ _ _ rfl (by decide) rfl (mx_0 _ _).symm
end PD

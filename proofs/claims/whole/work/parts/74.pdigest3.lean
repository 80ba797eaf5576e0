/-! pair: digest, the reference -/
section PD
variable {G : am_G} {l : Launch} {t : am_T} {I : am_I} {L : am_J} {Q : bm_P}
theorem sm_joins' {v w : Int64} (h : Q none t I (am_uJ L 61 48 (31 * v + w))) : bm_C G l 164 [.ref 61, .long w] t I (am_uJ L 61 48 v) Q := by
  refine sm_joins ?_
  rw [uJ_u, uJ_eq]
  exact h
theorem sm_digest {T : tT} (sh : Nat) (hR : InvR I) (hm : mT T I) (hs : sh < 2 ^ tN T) (a2 : I 61 19 = nI sh) (hS : InvS T I) (hG : (tOk T ∧ InvG T I) ∨ (tE T ∧ InvE I)) (h : Q (some (.long (dgV T sh I))) t I (am_uJ L 61 48 (dgV T sh I))) : bm_C G l 165 [.ref 61] t I L Q := by
  have hT := InvX.ok hG
  have n6 := hT.n6
  have c24 := hT.c24
  have p6 := Nat.pow_le_pow_right (n := 2) (by decide) n6
  have hl := InvX.lit hG
  have lu : un (I 61 24) < 2 ^ 31 := by omega
  obtain ⟨s, s1, s2, s3, s4⟩ := id hS
  have sn : (I 61 42).toInt.toNat = s := by rw [s3, nI_toInt (by omega)]; omega
  obtain ⟨d, hd, e27, e26⟩ : ∃ d : Nat, d ≤ 200 ∧ I 61 27 = nI d ∧ (I 61 26 = 0 ∨ I 61 26 = 1) := by
    rcases hG with ⟨hok, n, b, d, p, a, kn, kb, sn, mn, mb, sb, hd, g1, g2, _, _, g3⟩ | ⟨he, h1, h2, h3, h4, h5, h6, h7, h8, h9, h10, h11, h12⟩
    · refine ⟨d, hd, g2, ?_⟩
      rw [show I 61 26 = bI n.2.2.2 from mn.2.2.2]
      cases n.2.2.2
      · exact Or.inl rfl
      · exact Or.inr rfl
    · exact ⟨0, by decide, h12.1, Or.inl h11⟩
  have dn : (I 61 27).toInt.toNat = d := by rw [e27, nI_toInt (by omega)]; omega
  unfold dgV at h
  generalize hA : mx 9 (cV T sh I) 17 = vA at h
  generalize hB : mx (tC T) (wV T) vA = vB at h
  generalize hC : mx (5 * tN T) (pV T sh (un (I 61 24))) vB = vC at h
  generalize hD : rdV I vC = vD at h
  generalize hE : itN (I 61 42).toInt.toNat (snV I) vD = vE at h
  generalize hF : itN 3 (kpV I) vE = vF at h
  have lpF : ∀ k i y v d2, 10 - i = k → i ≤ 10 → y = nI i → v = itN i (rwV I) vF → bm_W G l 165 263 [some (.ref 61), some (.int y), d2] [] t I (am_uJ L 61 48 v) Q := by
    intro k
    induction k with
    | zero =>
      intro i y v d2 hk hi hy hv
      obtain rfl : i = 10 := by omega
      subst hy hv
      refine bm_go (am_ok_all 165 (by decide)) 40 ?_
      refine And.intro (fun _ => ?_) (fun cd => absurd cd (by decide))
      show Q (some (.long (am_uJ L 61 48 (itN 10 (rwV I) vF) 61 48))) t I (am_uJ L 61 48 (itN 10 (rwV I) vF))
      rw [uJ_eq]
      exact h
    | succ k ih =>
      intro i y v d2 hk hi hy hv
      subst hy
      obtain ⟨r1, r2, r3, r4, r5⟩ := hR i (by omega)
      have rl := rb_le (k := i) (by omega)
      have c80 : cp i ≤ 80 := by unfold cp; split <;> omega
      have ii : (nI i).toInt = (i : Int) := nI_toInt (by omega)
      have lpI : ∀ k j y v, (I 63 i).toInt.toNat - j = k → j ≤ (I 63 i).toInt.toNat → y = nI j → v = mx j (fun j => I 64 (rb i + j)) (31 * itN i (rwV I) vF + (I 63 i).toInt64) → bm_W G l 165 282 [some (.ref 61), some (.int (nI i)), some (.int y)] [] t I (am_uJ L 61 48 v) Q := by
        intro k
        induction k with
        | zero =>
          intro j y v hd2 hj hy hv
          obtain rfl : j = (I 63 i).toInt.toNat := by omega
          subst hy hv
          refine bm_go (am_ok_all 165 (by decide)) 40 ?_
          refine ⟨i, ii, (by omega : i < 10), ?_⟩
          refine And.intro (fun _ => ?_) (fun cd => ?_)
          · refine ih (i + 1) _ _ _ (by omega) (by omega) (nI_succ i).symm ?_
            exact Eq.trans (b := rwV I i (itN i (rwV I) vF)) rfl (itN_s _ _ _).symm
          · rw [nI_toInt (by omega)] at cd
            omega
        | succ k ih2 =>
          intro j y v hd2 hj hy hv
          subst hy
          refine bm_go (am_ok_all 165 (by decide)) 40 ?_
          refine ⟨i, ii, (by omega : i < 10), ?_⟩
          refine And.intro (fun cd => ?_) (fun _ => ?_)
          · rw [nI_toInt (by omega)] at cd
            omega
          refine sm_base i rfl (by omega) ?_
          refine ⟨rb i + j, by rw [nI_add, nI_toInt (by omega)], (by omega : rb i + j < 680), ?_⟩
          refine sm_joins' ?_
          refine ih2 (j + 1) _ _ (by omega) (by omega) (nI_succ j).symm ?_
          rw [mx_s, hv]
      refine bm_go (am_ok_all 165 (by decide)) 40 ?_
      refine And.intro (fun cd => ?_) (fun _ => ?_)
      · rw [show (10 : Int32).toInt = 10 from rfl, ii] at cd
        omega
      refine ⟨i, ii, (by omega : i < 10), ?_⟩
      refine sm_joins' ?_
      exact lpI _ 0 _ _ rfl (Nat.zero_le _) rfl (by rw [mx_0, hv])
  have lpE : ∀ k i y v d2, 3 - i = k → i ≤ 3 → y = nI i → v = itN i (kpV I) vE → bm_W G l 165 200 [some (.ref 61), some (.int y), d2] [] t I (am_uJ L 61 48 v) Q := by
    intro k
    induction k with
    | zero =>
      intro i y v d2 hk hi hy hv
      obtain rfl : i = 3 := by omega
      subst hy
      rw [hv, hF]
      refine bm_go (am_ok_all 165 (by decide)) 40 ?_
      refine And.intro (fun _ => ?_) (fun cd => absurd cd (by decide))
      exact lpF 10 0 _ _ _ rfl (by decide) rfl (itN_0 _ _).symm
    | succ k ih =>
      intro i y v d2 hk hi hy hv
      subst hy
      have ii : (nI i).toInt = (i : Int) := nI_toInt (by omega)
      refine bm_go (am_ok_all 165 (by decide)) 60 ?_
      refine And.intro (fun cd => ?_) (fun _ => ?_)
      · rw [T3, ii] at cd
        omega
      refine ⟨i, ii, (by omega : i < 3), ?_⟩
      by_cases q : I 70 i = -9
      · refine And.intro (fun cd => absurd (by rw [q]) cd) (fun _ => ?_)
        refine sm_joins' ?_
        refine ⟨i, ii, (by omega : i < 3), ?_⟩
        refine And.intro (fun _ => ?_) (fun cd => absurd (by rw [q]) cd)
        refine ih (i + 1) _ _ _ (by omega) (by omega) (nI_succ i).symm ?_
        refine Eq.trans (b := kpV I i (itN i (kpV I) vE)) ?_ (itN_s _ _ _).symm
        rw [← hv]
        unfold kpV
        rw [if_pos q]
      · have q2 : ¬ (I 70 i).toInt = (-9 : Int32).toInt := fun w => q (Int32.toInt_inj.mp w)
        refine And.intro (fun _ => ?_) (fun cd => absurd cd q2)
        refine ⟨i, ii, (by omega : i < 3), ?_⟩
        refine sm_joins' ?_
        refine ⟨i, ii, (by omega : i < 3), ?_⟩
        refine And.intro (fun cd => absurd cd q2) (fun _ => ?_)
        refine ⟨i, ii, (by omega : i < 3), ?_⟩
        refine sm_joins' ?_
        refine ih (i + 1) _ _ _ (by omega) (by omega) (nI_succ i).symm ?_
        refine Eq.trans (b := kpV I i (itN i (kpV I) vE)) ?_ (itN_s _ _ _).symm
        rw [← hv]
        unfold kpV
        rw [if_neg q]
  have lpD : ∀ k i y v d2, s - i = k → i ≤ s → y = nI i → v = itN i (snV I) vD → bm_W G l 165 162 [some (.ref 61), some (.int y), d2] [] t I (am_uJ L 61 48 v) Q := by
    intro k
    induction k with
    | zero =>
      intro i y v d2 hk hi hy hv
      obtain rfl : i = s := by omega
      subst hy
      rw [sn] at hE
      rw [hv, hE]
      refine bm_go (am_ok_all 165 (by decide)) 40 ?_
      refine And.intro (fun _ => ?_) (fun cd => ?_)
      · exact lpE 3 0 _ _ _ rfl (by decide) rfl (itN_0 _ _).symm
      · rw [s3] at cd
        omega
    | succ k ih =>
      intro i y v d2 hk hi hy hv
      subst hy
      have ii : (nI i).toInt = (i : Int) := nI_toInt (by omega)
      refine bm_go (am_ok_all 165 (by decide)) 60 ?_
      refine And.intro (fun cd => ?_) (fun _ => ?_)
      · rw [s3, nI_toInt (by omega), ii] at cd
        omega
      refine ⟨i, ii, (by omega : i < 8), ?_⟩
      refine sm_joins' ?_
      refine ⟨i, ii, (by omega : i < 8), ?_⟩
      refine sm_joins' ?_
      refine ih (i + 1) _ _ _ (by omega) (by omega) (nI_succ i).symm ?_
      rw [itN_s, hv]
      rfl
  have lpX : ∀ k i y v d2, d - i = k → i ≤ d → y = nI i → v = mx i (fun i => I 69 i) (31 * (31 * (31 * (31 * vC + (I 61 23).toInt64) + (I 61 26).toInt64) + (I 61 25).toInt64) + (I 61 27).toInt64) → bm_W G l 165 135 [some (.ref 61), some (.int y), d2] [] t I (am_uJ L 61 48 v) Q := by
    intro k
    induction k with
    | zero =>
      intro i y v d2 hk hi hy hv
      obtain rfl : i = d := by omega
      subst hy
      unfold rdV at hD
      rw [dn] at hD
      rw [hv, hD]
      refine bm_go (am_ok_all 165 (by decide)) 40 ?_
      refine And.intro (fun _ => ?_) (fun cd => ?_)
      · exact lpD _ 0 _ _ _ rfl (Nat.zero_le _) rfl (itN_0 _ _).symm
      · rw [e27] at cd
        omega
    | succ k ih =>
      intro i y v d2 hk hi hy hv
      subst hy
      have ii : (nI i).toInt = (i : Int) := nI_toInt (by omega)
      refine bm_go (am_ok_all 165 (by decide)) 60 ?_
      refine And.intro (fun cd => ?_) (fun _ => ?_)
      · rw [e27, nI_toInt (by omega), ii] at cd
        omega
      refine ⟨i, ii, (by omega : i < 200), ?_⟩
      refine sm_joins' ?_
      refine ih (i + 1) _ _ _ (by omega) (by omega) (nI_succ i).symm ?_
      rw [mx_s, hv]
  have lpC : ∀ k i y v d2, 5 * tN T - i = k → i ≤ 5 * tN T → y = nI i → v = mx i (pV T sh (un (I 61 24))) vB → bm_W G l 165 59 [some (.ref 61), some (.int y), d2] [] t I (am_uJ L 61 48 v) Q := by
    intro k
    induction k with
    | zero =>
      intro i y v d2 hk hi hy hv
      obtain rfl : i = 5 * tN T := by omega
      subst hy
      rw [hv, hC]
      have go := fun d2 => lpX _ 0 (0 : Int32) _ d2 rfl (Nat.zero_le _) rfl (mx_0 _ _).symm
      refine bm_go (am_ok_all 165 (by decide)) 60 ?_
      refine And.intro (fun _ => ?_) (fun cd => ?_)
      · refine sm_joins' ?_
        refine And.intro (fun cd => ?_) (fun cd => ?_)
        · have e0 : I 61 26 = 0 := by
            rcases e26 with q | q
            · exact q
            · rw [q] at cd
              exact absurd cd (by decide)
          rw [e0] at go
          exact sm_joins' (sm_joins' (sm_joins' (go _)))
        · have e0 : I 61 26 = 1 := by
            rcases e26 with q | q
            · rw [q] at cd
              exact absurd rfl cd
            · exact q
          rw [e0] at go
          exact sm_joins' (sm_joins' (sm_joins' (go _)))
      · rw [hm.2.2.2.1, show (5 : Int32) = nI 5 from rfl, pk_mul] at cd
        omega
    | succ k ih =>
      intro i y v d2 hk hi hy hv
      subst hy
      have ii : (nI i).toInt = (i : Int) := nI_toInt (by omega)
      have md := mdiv (c := i) (w := 5) (by omega) (by decide) (by decide)
      refine bm_go (am_ok_all 165 (by decide)) 60 ?_
      refine And.intro (fun cd => ?_) (fun _ => ?_)
      · rw [hm.2.2.2.1, show (5 : Int32) = nI 5 from rfl, pk_mul, nI_toInt (by omega), ii] at cd
        omega
      refine ⟨by decide, by decide, ?_⟩
      refine sm_part sh (i / 5) (i % 5) md.1 hT hm (by omega) a2 (by omega) lu md.2 (by omega) ?_
      refine sm_joins' ?_
      refine ih (i + 1) _ _ _ (by omega) (by omega) (nI_succ i).symm ?_
      obtain ⟨k1', k2', k3'⟩ := hm.2.2.2.2.2.2.2.2 (i / 5) (by omega)
      rw [mx_s, hv, k1', k2', k3']
      rfl
  have lpB : ∀ k i y v d2, tC T - i = k → i ≤ tC T → y = nI i → v = mx i (wV T) vA → bm_W G l 165 33 [some (.ref 61), some (.int y), d2] [] t I (am_uJ L 61 48 v) Q := by
    intro k
    induction k with
    | zero =>
      intro i y v d2 hk hi hy hv
      obtain rfl : i = tC T := by omega
      subst hy
      rw [hv, hB]
      refine bm_go (am_ok_all 165 (by decide)) 40 ?_
      refine And.intro (fun _ => ?_) (fun cd => ?_)
      · exact lpC _ 0 _ _ _ rfl (Nat.zero_le _) rfl (mx_0 _ _).symm
      · rw [hm.2.2.1] at cd
        omega
    | succ k ih =>
      intro i y v d2 hk hi hy hv
      subst hy
      refine bm_go (am_ok_all 165 (by decide)) 40 ?_
      refine And.intro (fun cd => ?_) (fun _ => ?_)
      · rw [hm.2.2.1, nI_toInt (by omega), nI_toInt (by omega)] at cd
        omega
      refine sm_what i rfl (hT.okc (k := i) (by omega)) hm (by omega) ?_
      refine sm_joins' ?_
      refine ih (i + 1) _ _ _ (by omega) (by omega) (nI_succ i).symm ?_
      rw [mx_s, hv]
      rfl
  have lpA : ∀ k i y v d2, 9 - i = k → i ≤ 9 → y = nI i → v = mx i (cV T sh I) 17 → bm_W G l 165 9 [some (.ref 61), some (.int y), d2] [] t I (am_uJ L 61 48 v) Q := by
    intro k
    induction k with
    | zero =>
      intro i y v d2 hk hi hy hv
      obtain rfl : i = 9 := by omega
      subst hy
      rw [hv, hA]
      refine bm_go (am_ok_all 165 (by decide)) 40 ?_
      refine And.intro (fun _ => ?_) (fun cd => absurd cd (by decide))
      exact lpB _ 0 _ _ _ rfl (Nat.zero_le _) rfl (mx_0 _ _).symm
    | succ k ih =>
      intro i y v d2 hk hi hy hv
      subst hy
      refine bm_go (am_ok_all 165 (by decide)) 40 ?_
      refine And.intro (fun cd => ?_) (fun _ => ?_)
      · rw [nI_toInt (by omega), show (9 : Int32).toInt = 9 from rfl] at cd
        omega
      refine sm_count sh i rfl (by omega) hT hm a2 hs hl.2 ?_
      refine sm_joins' ?_
      refine ih (i + 1) _ _ _ (by omega) (by omega) (nI_succ i).symm ?_
      rw [mx_s, hv]
  refine bm_go (am_ok_all 165 (by decide)) 40 ?_
  exact lpA 9 0 _ _ _ rfl (by decide) rfl (mx_0 _ _).symm
theorem pair_digest (h : Inv t I L) : bm_C G l 48 [.ref 0] t I L (pL G l 165 [.ref 61]) := by
  obtain ⟨T, sh, hc, hm, hs, a1, a2, hL, a4, hK, hS, hO, hG⟩ := id h.2.2
  refine sp_digest sh h.1 hc hm hs a1 hK hS hG ?_
  refine ⟨_, rfl, ?_⟩
  exact sm_digest sh h.1 hm hs a2 hS hG ⟨rfl, h⟩
end PD

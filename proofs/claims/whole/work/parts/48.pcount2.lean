/-! pair: count, the reference -/
section PN
variable {G : am_G} {l : Launch} {t : am_T} {I : am_I} {L : am_J} {Q : bm_P}
/-- the reference's count, up to its switch -/
theorem sm_count0 {T : tT} {x : Int32} (hT : tOK T) (hm : mT T I) (h : bm_W G l 161 133 [some (.ref 61), some (.int x), some (.int (nI (pc (bO (tN T) (fun k => isK (tK T k) 2))))), some (.int (nI (pc (bO (tN T) (fun k => isK (tK T k) 3))))), some (.int (nI (cntR I 0 6 + 16 * cntR I 6 4))), some (.int (nI 10))] [] t I L Q) : bm_C G l 161 [.ref 61, .int x] t I L Q := by
  have n6 := hT.n6
  have hn := hm.2.2.2.1
  have lp2 : ∀ d k y z, 10 - k = d → k ≤ 10 → y = nI k → z = nI (if k ≤ 6 then cntR I 0 k else cntR I 0 6 + 16 * cntR I 6 (k - 6)) → bm_W G l 161 88 [some (.ref 61), some (.int x), some (.int (nI (pc (bO (tN T) (fun k => isK (tK T k) 2))))), some (.int (nI (pc (bO (tN T) (fun k => isK (tK T k) 3))))), some (.int z), some (.int y)] [] t I L Q := by
    intro d
    induction d with
    | zero =>
      intro k y z hd hk hy hz
      obtain rfl : k = 10 := by omega
      rw [if_neg (by decide)] at hz
      subst hy hz
      refine bm_go (am_ok_all 161 (by decide)) 2 ?_
      refine And.intro (fun cd => h) (fun cd => absurd cd (by decide))
    | succ d ih =>
      intro k y z hd hk hy hz
      subst hy hz
      refine bm_go (am_ok_all 161 (by decide)) 60 ?_
      refine And.intro (fun cd => ?_) (fun cd => ?_)
      · simp (disch := omega) only [nI_toInt, T0, T1, T2, T3, T4, T5, T6, T7, T8, T9, T10, T15, T24, T32, T48, T60, T63, T64, T80, T200, T384, T1000, TN, TP, Tm1, Tm9] at cd
        omega
      · refine ⟨k, nI_toInt (by omega), (by omega : k < 10), ?_⟩
        refine And.intro (fun c2 => ?_) (fun c2 => ?_)
        · refine ih (k + 1) _ _ (by omega) (by omega) (nI_succ k).symm ?_
          rw [k0, nI_add, Nat.add_zero]
          by_cases q : k < 6
          · rw [if_pos (by omega), if_pos (by omega), cnt_s I 0 k, Nat.zero_add, if_neg (by omega)]
            rfl
          · by_cases q2 : k = 6
            · subst q2
              rw [if_pos (by omega), if_neg (by omega), show 6 + 1 - 6 = 0 + 1 from rfl, cnt_s I 6 0, Nat.add_zero, if_neg (by omega)]
              rfl
            · rw [if_neg (by omega), if_neg (by omega), show k + 1 - 6 = (k - 6) + 1 by omega, cnt_s I 6 (k - 6), show 6 + (k - 6) = k by omega, if_neg (by omega)]
              rfl
        · refine And.intro (fun c3 => ?_) (fun c3 => ?_)
          · simp (disch := omega) only [nI_toInt, T0, T1, T2, T3, T4, T5, T6, T7, T8, T9, T10, T15, T24, T32, T48, T60, T63, T64, T80, T200, T384, T1000, TN, TP, Tm1, Tm9] at cd
            simp (disch := omega) only [nI_toInt, T6] at c3
            refine ih (k + 1) _ _ (by omega) (by omega) (nI_succ k).symm ?_
            rw [show (16 : Int32) = nI 16 from rfl, nI_add]
            by_cases q2 : k = 6
            · subst q2
              rw [if_pos (by omega), if_neg (by omega), show 6 + 1 - 6 = 0 + 1 from rfl, cnt_s I 6 0, Nat.add_zero, if_pos (by omega)]
              rfl
            · rw [if_neg (by omega), if_neg (by omega), show k + 1 - 6 = (k - 6) + 1 by omega, cnt_s I 6 (k - 6), show 6 + (k - 6) = k by omega, if_pos (by omega), Nat.mul_add, Nat.add_assoc]
          · simp (disch := omega) only [nI_toInt, T6] at c3
            refine ih (k + 1) _ _ (by omega) (by omega) (nI_succ k).symm ?_
            rw [if_pos (by omega), if_pos (by omega), cnt_s I 0 k, Nat.zero_add, if_pos c2, k1, nI_add]
  have lp : ∀ d k y z v d5, tN T - k = d → k ≤ tN T → y = nI k → z = nI (pc (bO k (fun k => isK (tK T k) 2))) → v = nI (pc (bO k (fun k => isK (tK T k) 3))) → bm_W G l 161 7 [some (.ref 61), some (.int x), some (.int z), some (.int v), some (.int y), d5] [] t I L Q := by
    intro d
    induction d with
    | zero =>
      intro k y z v d5 hd hk hy hz hv
      obtain rfl : k = tN T := by omega
      subst hy hz hv
      refine bm_go (am_ok_all 161 (by decide)) 60 ?_
      refine And.intro (fun cd => ?_) (fun cd => ?_)
      · exact lp2 10 0 _ _ rfl (by omega) rfl rfl
      · simp (disch := omega) only [nI_toInt, T0, T1, T2, T3, T4, T5, T6, T7, T8, T9, T10, T15, T24, T32, T48, T60, T63, T64, T80, T200, T384, T1000, TN, TP, Tm1, Tm9, hn] at cd
        omega
    | succ d ih =>
      intro k y z v d5 hd hk hy hz hv
      subst hy hz hv
      have e66 := (hm.2.2.2.2.2.2.2.2 k (by omega)).1
      have hK := ((hT.ok (k := k) (by omega)).2.2.2.2.1 k (by omega)).1
      have kk : (nI k).toInt = (k : Int) := nI_toInt (by omega)
      refine bm_go (am_ok_all 161 (by decide)) 90 ?_
      refine And.intro (fun cd => ?_) (fun cd => ?_)
      · simp (disch := omega) only [nI_toInt, T0, T1, T2, T3, T4, T5, T6, T7, T8, T9, T10, T15, T24, T32, T48, T60, T63, T64, T80, T200, T384, T1000, TN, TP, Tm1, Tm9, hn] at cd
        omega
      · refine ⟨k, kk, (by omega : k < 6), ?_⟩
        rw [e66]
        have go2 : ∀ o, tK T k = o → nI (pc (bO k (fun k => isK (tK T k) 2))) + (if isK o 2 then 1 else 0) = nI (pc (bO (k + 1) (fun k => isK (tK T k) 2))) ∧ nI (pc (bO k (fun k => isK (tK T k) 3))) + (if isK o 3 then 1 else 0) = nI (pc (bO (k + 1) (fun k => isK (tK T k) 3))) := by
          intro o ho
          subst ho
          rw [pc_bO k _ (by omega), pc_bO k _ (by omega), ← nI_add, ← nI_add]
          constructor <;> congr 1 <;> split <;> rfl
        have hk5 : tK T k = 0 ∨ tK T k = 1 ∨ tK T k = 2 ∨ tK T k = 3 ∨ tK T k = 4 ∨ tK T k = 5 := by omega
        rcases hk5 with e9 | e9 | e9 | e9 | e9 | e9
        all_goals
          obtain ⟨f1, f2⟩ := go2 _ e9
          rw [e9]
          repeat (first | refine And.intro (fun cd => absurd cd (by decide)) (fun _ => ?_) | refine And.intro (fun _ => ?_) (fun cd => absurd cd (by decide)) | refine ⟨k, kk, (by omega : k < 6), ?_⟩ | rw [e66, e9])
          exact ih (k + 1) _ _ _ _ (by omega) (by omega) (nI_succ k).symm f1 f2
  refine bm_go (am_ok_all 161 (by decide)) 20 ?_
  exact lp (tN T) 0 _ _ _ _ rfl (by omega) rfl (by rw [show bO 0 (fun k => isK (tK T k) 2) = 0 from rfl, pc_0]; rfl) (by rw [show bO 0 (fun k => isK (tK T k) 3) = 0 from rfl, pc_0]; rfl)
theorem sm_count {T : tT} {x : Int32} (sh w : Nat) (hx : x = nI w) (hw : w < 9) (hT : tOK T) (hm : mT T I) (hsh : I 61 19 = nI sh) (hs : sh < 2 ^ tN T) (hl : un (I 61 24) < 2 ^ tN T) (h : Q (some (.int (cV T sh I w))) t I L) : bm_C G l 161 [.ref 61, .int x] t I L Q := by
  have n6 := hT.n6
  have p6 := Nat.pow_le_pow_right (n := 2) (by decide) n6
  refine sm_count0 hT hm ?_
  subst hx
  have c6 := cntR_le I 0 6
  have c4 := cntR_le I 6 4
  have ed : nI (cntR I 0 6 + 16 * cntR I 6 4) / 16 = nI (cntR I 6 4) := by
    rw [show (16 : Int32) = nI 16 from rfl, pk_div (by omega) (by decide) (by decide)]
    congr 1
    omega
  have er : nI (cntR I 0 6 + 16 * cntR I 6 4) - nI (cntR I 0 6 + 16 * cntR I 6 4) / 16 * 16 = nI (cntR I 0 6) := by
    rw [show (16 : Int32) = nI 16 from rfl, pk_rem (by omega) (by decide) (by decide)]
    congr 1
    omega
  refine bm_go (am_ok_all 161 (by decide)) 40 ?_
  rcases (by omega : w = 0 ∨ w = 1 ∨ w = 2 ∨ w = 3 ∨ w = 4 ∨ w = 5 ∨ w = 6 ∨ w = 7 ∨ w = 8) with rfl | rfl | rfl | rfl | rfl | rfl | rfl | rfl | rfl
  · rw [cV_0] at h
    first | refine And.intro (fun cd => absurd cd (by decide)) (fun _ => ?_) | refine And.intro (fun _ => ?_) (fun cd => absurd cd (by decide)) | refine And.intro (fun cd => ?_) (fun cd => ?_)
    rw [← hm.2.2.1] at h
    exact h
  · rw [cV_1] at h
    repeat (first | refine And.intro (fun cd => absurd cd (by decide)) (fun _ => ?_) | refine And.intro (fun _ => ?_) (fun cd => absurd cd (by decide)))
    rw [← hm.2.2.2.1] at h
    exact h
  · rw [cV_2] at h
    repeat (first | refine And.intro (fun cd => absurd cd (by decide)) (fun _ => ?_) | refine And.intro (fun _ => ?_) (fun cd => absurd cd (by decide)))
    exact sm_size (un (I 61 24)) (n_un _).symm (by omega) h
  · rw [cV_3] at h
    repeat (first | refine And.intro (fun cd => absurd cd (by decide)) (fun _ => ?_) | refine And.intro (fun _ => ?_) (fun cd => absurd cd (by decide)))
    exact sm_size sh hsh (by omega) h
  · rw [cV_4] at h
    repeat (first | refine And.intro (fun cd => absurd cd (by decide)) (fun _ => ?_) | refine And.intro (fun _ => ?_) (fun cd => absurd cd (by decide)))
    exact h
  · rw [cV_5] at h
    repeat (first | refine And.intro (fun cd => absurd cd (by decide)) (fun _ => ?_) | refine And.intro (fun _ => ?_) (fun cd => absurd cd (by decide)))
    exact h
  · rw [cV_6] at h
    repeat (first | refine And.intro (fun cd => absurd cd (by decide)) (fun _ => ?_) | refine And.intro (fun _ => ?_) (fun cd => absurd cd (by decide)))
    rw [← er] at h
    exact ⟨by decide, h⟩
  · rw [cV_7] at h
    repeat (first | refine And.intro (fun cd => absurd cd (by decide)) (fun _ => ?_) | refine And.intro (fun _ => ?_) (fun cd => absurd cd (by decide)))
    rw [← ed] at h
    exact ⟨by decide, h⟩
  · rw [cV_8] at h
    repeat (first | refine And.intro (fun cd => absurd cd (by decide)) (fun _ => ?_) | refine And.intro (fun _ => ?_) (fun cd => absurd cd (by decide)))
    exact h
theorem sm_countBad {T : tT} {x : Int32} (hT : tOK T) (hm : mT T I) (hx : x.toInt < 0 ∨ 8 < x.toInt) (h : Q (some (.int (-1))) t I L) : bm_C G l 161 [.ref 61, .int x] t I L Q := by
  refine sm_count0 hT hm ?_
  refine bm_go (am_ok_all 161 (by decide)) 40 ?_
  refine And.intro (fun cd => ?_) (fun _ => ?_)
  · have cd : x.toInt = 0 := cd
    omega
  refine And.intro (fun cd => ?_) (fun _ => ?_)
  · have cd : x.toInt = 1 := cd
    omega
  refine And.intro (fun cd => ?_) (fun _ => ?_)
  · have cd : x.toInt = 2 := cd
    omega
  refine And.intro (fun cd => ?_) (fun _ => ?_)
  · have cd : x.toInt = 3 := cd
    omega
  refine And.intro (fun cd => ?_) (fun _ => ?_)
  · have cd : x.toInt = 4 := cd
    omega
  refine And.intro (fun cd => ?_) (fun _ => ?_)
  · have cd : x.toInt = 5 := cd
    omega
  refine And.intro (fun cd => ?_) (fun _ => ?_)
  · have cd : x.toInt = 6 := cd
    omega
  refine And.intro (fun cd => ?_) (fun _ => ?_)
  · have cd : x.toInt = 7 := cd
    omega
  refine And.intro (fun cd => ?_) (fun _ => ?_)
  · have cd : x.toInt = 8 := cd
    omega
  exact h
theorem pair_count {x : Int32} (h : Inv t I L) : bm_C G l 45 [.ref 0, .int x] t I L (pI G l 161 [.ref 61, .int x]) := by
  obtain ⟨T, sh, hc, hm, hs, a1, a2, hL, a4, hK, hS, hO, hG⟩ := h.2.2
  have hT := InvX.ok hG
  obtain ⟨m, s1, s2, s3, s4⟩ := id hS
  by_cases hx : 0 ≤ x.toInt ∧ x.toInt ≤ 8
  · have hx2 := of_nn hx.1
    refine sp_count sh x.toInt.toNat hx2 (by omega) hT hc h.1 a1 hs (InvX.lit hG) (by rw [s2, s3]) ?_
    refine ⟨_, rfl, ?_⟩
    exact sm_count sh x.toInt.toNat hx2 (by omega) hT hm a2 hs (InvX.lit hG).2 ⟨rfl, h⟩
  · refine sp_countBad (by omega) ?_
    refine ⟨_, rfl, ?_⟩
    exact sm_countBad hT hm (by omega) ⟨rfl, h⟩
end PN

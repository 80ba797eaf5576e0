/-! pairs: undo, keep, on -/
section PU
variable {G : am_G} {l : Launch} {t : am_T} {I : am_I} {L : am_J} {Q : bm_P}
theorem sp_goBack {T : tT} {b : sT} {x : Int32} (sh m : Nat) (hx : x = nI m) (hm : m ≤ 200) (hT : tOk T) (hc : cT T I) (hL : cL T sh 13 I) (hb : sC b 18 I) (kb : sOk T b) (a : Nat → Nat) (ha : ∀ i, i < m → I 19 i = nI (a i) ∧ gOk T (runS T sh b a i).1 (a i)) (h : ∀ I', frN [16, 17] I I' → sC (runS T sh b a m) 17 I' → I' 16 1 = nI m → Q none t I' L) : bm_C G l 217 [.ref 16, .ref 7, .ref 12, .int x] t I L Q := by
  have lp : ∀ d i y (I1 : am_I), m - i = d → i ≤ m → y = nI i → frN [16, 17] I I1 → sC (runS T sh b a i) 17 I1 → I1 16 1 = nI m → bm_W G l 217 25 [some (.ref 16), some (.ref 7), some (.ref 12), some (.int x), some (.int y)] [] t I1 L Q := by
    intro d
    induction d with
    | zero =>
      intro i y I1 hd hi hy f1 s1 e1
      obtain rfl : i = m := by omega
      subst hy
      refine bm_go (am_ok_all 217 (by decide)) 40 ?_
      refine And.intro (fun cd => h I1 f1 s1 e1) (fun cd => ?_)
      rw [e1] at cd
      omega
    | succ d ih =>
      intro i y I1 hd hi hy f1 s1 e1
      subst hy
      have ag1 := f1.agH (by decide) (by decide)
      refine bm_go (am_ok_all 217 (by decide)) 40 ?_
      refine And.intro (fun cd => ?_) (fun cd => ?_)
      · rw [e1, nI_toInt (by omega), nI_toInt (by omega)] at cd
        omega
      · refine ⟨i, nI_toInt (by omega), (by omega : i < 200), ?_⟩
        refine sp_carry_17 (s := runS T sh b a i) sh (a i) ?_ hT (hc.agH ag1) (hL.agH ag1) s1 (runS_ok hT sh kb a i) (ha i (by omega)).2 (fun I2 f2 s2 => ?_)
        · rw [f1 19 (by decide)]
          exact (ha i (by omega)).1
        · refine ih (i + 1) _ I2 (by omega) (by omega) (nI_succ i).symm (f1.trans (f2.mono (by decide))) s2 ?_
          rw [f2 16 (by decide)]
          exact e1
  refine bm_go (am_ok_all 217 (by decide)) 40 ?_
  refine sp_like_17_18 (fun I1 f1 e1 => ?_) hb.z
  intro z hz
  have hz2 : z = nI m := by
    apply Int32.toInt_inj.mp
    rw [hz, hx, nI_toInt (by omega), T200]
    omega
  refine lp m 0 _ _ rfl (Nat.zero_le _) rfl ((f1.mono (by decide)).u (by decide)) ?_ ?_
  · have := hb.like e1
    exact this
  · show z = _
    exact hz2
theorem sm_undoLoop {T : tT} {b : sT} {x : Int32} (sh m : Nat) (hx : x = nI m) (hm200 : m ≤ 200) (hT : tOk T) (hm : mT T I) (hsh : I 61 19 = nI sh) (hs2 : sh < 2 ^ tN T) (kb : sOk T b) (hb : sM b 23 I) (a : Nat → Nat) (ha : ∀ i, i < m → I 69 i = nI (a i) ∧ gOk T (runS T sh b a i).1 (a i)) {u : Int32} (h : ∀ I', fr61 [23, 24, 25, 26, 27] I I' → sM (runS T sh b a m) 23 I' → I' 61 27 = nI m → Q (some (.int u)) t I' L) : bm_W G l 123 29 [some (.ref 61), some (.int x), some (.int u), some (.int 0)] [] t I L Q := by
  have lp : ∀ d i y (I1 : am_I), m - i = d → i ≤ m → y = nI i → fr61 [23, 24, 25, 26, 27] I I1 → sM (runS T sh b a i) 23 I1 → bm_W G l 123 29 [some (.ref 61), some (.int x), some (.int u), some (.int y)] [] t I1 L Q := by
    intro d
    induction d with
    | zero =>
      intro i y I1 hd hi hy f1 s1
      obtain rfl : i = m := by omega
      subst hy
      refine bm_go (am_ok_all 123 (by decide)) 40 ?_
      refine And.intro (fun cd => ?_) (fun cd => ?_)
      · exact h _ (f1.u (by decide)) s1 hx
      · rw [hx] at cd
        omega
    | succ d ih =>
      intro i y I1 hd hi hy f1 s1
      subst hy
      have hm1 : mT T I1 := hm.f61 f1 (fun j h1 h2 => by simp; omega)
      refine bm_go (am_ok_all 123 (by decide)) 40 ?_
      refine And.intro (fun cd => ?_) (fun cd => ?_)
      · rw [hx, nI_toInt (by omega), nI_toInt (by omega)] at cd
        omega
      · refine ⟨i, nI_toInt (by omega), (by omega : i < 200), ?_⟩
        refine sm_does (s := runS T sh b a i) sh (a i) ?_ hT hm1 (by rw [f1.2 19 (by decide)]; exact hsh) hs2 s1 (runS_ok hT sh kb a i) (ha i (by omega)).2 (fun I2 f2 s2 => ?_)
        · rw [f1.1 69 (by decide)]
          exact (ha i (by omega)).1
        · exact ih (i + 1) _ I2 (by omega) (by omega) (nI_succ i).symm (f1.trans (f2.mono (by decide))) s2
  exact lp m 0 _ I rfl (Nat.zero_le _) rfl (fr61.refl _ _) hb
theorem pair_undo {x : Int32} (h : Inv t I L) : bm_C G l 22 [.ref 0, .int x] t I L (pI G l 123 [.ref 61, .int x]) := by
  obtain ⟨T, sh, hc, hm, hs, a1, a2, hL, a4, hK, hS, hO, hG⟩ := h.2.2
  have hT := InvX.ok hG
  obtain ⟨d, d200, d16, d27⟩ : ∃ d, d ≤ 200 ∧ I 16 1 = nI d ∧ I 61 27 = nI d := by
    rcases hG with ⟨hok, n, b, d, p, a, n1, b1, n2, n3, n4, n5, n6', n7, n8, -⟩ | ⟨he, q1, q2, q3, q4, q5, q6, q7, q8, q9, q10, q11, q12, -⟩
    · exact ⟨d, n6', n7, n8⟩
    · exact ⟨0, by omega, q7, q12⟩
  have t16 : (I 16 1).toInt = (d : Int) := by rw [d16]; exact nI_toInt (by omega)
  have t27 : (I 61 27).toInt = (d : Int) := by rw [d27]; exact nI_toInt (by omega)
  have bad : (x.toInt < 0 ∨ (d : Int) < x.toInt) → bm_C G l 123 [.ref 61, .int x] t I L (fun v' t I L => v' = some (.int (-1)) ∧ Inv t I L) := by
    intro q
    refine bm_go (am_ok_all 123 (by decide)) 40 ?_
    refine sm_in x.toInt 0 d (i64 x) rfl ((i64 _).trans t27) (fun a b => by omega) (fun a => ?_)
    first | refine And.intro (fun cd => absurd cd (by decide)) (fun _ => ?_) | refine And.intro (fun _ => ?_) (fun cd => absurd cd (by decide)) | refine And.intro (fun cd => ?_) (fun cd => ?_)
    exact ⟨rfl, h⟩
  refine bm_go (am_ok_all 22 (by decide)) 40 ?_
  refine And.intro (fun cd => ⟨_, rfl, bad (by omega)⟩) (fun cd => ?_)
  refine And.intro (fun c2 => ?_) (fun c2 => ⟨_, rfl, bad (by omega)⟩)
  have hx := of_nn cd
  have hxr : x.toInt = (x.toInt.toNat : Int) := by omega
  generalize x.toInt.toNat = m at hx hxr
  have hmd : m ≤ d := by omega
  have esub : I 61 27 - x = I 16 1 - x := by rw [d16, d27]
  rcases hG with ⟨hok, n, b, d', p, a, n1, b1, n2, n3, n4, n5, n6', n7, n8, n9, n10, n11⟩ | ⟨he, q⟩
  · have dd : d' = d := by
      rw [n7] at t16
      rw [nI_toInt (by omega)] at t16
      omega
    subst dd
    have rp := runS_p sh n9 (fun i hi => (n11 i hi).1)
    have ga : ∀ i, i < m → gOk T (runS T sh b a i).1 (a i) := fun i hi => by rw [rp i (by omega)]; exact (sGo_ok hok (n11 i (by omega)).1).1
    refine sp_goBack (b := b) sh m hx (by omega) hok hc hL n5 b1 a (fun i hi => ⟨(n11 i (by omega)).2.1, ga i hi⟩) (fun I1 f1 s1 e1 => ?_)
    refine ⟨_, rfl, ?_⟩
    have ag1 := f1.agH (by decide) (by decide)
    have r61 : ∀ j, I1 61 j = I 61 j := fun j => by rw [f1 61 (by decide)]
    have hm1 := hm.agH ag1
    refine bm_go (am_ok_all 123 (by decide)) 40 ?_
    refine sm_in x.toInt 0 d' (i64 x) rfl ((i64 _).trans (by rw [r61]; exact t27)) (fun y1 y2 => ?_) (fun y1 => by omega)
    first | refine And.intro (fun cd => absurd cd (by decide)) (fun _ => ?_) | refine And.intro (fun _ => ?_) (fun cd => absurd cd (by decide)) | refine And.intro (fun cd => ?_) (fun cd => ?_)
    refine sm_back (fun I2 f2 u1 u2 u3 u4 => ?_) ?_
    · have ag2 := ag1.trans (f2.agH (by decide))
      rw [r61] at u1 u2 u3 u4
      have sb : sM b 23 I2 := ⟨u1.trans n4.1, u2.trans n4.2.1, u3.trans n4.2.2.1, u4.trans n4.2.2.2⟩
      refine sm_undoLoop (b := b) sh m hx (by omega) hok (hm.agH ag2) (by rw [ag2.2 19 (by decide)]; exact a2) hs b1 sb a (fun i hi => ⟨?_, ga i hi⟩) (fun I3 f3 s3 e3 => ?_)
      · rw [f2.1 69 (by decide), f1 69 (by decide)]
        exact (n11 i (by omega)).2.2
      · have ag3 := ag2.trans (f3.agH (by decide))
        refine ⟨?_, Inv.rd h.1 h.2.1 hc hm hs a1 a2 hL a4 hK hS hO ag3 (Or.inl ⟨hok, ?_⟩)⟩
        · show some (Value.int (I1 61 27 - x)) = some (Value.int (I 16 1 - x))
          rw [r61, esub]
        · refine ⟨runS T sh b a m, b, m, p, a, runS_ok hok sh b1 a m, b1, ?_, s3, ?_, ?_, by omega, ?_, e3, n9, ?_, fun i hi => ?_⟩
          · unfold sC at s1 ⊢
            rw [f3.1 17 (by decide), f2.1 17 (by decide)]
            exact s1
          · rw [f3.2 29 (by decide), f3.2 30 (by decide), f3.2 31 (by decide), f3.2 32 (by decide), f2.2 29 (by decide), f2.2 30 (by decide), f2.2 31 (by decide), f2.2 32 (by decide), r61, r61, r61, r61]
            exact n4
          · unfold sC at n5 ⊢
            rw [f3.1 18 (by decide), f2.1 18 (by decide), f1 18 (by decide)]
            exact n5
          · rw [f3.1 16 (by decide), f2.1 16 (by decide)]
            exact e1
          · exact (rp m (by omega)).symm
          · rw [f3.1 19 (by decide), f2.1 19 (by decide), f1 19 (by decide), f3.1 69 (by decide), f2.1 69 (by decide), f1 69 (by decide)]
            exact n11 i (by omega)
    · rw [r61, n4.2.2.2]
      cases b.2.2.2
      · exact Or.inl rfl
      · exact Or.inr rfl
  · obtain ⟨q1, q2, q3, q4, q5, q6, q7, q8, q9, q10, q11, q12, q13, q14, q15, q16⟩ := id q
    have d0 : d = 0 := by
      rw [q7] at t16
      have : (0 : Int32).toInt = 0 := rfl
      omega
    obtain rfl : m = 0 := by omega
    have ht : ∀ Q2 : bm_P, (∀ I1, frN [16, 17] I I1 → I1 17 1 = 0 → I1 17 2 = -9 → I1 17 3 = 0 → I1 16 1 = 0 → Q2 none t I1 L) → bm_C G l 217 [.ref 16, .ref 7, .ref 12, .int x] t I L Q2 := by
      intro Q2 hq
      refine bm_go (am_ok_all 217 (by decide)) 40 ?_
      refine sp_like_17_18 (fun I1 f1 e1 => ?_) (Or.inl q6)
      intro z hz
      have hz2 : z = 0 := by
        apply Int32.toInt_inj.mp
        rw [hz, hx, T200]
        rfl
      subst hz2
      refine bm_go (am_ok_all 217 (by decide)) 40 ?_
      refine And.intro (fun _ => ?_) (fun cd => absurd cd (by show ¬ (0 : Int32).toInt < (0 : Int32).toInt; decide))
      refine hq _ ((f1.mono (by decide)).u (by decide)) ?_ ?_ ?_ rfl
      · show I1 17 1 = 0
        rw [e1 1 (by decide)]; exact q4
      · show I1 17 2 = -9
        rw [e1 2 (by decide)]; exact q5
      · show I1 17 3 = 0
        rw [e1 3 (by decide)]; exact q6
    refine ht _ (fun I1 f1 w1 w2 w3 w4 => ?_)
    refine ⟨_, rfl, ?_⟩
    have ag1 := f1.agH (by decide) (by decide)
    have r61 : ∀ j, I1 61 j = I 61 j := fun j => by rw [f1 61 (by decide)]
    refine bm_go (am_ok_all 123 (by decide)) 40 ?_
    refine sm_in x.toInt 0 d (i64 x) rfl ((i64 _).trans (by rw [r61]; exact t27)) (fun y1 y2 => ?_) (fun y1 => by omega)
    first | refine And.intro (fun cd => absurd cd (by decide)) (fun _ => ?_) | refine And.intro (fun _ => ?_) (fun cd => absurd cd (by decide)) | refine And.intro (fun cd => ?_) (fun cd => ?_)
    refine sm_back (fun I2 f2 u1 u2 u3 u4 => ?_) (Or.inl (by rw [r61]; exact q16))
    have ag2 := ag1.trans (f2.agH (by decide))
    refine bm_go (am_ok_all 123 (by decide)) 40 ?_
    refine And.intro (fun _ => ?_) (fun cd => ?_)
    · have ag3 : agH I (am_u I2 61 27 x) := ag2.u61 (by decide)
      refine ⟨?_, Inv.rd h.1 h.2.1 hc hm hs a1 a2 hL a4 hK hS hO ag3 (Or.inr ⟨he, ?_⟩)⟩
      · show some (Value.int (I1 61 27 - x)) = some (Value.int (I 16 1 - x))
        rw [r61, esub]
      · refine ⟨?_, ?_, ?_, ?_, ?_, ?_, ?_, ?_, ?_, ?_, ?_, hx, ?_, ?_, ?_, ?_⟩
        · show I2 17 1 = _
          rw [f2.1 17 (by decide)]; exact w1
        · show I2 17 2 = _
          rw [f2.1 17 (by decide)]; exact w2
        · show I2 17 3 = _
          rw [f2.1 17 (by decide)]; exact w3
        · show I2 18 1 = _
          rw [f2.1 18 (by decide), f1 18 (by decide)]; exact q4
        · show I2 18 2 = _
          rw [f2.1 18 (by decide), f1 18 (by decide)]; exact q5
        · show I2 18 3 = _
          rw [f2.1 18 (by decide), f1 18 (by decide)]; exact q6
        · show I2 16 1 = _
          rw [f2.1 16 (by decide)]; exact w4
        · show I2 61 23 = _
          rw [u1, r61]; exact q13
        · show I2 61 24 = _
          rw [u2, r61]; exact q14
        · show I2 61 25 = _
          rw [u3, r61]; exact q15
        · show I2 61 26 = _
          rw [u4, r61]; exact q16
        · show I2 61 29 = _
          rw [f2.2 29 (by decide), r61]; exact q13
        · show I2 61 30 = _
          rw [f2.2 30 (by decide), r61]; exact q14
        · show I2 61 31 = _
          rw [f2.2 31 (by decide), r61]; exact q15
        · show I2 61 32 = _
          rw [f2.2 32 (by decide), r61]; exact q16
    · rw [hx] at cd
      exact absurd cd (by decide)
end PU

/-! pairs: keep, on -/
def exK : List Nat := [58, 59, 60, 70, 71, 72, 73]
def agK (I I' : am_I) : Prop := (∀ x, x ∉ exK → x ≠ 0 → I' x = I x) ∧ I' 0 14 = I 0 14
theorem Inv.kp {t : am_T} {I I' : am_I} {L : am_J} (hR : InvR I) (hD : InvD I L) {T : tT} {sh : Nat} (hc : cT T I) (hm : mT T I) (hs : sh < 2 ^ tN T) (a1 : I 0 14 = nI sh) (a2 : I 61 19 = nI sh) (hL : cL T sh 13 I) (a4 : I 15 0 = nI 0) (hS : InvS T I) (hO : InvO T sh t I) (hG : (tOk T ∧ InvG T I) ∨ (tE T ∧ InvE I)) (h : agK I I') (hK' : InvK T I') : Inv t I' L := by
  have r : ∀ x, x ∉ exK → x ≠ 0 → I' x = I x := h.1
  have r7 := r 7 (by decide) (by decide)
  have r61 := r 61 (by decide) (by decide)
  refine ⟨hR.fr (fun x h1 h2 => r x (by unfold exK; simp; omega) (by omega)) (r 63 (by decide) (by decide)) (r 64 (by decide) (by decide)), ?_, T, sh, ?_, ?_, hs, by rw [h.2]; exact a1, by rw [r61]; exact a2, ?_, by rw [r 15 (by decide) (by decide)]; exact a4, hK', ?_, ?_, ?_⟩
  · exact hD.fr ⟨by rw [r 36 (by decide) (by decide)], by rw [r 36 (by decide) (by decide)]⟩ (r 37 (by decide) (by decide)) ⟨by rw [r61], by rw [r61]⟩ (r 62 (by decide) (by decide))
  · unfold cT cG cLp at hc ⊢
    rw [r7, r 8 (by decide) (by decide), r 9 (by decide) (by decide), r 10 (by decide) (by decide), r 11 (by decide) (by decide)]
    exact hc
  · unfold mT at hm ⊢
    rw [r61, r 66 (by decide) (by decide), r 67 (by decide) (by decide), r 68 (by decide) (by decide)]
    exact hm
  · unfold cL at hL ⊢
    rw [r 13 (by decide) (by decide)]
    exact hL
  · unfold InvS at hS ⊢
    rw [r 22 (by decide) (by decide), r 23 (by decide) (by decide), r 24 (by decide) (by decide), r 79 (by decide) (by decide), r 80 (by decide) (by decide), r61]
    exact hS
  · unfold InvO tabs at hO ⊢
    rw [r 25 (by decide) (by decide), r 27 (by decide) (by decide), r 28 (by decide) (by decide), r 29 (by decide) (by decide), r 30 (by decide) (by decide)]
    exact hO
  · rcases hG with ⟨b1, b2⟩ | ⟨b1, b2⟩
    · refine Or.inl ⟨b1, ?_⟩
      unfold InvG sC sM at b2 ⊢
      rw [r61, r 17 (by decide) (by decide), r 18 (by decide) (by decide), r 16 (by decide) (by decide), r 19 (by decide) (by decide), r 69 (by decide) (by decide)]
      exact b2
    · refine Or.inr ⟨b1, ?_⟩
      unfold InvE at b2 ⊢
      rw [r61, r 17 (by decide) (by decide), r 18 (by decide) (by decide), r 16 (by decide) (by decide)]
      exact b2
section PK
variable {G : am_G} {l : Launch} {t : am_T} {I : am_I} {L : am_J} {Q : bm_P}
theorem InvK.keep {T : tT} {I I' : am_I} {n : sT} {k m : Nat} (hK : InvK T I) (hm : m < 8) (em : I 0 13 = nI m) (hk : k < 3) (kn : sOk T n) (e13 : I' 0 13 = nI (m ||| 1 <<< k)) (hsC : sC n (58 + k) I') (hoC : ∀ j, j < 3 → j ≠ k → I' (58 + j) = I (58 + j)) (e70 : I' 70 k = nI n.1) (e71 : I' 71 k = nI n.2.1) (e72 : I' 72 k = n.2.2.1) (e73 : I' 73 k = bI n.2.2.2) (o70 : ∀ j, j ≠ k → I' 70 j = I 70 j) (o71 : ∀ j, j ≠ k → I' 71 j = I 71 j) (o72 : ∀ j, j ≠ k → I' 72 j = I 72 j) (o73 : ∀ j, j ≠ k → I' 73 j = I 73 j) : InvK T I' := by
  obtain ⟨m', q1, q2, q3⟩ := hK
  have : m' = m := by
    rw [q2] at em
    exact n_eq32 (by omega) (by omega) em
  subst this
  refine ⟨m' ||| 1 <<< k, or_lt (n := 3) q1 (one_lt hk), e13, fun j hj => ?_⟩
  by_cases e : j = k
  · subst e
    rw [if_pos (by rw [Nat.testBit_or, tb_one]; simp)]
    exact ⟨n, kn, hsC, e70, e71, e72, e73⟩
  · have := q3 j hj
    have tb : (m' ||| 1 <<< k).testBit j = m'.testBit j := by
      rw [Nat.testBit_or, tb_one]
      simp [Ne.symm e]
    rw [tb, o70 j e, o71 j e, o72 j e, o73 j e]
    unfold sC at this ⊢
    rw [hoC j hj e]
    exact this
theorem pair_keep_0 {T : tT} {x : Int32} (h : Inv t I L) {sh : Nat} (hc : cT T I) (hm : mT T I) (hs : sh < 2 ^ tN T) (a1 : I 0 14 = nI sh) (a2 : I 61 19 = nI sh) (hL : cL T sh 13 I) (a4 : I 15 0 = nI 0) (hK : InvK T I) (hS : InvS T I) (hO : InvO T sh t I) (hok : tOk T) (hG : InvG T I) (hx : x = nI 0) : bm_C G l 24 [.ref 0, .int x] t I L (pI G l 125 [.ref 61, .int x]) := by
  have c0 : ¬ (I 7 0).toInt = 0 := by
    rcases cz hc.2.1 (Or.inl hok) with ⟨_, he⟩ | ⟨c0, _⟩
    · exact (nE hok he).elim
    · exact c0
  obtain ⟨n, b, d, p, a, n1, b1, n2, n3, n4, n5, n6, n7, n8, n9, n10, n11⟩ := id hG
  obtain ⟨m, q1, q2, q3⟩ := id hK
  have hxt : x.toInt = 0 := by rw [hx]; rfl
  have t2 : (3 : Int32).toInt = 3 := rfl
  refine bm_go (am_ok_all 24 (by decide)) 60 ?_
  refine And.intro (fun cd => by omega) (fun _ => ?_)
  refine And.intro (fun _ => ?_) (fun cd => by omega)
  refine And.intro (fun _ => ?_) (fun cd => absurd cd c0)
  refine ⟨0, hxt, by decide, ?_⟩
  refine sp_like_58_17 (fun I1 f1 e1 => ?_) n2.z
  refine ⟨_, rfl, ?_⟩
  have s1 : sC n 58 I1 := n2.like e1
  have r : ∀ x, x ≠ 58 → I1 x = I x := fun x hx => f1 x (by simpa using hx)
  have k13 : I1 0 13 ||| (1 : Int32) <<< (x &&& 31) = nI (m ||| 1 <<< 0) := by
    rw [r 0 (by decide), q2, hx, shl1 (by decide), n_or]
  have m13 : ¬ (I1 61 13).toInt = 0 := by rw [r 61 (by decide), hm.2.2.1, ← hc.2.1]; exact c0
  refine bm_go (am_ok_all 125 (by decide)) 60 ?_
  refine sm_in x.toInt 0 2 (i64 x) rfl rfl (fun y1 y2 => ?_) (fun y1 => by omega)
  first | refine And.intro (fun cd => absurd cd (by decide)) (fun _ => ?_) | refine And.intro (fun _ => ?_) (fun cd => absurd cd (by decide)) | refine And.intro (fun cd => ?_) (fun cd => ?_)
  refine And.intro (fun _ => ?_) (fun cd => absurd cd m13)
  refine ⟨0, hxt, by decide, 0, hxt, by decide, 0, hxt, by decide, 0, hxt, by decide, ?_, ?_⟩
  · show I1 61 26 = 0 ∨ I1 61 26 = 1
    rw [r 61 (by decide), show I 61 26 = bI n.2.2.2 from n3.2.2.2]
    cases n.2.2.2
    · exact Or.inl rfl
    · exact Or.inr rfl
  · refine ⟨?_, ?_⟩
    · show some (Value.int (I1 61 27)) = some (Value.int (I1 16 1))
      rw [r 61 (by decide), r 16 (by decide), n7, n8]
    · refine Inv.kp h.1 h.2.1 hc hm hs a1 a2 hL a4 hS hO (Or.inl ⟨hok, hG⟩) ?_ ?_
      · refine ⟨fun x hx h0 => ?_, ?_⟩
        · rw [u_ne (fun e => hx (by rw [e]; decide)), u_ne (fun e => hx (by rw [e]; decide)), u_ne (fun e => hx (by rw [e]; decide)), u_ne (fun e => hx (by rw [e]; decide)), u_ne h0]
          exact r x (fun e => hx (by rw [e]; decide))
        · show I1 0 14 = _
          rw [r 0 (by decide)]
      · refine hK.keep q1 q2 (show 0 < 3 by decide) n1 k13 s1 (fun j hj hne => ?_) ?_ ?_ ?_ ?_ ?_ ?_ ?_ ?_
        · rw [u_ne (by omega), u_ne (by omega), u_ne (by omega), u_ne (by omega), u_ne (by omega)]
          exact r _ (by omega)
        · show I1 61 23 = _
          rw [r 61 (by decide)]; exact n3.1
        · show I1 61 24 = _
          rw [r 61 (by decide)]; exact n3.2.1
        · show I1 61 25 = _
          rw [r 61 (by decide)]; exact n3.2.2.1
        · show I1 61 26 = _
          rw [r 61 (by decide)]; exact n3.2.2.2
        · intro j hj
          rw [u_ne (by decide), u_ne (by decide), u_ne (by decide), u_nj hj, u_ne (by decide), r 70 (by decide)]
        · intro j hj
          rw [u_ne (by decide), u_ne (by decide), u_nj hj, u_ne (by decide), u_ne (by decide), r 71 (by decide)]
        · intro j hj
          rw [u_ne (by decide), u_nj hj, u_ne (by decide), u_ne (by decide), u_ne (by decide), r 72 (by decide)]
        · intro j hj
          rw [u_nj hj, u_ne (by decide), u_ne (by decide), u_ne (by decide), u_ne (by decide), r 73 (by decide)]
theorem pair_on_0 {T : tT} {x : Int32} (h : Inv t I L) {sh : Nat} (hc : cT T I) (hm : mT T I) (hs : sh < 2 ^ tN T) (a1 : I 0 14 = nI sh) (a2 : I 61 19 = nI sh) (hL : cL T sh 13 I) (a4 : I 15 0 = nI 0) (hK : InvK T I) (hS : InvS T I) (hO : InvO T sh t I) (hG : (tOk T ∧ InvG T I) ∨ (tE T ∧ InvE I)) (hx : x = nI 0) : bm_C G l 25 [.ref 0, .int x] t I L (pI G l 126 [.ref 61, .int x]) := by
  have hT := InvX.ok hG
  have c24 := hT.c24
  obtain ⟨m, q1, q2, q3⟩ := id hK
  have hxt : x.toInt = 0 := by rw [hx]; rfl
  have t2 : (3 : Int32).toInt = 3 := rfl
  have qk := q3 0 (by decide)
  refine bm_go (am_ok_all 25 (by decide)) 60 ?_
  refine And.intro (fun cd => by omega) (fun _ => ?_)
  refine And.intro (fun _ => ?_) (fun cd => by omega)
  refine sp_isIn m 0 q2 hx (by omega) (by decide) (fun e => ?_) (fun e => ?_)
  · rw [if_pos e] at qk
    obtain ⟨s, k1, k2, e70, e71, e72, e73⟩ := qk
    have k2 : sC s 58 I := k2
    have hok := hT.okc k1.1
    have k24 := k1.1
    first | refine And.intro (fun cd => absurd cd (by decide)) (fun _ => ?_) | refine And.intro (fun _ => ?_) (fun cd => absurd cd (by decide)) | refine And.intro (fun cd => ?_) (fun cd => ?_)
    refine ⟨0, hxt, by decide, ?_⟩
    refine sp_beginLike_58 k2 (fun I1 f1 s1 s2 e1 => ?_)
    refine ⟨_, rfl, ?_⟩
    have ag1 := f1.agH (by decide) (by decide)
    have r : ∀ x, x ∉ [16, 17, 18] → I1 x = I x := f1
    have o70 : I1 70 0 = nI s.1 := by rw [r 70 (by decide)]; exact e70
    have o71 : I1 71 0 = nI s.2.1 := by rw [r 71 (by decide)]; exact e71
    have o72 : I1 72 0 = s.2.2.1 := by rw [r 72 (by decide)]; exact e72
    have o73 : I1 73 0 = bI s.2.2.2 := by rw [r 73 (by decide)]; exact e73
    have z73 : I1 73 0 = 0 ∨ I1 73 0 = 1 := by
      rw [o73]
      cases s.2.2.2
      · exact Or.inl rfl
      · exact Or.inr rfl
    refine bm_go (am_ok_all 126 (by decide)) 60 ?_
    refine sm_in x.toInt 0 2 (i64 x) rfl rfl (fun y1 y2 => ?_) (fun y1 => by omega)
    first | refine And.intro (fun cd => absurd cd (by decide)) (fun _ => ?_) | refine And.intro (fun _ => ?_) (fun cd => absurd cd (by decide)) | refine And.intro (fun cd => ?_) (fun cd => ?_)
    refine ⟨0, hxt, by decide, ?_⟩
    refine And.intro (fun _ => ?_) (fun cd => ?_)
    · refine ⟨0, hxt, by decide, 0, hxt, by decide, 0, hxt, by decide, 0, hxt, by decide, z73, ?_⟩
      have f0 : fr61 [23, 24, 25, 26, 27] I1 (am_u (am_u (am_u (am_u (am_u I1 61 23 (I1 70 0)) 61 24 (I1 71 0)) 61 25 (I1 72 0)) 61 26 (I1 73 0)) 61 27 0) := ((((((fr61.refl _ _).u (by decide)).u (by decide)).u (by decide)).u (by decide)).u (by decide))
      refine sm_marks (fun I2 f2 m1 m2 m3 m4 => ?_) z73
      have m1 : I2 61 29 = I1 70 0 := m1
      have m2 : I2 61 30 = I1 71 0 := m2
      have m3 : I2 61 31 = I1 72 0 := m3
      have m4 : I2 61 32 = I1 73 0 := m4
      have w1 : I2 61 23 = I1 70 0 := by rw [f2.2 23 (by decide)]; rfl
      have w2 : I2 61 24 = I1 71 0 := by rw [f2.2 24 (by decide)]; rfl
      have w3 : I2 61 25 = I1 72 0 := by rw [f2.2 25 (by decide)]; rfl
      have w4 : I2 61 26 = I1 73 0 := by rw [f2.2 26 (by decide)]; rfl
      have w5 : I2 61 27 = 0 := by rw [f2.2 27 (by decide)]; rfl
      have ag2 := (ag1.trans (f0.agH (by decide))).trans (f2.agH (by decide))
      refine ⟨?_, Inv.rd h.1 h.2.1 hc hm hs a1 a2 hL a4 hK hS hO ag2 (Or.inl ⟨hok, ?_⟩)⟩
      · show some (Value.int (I2 61 23)) = some (Value.int (I1 17 0))
        rw [w1, o70, s1.1]
      · have c17 : I2 17 = I1 17 := (f2.1 17 (by decide)).trans (f0.1 17 (by decide))
        have c18 : I2 18 = I1 18 := (f2.1 18 (by decide)).trans (f0.1 18 (by decide))
        have c16 : I2 16 = I1 16 := (f2.1 16 (by decide)).trans (f0.1 16 (by decide))
        refine ⟨s, s, 0, fun _ => s.1, fun _ => 0, k1, k1, ?_, ⟨by rw [w1, o70], by show I2 61 24 = _; rw [w2, o71], by show I2 61 25 = _; rw [w3, o72], by show I2 61 26 = _; rw [w4, o73]⟩, ⟨by rw [m1, o70], by rw [m2, o71], by rw [m3, o72], by rw [m4, o73]⟩, ?_, by omega, by rw [c16]; exact e1, w5, rfl, rfl, fun i hi => by omega⟩
        · unfold sC at s1 ⊢
          rw [c17]
          exact s1
        · unfold sC at s2 ⊢
          rw [c18]
          exact s2
    · have cd : (I1 70 0).toInt = (-9 : Int32).toInt := cd
      rw [o70, nI_toInt (by omega), Tm9] at cd
      omega
  · rw [e] at qk
    have qk : I 70 0 = -9 := qk
    first | refine And.intro (fun cd => absurd cd (by decide)) (fun _ => ?_) | refine And.intro (fun _ => ?_) (fun cd => absurd cd (by decide)) | refine And.intro (fun cd => ?_) (fun cd => ?_)
    refine sp_found 1 rfl (by decide) ?_
    refine ⟨_, rfl, ?_⟩
    refine bm_go (am_ok_all 126 (by decide)) 60 ?_
    refine sm_in x.toInt 0 2 (i64 x) rfl rfl (fun y1 y2 => ?_) (fun y1 => by omega)
    first | refine And.intro (fun cd => absurd cd (by decide)) (fun _ => ?_) | refine And.intro (fun _ => ?_) (fun cd => absurd cd (by decide)) | refine And.intro (fun cd => ?_) (fun cd => ?_)
    refine ⟨0, hxt, by decide, ?_⟩
    refine And.intro (fun cd => ?_) (fun _ => ?_)
    · have cd : ¬ (I 70 0).toInt = (-9 : Int32).toInt := cd
      rw [qk] at cd
      exact absurd rfl cd
    · refine sm_finds 1 rfl (by decide) ?_
      exact ⟨rfl, h.find (by decide) (by decide) 1⟩
theorem pair_keep_1 {T : tT} {x : Int32} (h : Inv t I L) {sh : Nat} (hc : cT T I) (hm : mT T I) (hs : sh < 2 ^ tN T) (a1 : I 0 14 = nI sh) (a2 : I 61 19 = nI sh) (hL : cL T sh 13 I) (a4 : I 15 0 = nI 0) (hK : InvK T I) (hS : InvS T I) (hO : InvO T sh t I) (hok : tOk T) (hG : InvG T I) (hx : x = nI 1) : bm_C G l 24 [.ref 0, .int x] t I L (pI G l 125 [.ref 61, .int x]) := by
  have c0 : ¬ (I 7 0).toInt = 0 := by
    rcases cz hc.2.1 (Or.inl hok) with ⟨_, he⟩ | ⟨c0, _⟩
    · exact (nE hok he).elim
    · exact c0
  obtain ⟨n, b, d, p, a, n1, b1, n2, n3, n4, n5, n6, n7, n8, n9, n10, n11⟩ := id hG
  obtain ⟨m, q1, q2, q3⟩ := id hK
  have hxt : x.toInt = 1 := by rw [hx]; rfl
  have t2 : (3 : Int32).toInt = 3 := rfl
  refine bm_go (am_ok_all 24 (by decide)) 60 ?_
  refine And.intro (fun cd => by omega) (fun _ => ?_)
  refine And.intro (fun _ => ?_) (fun cd => by omega)
  refine And.intro (fun _ => ?_) (fun cd => absurd cd c0)
  refine ⟨1, hxt, by decide, ?_⟩
  refine sp_like_59_17 (fun I1 f1 e1 => ?_) n2.z
  refine ⟨_, rfl, ?_⟩
  have s1 : sC n 59 I1 := n2.like e1
  have r : ∀ x, x ≠ 59 → I1 x = I x := fun x hx => f1 x (by simpa using hx)
  have k13 : I1 0 13 ||| (1 : Int32) <<< (x &&& 31) = nI (m ||| 1 <<< 1) := by
    rw [r 0 (by decide), q2, hx, shl1 (by decide), n_or]
  have m13 : ¬ (I1 61 13).toInt = 0 := by rw [r 61 (by decide), hm.2.2.1, ← hc.2.1]; exact c0
  refine bm_go (am_ok_all 125 (by decide)) 60 ?_
  refine sm_in x.toInt 0 2 (i64 x) rfl rfl (fun y1 y2 => ?_) (fun y1 => by omega)
  first | refine And.intro (fun cd => absurd cd (by decide)) (fun _ => ?_) | refine And.intro (fun _ => ?_) (fun cd => absurd cd (by decide)) | refine And.intro (fun cd => ?_) (fun cd => ?_)
  refine And.intro (fun _ => ?_) (fun cd => absurd cd m13)
  refine ⟨1, hxt, by decide, 1, hxt, by decide, 1, hxt, by decide, 1, hxt, by decide, ?_, ?_⟩
  · show I1 61 26 = 0 ∨ I1 61 26 = 1
    rw [r 61 (by decide), show I 61 26 = bI n.2.2.2 from n3.2.2.2]
    cases n.2.2.2
    · exact Or.inl rfl
    · exact Or.inr rfl
  · refine ⟨?_, ?_⟩
    · show some (Value.int (I1 61 27)) = some (Value.int (I1 16 1))
      rw [r 61 (by decide), r 16 (by decide), n7, n8]
    · refine Inv.kp h.1 h.2.1 hc hm hs a1 a2 hL a4 hS hO (Or.inl ⟨hok, hG⟩) ?_ ?_
      · refine ⟨fun x hx h0 => ?_, ?_⟩
        · rw [u_ne (fun e => hx (by rw [e]; decide)), u_ne (fun e => hx (by rw [e]; decide)), u_ne (fun e => hx (by rw [e]; decide)), u_ne (fun e => hx (by rw [e]; decide)), u_ne h0]
          exact r x (fun e => hx (by rw [e]; decide))
        · show I1 0 14 = _
          rw [r 0 (by decide)]
      · refine hK.keep q1 q2 (show 1 < 3 by decide) n1 k13 s1 (fun j hj hne => ?_) ?_ ?_ ?_ ?_ ?_ ?_ ?_ ?_
        · rw [u_ne (by omega), u_ne (by omega), u_ne (by omega), u_ne (by omega), u_ne (by omega)]
          exact r _ (by omega)
        · show I1 61 23 = _
          rw [r 61 (by decide)]; exact n3.1
        · show I1 61 24 = _
          rw [r 61 (by decide)]; exact n3.2.1
        · show I1 61 25 = _
          rw [r 61 (by decide)]; exact n3.2.2.1
        · show I1 61 26 = _
          rw [r 61 (by decide)]; exact n3.2.2.2
        · intro j hj
          rw [u_ne (by decide), u_ne (by decide), u_ne (by decide), u_nj hj, u_ne (by decide), r 70 (by decide)]
        · intro j hj
          rw [u_ne (by decide), u_ne (by decide), u_nj hj, u_ne (by decide), u_ne (by decide), r 71 (by decide)]
        · intro j hj
          rw [u_ne (by decide), u_nj hj, u_ne (by decide), u_ne (by decide), u_ne (by decide), r 72 (by decide)]
        · intro j hj
          rw [u_nj hj, u_ne (by decide), u_ne (by decide), u_ne (by decide), u_ne (by decide), r 73 (by decide)]
theorem pair_on_1 {T : tT} {x : Int32} (h : Inv t I L) {sh : Nat} (hc : cT T I) (hm : mT T I) (hs : sh < 2 ^ tN T) (a1 : I 0 14 = nI sh) (a2 : I 61 19 = nI sh) (hL : cL T sh 13 I) (a4 : I 15 0 = nI 0) (hK : InvK T I) (hS : InvS T I) (hO : InvO T sh t I) (hG : (tOk T ∧ InvG T I) ∨ (tE T ∧ InvE I)) (hx : x = nI 1) : bm_C G l 25 [.ref 0, .int x] t I L (pI G l 126 [.ref 61, .int x]) := by
  have hT := InvX.ok hG
  have c24 := hT.c24
  obtain ⟨m, q1, q2, q3⟩ := id hK
  have hxt : x.toInt = 1 := by rw [hx]; rfl
  have t2 : (3 : Int32).toInt = 3 := rfl
  have qk := q3 1 (by decide)
  refine bm_go (am_ok_all 25 (by decide)) 60 ?_
  refine And.intro (fun cd => by omega) (fun _ => ?_)
  refine And.intro (fun _ => ?_) (fun cd => by omega)
  refine sp_isIn m 1 q2 hx (by omega) (by decide) (fun e => ?_) (fun e => ?_)
  · rw [if_pos e] at qk
    obtain ⟨s, k1, k2, e70, e71, e72, e73⟩ := qk
    have k2 : sC s 59 I := k2
    have hok := hT.okc k1.1
    have k24 := k1.1
    first | refine And.intro (fun cd => absurd cd (by decide)) (fun _ => ?_) | refine And.intro (fun _ => ?_) (fun cd => absurd cd (by decide)) | refine And.intro (fun cd => ?_) (fun cd => ?_)
    refine ⟨1, hxt, by decide, ?_⟩
    refine sp_beginLike_59 k2 (fun I1 f1 s1 s2 e1 => ?_)
    refine ⟨_, rfl, ?_⟩
    have ag1 := f1.agH (by decide) (by decide)
    have r : ∀ x, x ∉ [16, 17, 18] → I1 x = I x := f1
    have o70 : I1 70 1 = nI s.1 := by rw [r 70 (by decide)]; exact e70
    have o71 : I1 71 1 = nI s.2.1 := by rw [r 71 (by decide)]; exact e71
    have o72 : I1 72 1 = s.2.2.1 := by rw [r 72 (by decide)]; exact e72
    have o73 : I1 73 1 = bI s.2.2.2 := by rw [r 73 (by decide)]; exact e73
    have z73 : I1 73 1 = 0 ∨ I1 73 1 = 1 := by
      rw [o73]
      cases s.2.2.2
      · exact Or.inl rfl
      · exact Or.inr rfl
    refine bm_go (am_ok_all 126 (by decide)) 60 ?_
    refine sm_in x.toInt 0 2 (i64 x) rfl rfl (fun y1 y2 => ?_) (fun y1 => by omega)
    first | refine And.intro (fun cd => absurd cd (by decide)) (fun _ => ?_) | refine And.intro (fun _ => ?_) (fun cd => absurd cd (by decide)) | refine And.intro (fun cd => ?_) (fun cd => ?_)
    refine ⟨1, hxt, by decide, ?_⟩
    refine And.intro (fun _ => ?_) (fun cd => ?_)
    · refine ⟨1, hxt, by decide, 1, hxt, by decide, 1, hxt, by decide, 1, hxt, by decide, z73, ?_⟩
      have f0 : fr61 [23, 24, 25, 26, 27] I1 (am_u (am_u (am_u (am_u (am_u I1 61 23 (I1 70 1)) 61 24 (I1 71 1)) 61 25 (I1 72 1)) 61 26 (I1 73 1)) 61 27 0) := ((((((fr61.refl _ _).u (by decide)).u (by decide)).u (by decide)).u (by decide)).u (by decide))
      refine sm_marks (fun I2 f2 m1 m2 m3 m4 => ?_) z73
      have m1 : I2 61 29 = I1 70 1 := m1
      have m2 : I2 61 30 = I1 71 1 := m2
      have m3 : I2 61 31 = I1 72 1 := m3
      have m4 : I2 61 32 = I1 73 1 := m4
      have w1 : I2 61 23 = I1 70 1 := by rw [f2.2 23 (by decide)]; rfl
      have w2 : I2 61 24 = I1 71 1 := by rw [f2.2 24 (by decide)]; rfl
      have w3 : I2 61 25 = I1 72 1 := by rw [f2.2 25 (by decide)]; rfl
      have w4 : I2 61 26 = I1 73 1 := by rw [f2.2 26 (by decide)]; rfl
      have w5 : I2 61 27 = 0 := by rw [f2.2 27 (by decide)]; rfl
      have ag2 := (ag1.trans (f0.agH (by decide))).trans (f2.agH (by decide))
      refine ⟨?_, Inv.rd h.1 h.2.1 hc hm hs a1 a2 hL a4 hK hS hO ag2 (Or.inl ⟨hok, ?_⟩)⟩
      · show some (Value.int (I2 61 23)) = some (Value.int (I1 17 0))
        rw [w1, o70, s1.1]
      · have c17 : I2 17 = I1 17 := (f2.1 17 (by decide)).trans (f0.1 17 (by decide))
        have c18 : I2 18 = I1 18 := (f2.1 18 (by decide)).trans (f0.1 18 (by decide))
        have c16 : I2 16 = I1 16 := (f2.1 16 (by decide)).trans (f0.1 16 (by decide))
        refine ⟨s, s, 0, fun _ => s.1, fun _ => 0, k1, k1, ?_, ⟨by rw [w1, o70], by show I2 61 24 = _; rw [w2, o71], by show I2 61 25 = _; rw [w3, o72], by show I2 61 26 = _; rw [w4, o73]⟩, ⟨by rw [m1, o70], by rw [m2, o71], by rw [m3, o72], by rw [m4, o73]⟩, ?_, by omega, by rw [c16]; exact e1, w5, rfl, rfl, fun i hi => by omega⟩
        · unfold sC at s1 ⊢
          rw [c17]
          exact s1
        · unfold sC at s2 ⊢
          rw [c18]
          exact s2
    · have cd : (I1 70 1).toInt = (-9 : Int32).toInt := cd
      rw [o70, nI_toInt (by omega), Tm9] at cd
      omega
  · rw [e] at qk
    have qk : I 70 1 = -9 := qk
    first | refine And.intro (fun cd => absurd cd (by decide)) (fun _ => ?_) | refine And.intro (fun _ => ?_) (fun cd => absurd cd (by decide)) | refine And.intro (fun cd => ?_) (fun cd => ?_)
    refine sp_found 1 rfl (by decide) ?_
    refine ⟨_, rfl, ?_⟩
    refine bm_go (am_ok_all 126 (by decide)) 60 ?_
    refine sm_in x.toInt 0 2 (i64 x) rfl rfl (fun y1 y2 => ?_) (fun y1 => by omega)
    first | refine And.intro (fun cd => absurd cd (by decide)) (fun _ => ?_) | refine And.intro (fun _ => ?_) (fun cd => absurd cd (by decide)) | refine And.intro (fun cd => ?_) (fun cd => ?_)
    refine ⟨1, hxt, by decide, ?_⟩
    refine And.intro (fun cd => ?_) (fun _ => ?_)
    · have cd : ¬ (I 70 1).toInt = (-9 : Int32).toInt := cd
      rw [qk] at cd
      exact absurd rfl cd
    · refine sm_finds 1 rfl (by decide) ?_
      exact ⟨rfl, h.find (by decide) (by decide) 1⟩
theorem pair_keep_2 {T : tT} {x : Int32} (h : Inv t I L) {sh : Nat} (hc : cT T I) (hm : mT T I) (hs : sh < 2 ^ tN T) (a1 : I 0 14 = nI sh) (a2 : I 61 19 = nI sh) (hL : cL T sh 13 I) (a4 : I 15 0 = nI 0) (hK : InvK T I) (hS : InvS T I) (hO : InvO T sh t I) (hok : tOk T) (hG : InvG T I) (hx : x = nI 2) : bm_C G l 24 [.ref 0, .int x] t I L (pI G l 125 [.ref 61, .int x]) := by
  have c0 : ¬ (I 7 0).toInt = 0 := by
    rcases cz hc.2.1 (Or.inl hok) with ⟨_, he⟩ | ⟨c0, _⟩
    · exact (nE hok he).elim
    · exact c0
  obtain ⟨n, b, d, p, a, n1, b1, n2, n3, n4, n5, n6, n7, n8, n9, n10, n11⟩ := id hG
  obtain ⟨m, q1, q2, q3⟩ := id hK
  have hxt : x.toInt = 2 := by rw [hx]; rfl
  have t2 : (3 : Int32).toInt = 3 := rfl
  refine bm_go (am_ok_all 24 (by decide)) 60 ?_
  refine And.intro (fun cd => by omega) (fun _ => ?_)
  refine And.intro (fun _ => ?_) (fun cd => by omega)
  refine And.intro (fun _ => ?_) (fun cd => absurd cd c0)
  refine ⟨2, hxt, by decide, ?_⟩
  refine sp_like_60_17 (fun I1 f1 e1 => ?_) n2.z
  refine ⟨_, rfl, ?_⟩
  have s1 : sC n 60 I1 := n2.like e1
  have r : ∀ x, x ≠ 60 → I1 x = I x := fun x hx => f1 x (by simpa using hx)
  have k13 : I1 0 13 ||| (1 : Int32) <<< (x &&& 31) = nI (m ||| 1 <<< 2) := by
    rw [r 0 (by decide), q2, hx, shl1 (by decide), n_or]
  have m13 : ¬ (I1 61 13).toInt = 0 := by rw [r 61 (by decide), hm.2.2.1, ← hc.2.1]; exact c0
  refine bm_go (am_ok_all 125 (by decide)) 60 ?_
  refine sm_in x.toInt 0 2 (i64 x) rfl rfl (fun y1 y2 => ?_) (fun y1 => by omega)
  first | refine And.intro (fun cd => absurd cd (by decide)) (fun _ => ?_) | refine And.intro (fun _ => ?_) (fun cd => absurd cd (by decide)) | refine And.intro (fun cd => ?_) (fun cd => ?_)
  refine And.intro (fun _ => ?_) (fun cd => absurd cd m13)
  refine ⟨2, hxt, by decide, 2, hxt, by decide, 2, hxt, by decide, 2, hxt, by decide, ?_, ?_⟩
  · show I1 61 26 = 0 ∨ I1 61 26 = 1
    rw [r 61 (by decide), show I 61 26 = bI n.2.2.2 from n3.2.2.2]
    cases n.2.2.2
    · exact Or.inl rfl
    · exact Or.inr rfl
  · refine ⟨?_, ?_⟩
    · show some (Value.int (I1 61 27)) = some (Value.int (I1 16 1))
      rw [r 61 (by decide), r 16 (by decide), n7, n8]
    · refine Inv.kp h.1 h.2.1 hc hm hs a1 a2 hL a4 hS hO (Or.inl ⟨hok, hG⟩) ?_ ?_
      · refine ⟨fun x hx h0 => ?_, ?_⟩
        · rw [u_ne (fun e => hx (by rw [e]; decide)), u_ne (fun e => hx (by rw [e]; decide)), u_ne (fun e => hx (by rw [e]; decide)), u_ne (fun e => hx (by rw [e]; decide)), u_ne h0]
          exact r x (fun e => hx (by rw [e]; decide))
        · show I1 0 14 = _
          rw [r 0 (by decide)]
      · refine hK.keep q1 q2 (show 2 < 3 by decide) n1 k13 s1 (fun j hj hne => ?_) ?_ ?_ ?_ ?_ ?_ ?_ ?_ ?_
        · rw [u_ne (by omega), u_ne (by omega), u_ne (by omega), u_ne (by omega), u_ne (by omega)]
          exact r _ (by omega)
        · show I1 61 23 = _
          rw [r 61 (by decide)]; exact n3.1
        · show I1 61 24 = _
          rw [r 61 (by decide)]; exact n3.2.1
        · show I1 61 25 = _
          rw [r 61 (by decide)]; exact n3.2.2.1
        · show I1 61 26 = _
          rw [r 61 (by decide)]; exact n3.2.2.2
        · intro j hj
          rw [u_ne (by decide), u_ne (by decide), u_ne (by decide), u_nj hj, u_ne (by decide), r 70 (by decide)]
        · intro j hj
          rw [u_ne (by decide), u_ne (by decide), u_nj hj, u_ne (by decide), u_ne (by decide), r 71 (by decide)]
        · intro j hj
          rw [u_ne (by decide), u_nj hj, u_ne (by decide), u_ne (by decide), u_ne (by decide), r 72 (by decide)]
        · intro j hj
          rw [u_nj hj, u_ne (by decide), u_ne (by decide), u_ne (by decide), u_ne (by decide), r 73 (by decide)]
theorem pair_on_2 {T : tT} {x : Int32} (h : Inv t I L) {sh : Nat} (hc : cT T I) (hm : mT T I) (hs : sh < 2 ^ tN T) (a1 : I 0 14 = nI sh) (a2 : I 61 19 = nI sh) (hL : cL T sh 13 I) (a4 : I 15 0 = nI 0) (hK : InvK T I) (hS : InvS T I) (hO : InvO T sh t I) (hG : (tOk T ∧ InvG T I) ∨ (tE T ∧ InvE I)) (hx : x = nI 2) : bm_C G l 25 [.ref 0, .int x] t I L (pI G l 126 [.ref 61, .int x]) := by
  have hT := InvX.ok hG
  have c24 := hT.c24
  obtain ⟨m, q1, q2, q3⟩ := id hK
  have hxt : x.toInt = 2 := by rw [hx]; rfl
  have t2 : (3 : Int32).toInt = 3 := rfl
  have qk := q3 2 (by decide)
  refine bm_go (am_ok_all 25 (by decide)) 60 ?_
  refine And.intro (fun cd => by omega) (fun _ => ?_)
  refine And.intro (fun _ => ?_) (fun cd => by omega)
  refine sp_isIn m 2 q2 hx (by omega) (by decide) (fun e => ?_) (fun e => ?_)
  · rw [if_pos e] at qk
    obtain ⟨s, k1, k2, e70, e71, e72, e73⟩ := qk
    have k2 : sC s 60 I := k2
    have hok := hT.okc k1.1
    have k24 := k1.1
    first | refine And.intro (fun cd => absurd cd (by decide)) (fun _ => ?_) | refine And.intro (fun _ => ?_) (fun cd => absurd cd (by decide)) | refine And.intro (fun cd => ?_) (fun cd => ?_)
    refine ⟨2, hxt, by decide, ?_⟩
    refine sp_beginLike_60 k2 (fun I1 f1 s1 s2 e1 => ?_)
    refine ⟨_, rfl, ?_⟩
    have ag1 := f1.agH (by decide) (by decide)
    have r : ∀ x, x ∉ [16, 17, 18] → I1 x = I x := f1
    have o70 : I1 70 2 = nI s.1 := by rw [r 70 (by decide)]; exact e70
    have o71 : I1 71 2 = nI s.2.1 := by rw [r 71 (by decide)]; exact e71
    have o72 : I1 72 2 = s.2.2.1 := by rw [r 72 (by decide)]; exact e72
    have o73 : I1 73 2 = bI s.2.2.2 := by rw [r 73 (by decide)]; exact e73
    have z73 : I1 73 2 = 0 ∨ I1 73 2 = 1 := by
      rw [o73]
      cases s.2.2.2
      · exact Or.inl rfl
      · exact Or.inr rfl
    refine bm_go (am_ok_all 126 (by decide)) 60 ?_
    refine sm_in x.toInt 0 2 (i64 x) rfl rfl (fun y1 y2 => ?_) (fun y1 => by omega)
    first | refine And.intro (fun cd => absurd cd (by decide)) (fun _ => ?_) | refine And.intro (fun _ => ?_) (fun cd => absurd cd (by decide)) | refine And.intro (fun cd => ?_) (fun cd => ?_)
    refine ⟨2, hxt, by decide, ?_⟩
    refine And.intro (fun _ => ?_) (fun cd => ?_)
    · refine ⟨2, hxt, by decide, 2, hxt, by decide, 2, hxt, by decide, 2, hxt, by decide, z73, ?_⟩
      have f0 : fr61 [23, 24, 25, 26, 27] I1 (am_u (am_u (am_u (am_u (am_u I1 61 23 (I1 70 2)) 61 24 (I1 71 2)) 61 25 (I1 72 2)) 61 26 (I1 73 2)) 61 27 0) := ((((((fr61.refl _ _).u (by decide)).u (by decide)).u (by decide)).u (by decide)).u (by decide))
      refine sm_marks (fun I2 f2 m1 m2 m3 m4 => ?_) z73
      have m1 : I2 61 29 = I1 70 2 := m1
      have m2 : I2 61 30 = I1 71 2 := m2
      have m3 : I2 61 31 = I1 72 2 := m3
      have m4 : I2 61 32 = I1 73 2 := m4
      have w1 : I2 61 23 = I1 70 2 := by rw [f2.2 23 (by decide)]; rfl
      have w2 : I2 61 24 = I1 71 2 := by rw [f2.2 24 (by decide)]; rfl
      have w3 : I2 61 25 = I1 72 2 := by rw [f2.2 25 (by decide)]; rfl
      have w4 : I2 61 26 = I1 73 2 := by rw [f2.2 26 (by decide)]; rfl
      have w5 : I2 61 27 = 0 := by rw [f2.2 27 (by decide)]; rfl
      have ag2 := (ag1.trans (f0.agH (by decide))).trans (f2.agH (by decide))
      refine ⟨?_, Inv.rd h.1 h.2.1 hc hm hs a1 a2 hL a4 hK hS hO ag2 (Or.inl ⟨hok, ?_⟩)⟩
      · show some (Value.int (I2 61 23)) = some (Value.int (I1 17 0))
        rw [w1, o70, s1.1]
      · have c17 : I2 17 = I1 17 := (f2.1 17 (by decide)).trans (f0.1 17 (by decide))
        have c18 : I2 18 = I1 18 := (f2.1 18 (by decide)).trans (f0.1 18 (by decide))
        have c16 : I2 16 = I1 16 := (f2.1 16 (by decide)).trans (f0.1 16 (by decide))
        refine ⟨s, s, 0, fun _ => s.1, fun _ => 0, k1, k1, ?_, ⟨by rw [w1, o70], by show I2 61 24 = _; rw [w2, o71], by show I2 61 25 = _; rw [w3, o72], by show I2 61 26 = _; rw [w4, o73]⟩, ⟨by rw [m1, o70], by rw [m2, o71], by rw [m3, o72], by rw [m4, o73]⟩, ?_, by omega, by rw [c16]; exact e1, w5, rfl, rfl, fun i hi => by omega⟩
        · unfold sC at s1 ⊢
          rw [c17]
          exact s1
        · unfold sC at s2 ⊢
          rw [c18]
          exact s2
    · have cd : (I1 70 2).toInt = (-9 : Int32).toInt := cd
      rw [o70, nI_toInt (by omega), Tm9] at cd
      omega
  · rw [e] at qk
    have qk : I 70 2 = -9 := qk
    first | refine And.intro (fun cd => absurd cd (by decide)) (fun _ => ?_) | refine And.intro (fun _ => ?_) (fun cd => absurd cd (by decide)) | refine And.intro (fun cd => ?_) (fun cd => ?_)
    refine sp_found 1 rfl (by decide) ?_
    refine ⟨_, rfl, ?_⟩
    refine bm_go (am_ok_all 126 (by decide)) 60 ?_
    refine sm_in x.toInt 0 2 (i64 x) rfl rfl (fun y1 y2 => ?_) (fun y1 => by omega)
    first | refine And.intro (fun cd => absurd cd (by decide)) (fun _ => ?_) | refine And.intro (fun _ => ?_) (fun cd => absurd cd (by decide)) | refine And.intro (fun cd => ?_) (fun cd => ?_)
    refine ⟨2, hxt, by decide, ?_⟩
    refine And.intro (fun cd => ?_) (fun _ => ?_)
    · have cd : ¬ (I 70 2).toInt = (-9 : Int32).toInt := cd
      rw [qk] at cd
      exact absurd rfl cd
    · refine sm_finds 1 rfl (by decide) ?_
      exact ⟨rfl, h.find (by decide) (by decide) 1⟩
theorem pair_keep {x : Int32} (h : Inv t I L) : bm_C G l 24 [.ref 0, .int x] t I L (pI G l 125 [.ref 61, .int x]) := by
  obtain ⟨T, sh, hc, hm, hs, a1, a2, hL, a4, hK, hS, hO, hG⟩ := h.2.2
  have hT := InvX.ok hG
  have t2 : (3 : Int32).toInt = 3 := rfl
  by_cases hx : 0 ≤ x.toInt ∧ x.toInt < 3
  · rcases cz hc.2.1 hT with ⟨c0, he⟩ | ⟨c0, hok⟩
    · refine bm_go (am_ok_all 24 (by decide)) 60 ?_
      refine And.intro (fun cd => by omega) (fun _ => ?_)
      refine And.intro (fun _ => ?_) (fun cd => by omega)
      refine And.intro (fun cd => absurd c0 cd) (fun _ => ?_)
      refine ⟨_, rfl, ?_⟩
      refine bm_go (am_ok_all 125 (by decide)) 60 ?_
      refine sm_in x.toInt 0 2 (i64 x) rfl rfl (fun y1 y2 => ?_) (fun y1 => by omega)
      first | refine And.intro (fun cd => absurd cd (by decide)) (fun _ => ?_) | refine And.intro (fun _ => ?_) (fun cd => absurd cd (by decide)) | refine And.intro (fun cd => ?_) (fun cd => ?_)
      refine And.intro (fun cd => ?_) (fun _ => ⟨rfl, h⟩)
      rw [hm.2.2.1, ← hc.2.1] at cd
      exact absurd c0 cd
    · have hx2 := of_nn hx.1
      have hk : x.toInt.toNat = 0 ∨ x.toInt.toNat = 1 ∨ x.toInt.toNat = 2 := by omega
      rcases hk with e | e | e <;> rw [e] at hx2
      · exact pair_keep_0 h hc hm hs a1 a2 hL a4 hK hS hO hok (hGk hok hG) hx2
      · exact pair_keep_1 h hc hm hs a1 a2 hL a4 hK hS hO hok (hGk hok hG) hx2
      · exact pair_keep_2 h hc hm hs a1 a2 hL a4 hK hS hO hok (hGk hok hG) hx2
  · have bad : bm_C G l 125 [.ref 61, .int x] t I L (fun v' t I L => v' = some (.int (-1)) ∧ Inv t I L) := by
      refine bm_go (am_ok_all 125 (by decide)) 60 ?_
      refine sm_in x.toInt 0 2 (i64 x) rfl rfl (fun y1 y2 => by omega) (fun y1 => ?_)
      first | refine And.intro (fun cd => absurd cd (by decide)) (fun _ => ?_) | refine And.intro (fun _ => ?_) (fun cd => absurd cd (by decide)) | refine And.intro (fun cd => ?_) (fun cd => ?_)
      exact ⟨rfl, h⟩
    refine bm_go (am_ok_all 24 (by decide)) 60 ?_
    refine And.intro (fun cd => ⟨_, rfl, bad⟩) (fun _ => ?_)
    refine And.intro (fun cd => by omega) (fun cd => ⟨_, rfl, bad⟩)
theorem pair_on {x : Int32} (h : Inv t I L) : bm_C G l 25 [.ref 0, .int x] t I L (pI G l 126 [.ref 61, .int x]) := by
  obtain ⟨T, sh, hc, hm, hs, a1, a2, hL, a4, hK, hS, hO, hG⟩ := h.2.2
  have t2 : (3 : Int32).toInt = 3 := rfl
  by_cases hx : 0 ≤ x.toInt ∧ x.toInt < 3
  · have hx2 := of_nn hx.1
    have hk : x.toInt.toNat = 0 ∨ x.toInt.toNat = 1 ∨ x.toInt.toNat = 2 := by omega
    rcases hk with e | e | e <;> rw [e] at hx2
    · exact pair_on_0 h hc hm hs a1 a2 hL a4 hK hS hO hG hx2
    · exact pair_on_1 h hc hm hs a1 a2 hL a4 hK hS hO hG hx2
    · exact pair_on_2 h hc hm hs a1 a2 hL a4 hK hS hO hG hx2
  · have bad : bm_C G l 126 [.ref 61, .int x] t I L (fun v' t I L => v' = some (.int (-1)) ∧ Inv t I L) := by
      refine bm_go (am_ok_all 126 (by decide)) 60 ?_
      refine sm_in x.toInt 0 2 (i64 x) rfl rfl (fun y1 y2 => by omega) (fun y1 => ?_)
      first | refine And.intro (fun cd => absurd cd (by decide)) (fun _ => ?_) | refine And.intro (fun _ => ?_) (fun cd => absurd cd (by decide)) | refine And.intro (fun cd => ?_) (fun cd => ?_)
      exact ⟨rfl, h⟩
    refine bm_go (am_ok_all 25 (by decide)) 60 ?_
    refine And.intro (fun cd => ⟨_, rfl, bad⟩) (fun _ => ?_)
    refine And.intro (fun cd => by omega) (fun cd => ⟨_, rfl, bad⟩)
end PK

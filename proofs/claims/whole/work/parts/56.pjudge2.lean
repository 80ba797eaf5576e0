/-! pair: judge, both -/
section PJ
variable {G : am_G} {l : Launch} {t : am_T} {I : am_I} {L : am_J} {Q : bm_P}
theorem sC.fr {s : sT} {c : Nat} {cs : List Nat} {I I' : am_I} (h : sC s c I) (f : frN cs I I') (hc : c ∉ cs) : sC s c I' := by
  unfold sC at h ⊢
  rw [f c hc]
  exact h
theorem pair_judge_0 {T : tT} {x : Int32} (h : Inv t I L) {sh : Nat} (hc : cT T I) (hm : mT T I) (hs : sh < 2 ^ tN T) (a2 : I 61 19 = nI sh) (hL : cL T sh 13 I) (hok : tOk T) (hG : InvG T I) (hx : x = nI 0) : bm_C G l 23 [.ref 0, .int x] t I L (pI G l 124 [.ref 61, .int x]) := by
  have n6 := hok.2.2.2.1
  have p6 := Nat.pow_le_pow_right (n := 2) (by decide) n6
  have c0 : ¬ (I 7 0).toInt = 0 := by
    rcases cz hc.2.1 (Or.inl hok) with ⟨_, he⟩ | ⟨c0, _⟩
    · exact (nE hok he).elim
    · exact c0
  have m13 : ¬ (I 61 13).toInt = 0 := by rw [hm.2.2.1, ← hc.2.1]; exact c0
  obtain ⟨n, b, d, p, a, n1, b1, n2, n3, -⟩ := id hG
  have hxt : x.toInt = 0 := by rw [hx]; rfl
  obtain ⟨r1, r2, r3⟩ := h.1.b6 (k := 0) (by decide)
  have r1 : I 38 1 = I 63 0 := r1
  have rI : ∀ j : Nat, (j : Int) < (I 63 0).toInt → I 39 j = I 64 (rb 0 + j) := (h.1 0 (by decide)).2.2.2.1
  have hxe : ∀ q, q < 6 → x = nI q → q = 0 := fun q hq hxq => xe hx hxq (by decide) (by omega)
  refine bm_go (am_ok_all 23 (by decide)) 60 ?_
  refine sp_picked_r x (fun cd => by omega) (fun q hq hxq => ?_)
  obtain rfl := hxe q hq hxq
  refine And.intro (fun _ => ?_) (fun cd => absurd cd c0)
  refine And.intro (fun c2 => ?_) (fun c2 => ?_)
  · rw [r1] at c2
    obtain ⟨m, em⟩ := Int.eq_ofNat_of_zero_le c2
    have eo : (I 38 1).toInt = (m : Int) := by rw [r1]; exact em
    refine sp_within_38 m eo (by omega) (fun hq2 => ?_) (fun j hj hb => ?_)
    · first | refine And.intro (fun cd => absurd cd (by decide)) (fun _ => ?_) | refine And.intro (fun _ => ?_) (fun cd => absurd cd (by decide)) | refine And.intro (fun cd => ?_) (fun cd => ?_)
      have ha : ∀ j, j < m → I 39 j = nI (I 39 j).toInt.toNat ∧ (I 39 j).toInt.toNat < 5 := fun j hj => ⟨of_nn (hq2 j hj).1, by have := hq2 j hj; omega⟩
      refine sp_like_20_17 (fun I1 f1 e1 => ?_) n2.z
      have ag1 := f1.agH (by decide) (by decide)
      have s1 : sC n 20 I1 := n2.like e1
      have eo1 : I1 38 = I 38 := f1 38 (by decide)
      have ei1 : I1 39 = I 39 := f1 39 (by decide)
      refine sp_follow_38 (s := n) sh m (by rw [eo1]; exact eo) (by omega) hok (hc.agH ag1) (hL.agH ag1) s1 n1 (fun j => (I 39 j).toInt.toNat) (fun j hj => by rw [ei1]; exact ha j hj) (fun m1 I2 c1 f2 s2 => ?_)
      have k2 := runS_ok hok sh n1 (fun j => (I 39 j).toInt.toNat) m1
      refine sp_bitCount (runS T sh n (fun j => (I 39 j).toInt.toNat) m1).2.1 s2.2.1 (by have := k2.2.2.1; omega) ?_
      refine sp_besides ?_
      refine ⟨_, rfl, ?_⟩
      have f12 : frN [20] I I2 := f1.trans f2
      generalize hV : nI (pc (runS T sh n (fun j => (I 39 j).toInt.toNat) m1).2.1) = V
      have f3 : frN [20, 36] I (am_u I2 36 0 V) := (f12.mono (by decide)).u (by decide)
      have r61 : (am_u I2 36 0 V) 61 = I 61 := f3 61 (by decide)
      have r63 : (am_u I2 36 0 V) 63 = I 63 := f3 63 (by decide)
      have r64 : (am_u I2 36 0 V) 64 = I 64 := f3 64 (by decide)
      have hm3 : mT T (am_u I2 36 0 V) := by
        unfold mT at hm ⊢
        rw [r61, f3 66 (by decide), f3 67 (by decide), f3 68 (by decide)]
        exact hm
      refine sm_judge (s := n) sh 0 m hx (by decide) (by rw [r63]; exact em) (by omega) hok hm3 (by rw [r61]; exact a2) hs (n3.agH r61) n1 (fun j => (I 39 j).toInt.toNat) (fun j hj => ?_) (fun m2 I4 c4 f4 e4 => ?_)
      · rw [r64, ← rI j (by omega)]
        exact ha j hj
      · obtain rfl := canM_u c1 c4
        refine ⟨rfl, ?_⟩
        rw [hV] at e4
        have hI4 : I4 = am_u (am_u I2 36 0 V) 61 0 V := by
          funext y j
          by_cases q : y = 61
          · subst q
            by_cases q2 : j = 0
            · subst q2
              rw [u_eq]
              exact e4
            · rw [u_nj q2]
              exact f4.2 j (by simpa using q2)
          · rw [u_ne q]
            exact congrFun (f4.1 y q) j
        rw [hI4]
        have hag := f12.ag (by decide) (by decide) (by decide) (by decide)
        have h2 : Inv t I2 L := ⟨h.1.fr (fun x y1 y2 => f12 x (by simp; omega)) (f12 63 (by decide)) (f12 64 (by decide)), h.2.1.fr ⟨by rw [f12 36 (by decide)], by rw [f12 36 (by decide)]⟩ (f12 37 (by decide)) ⟨by rw [f12 61 (by decide)], by rw [f12 61 (by decide)]⟩ (f12 62 (by decide)), h.2.2.fr hag⟩
        exact h2.tell V
    · first | refine And.intro (fun cd => absurd cd (by decide)) (fun _ => ?_) | refine And.intro (fun _ => ?_) (fun cd => absurd cd (by decide)) | refine And.intro (fun cd => ?_) (fun cd => ?_)
      refine sp_found 3 rfl (by decide) ?_
      refine ⟨_, rfl, ?_⟩
      refine sm_judgeBad 0 m hx (by decide) ?_ (by omega) m13 j hj ?_ ?_
      · rw [fd (by decide) (by decide)]; exact em
      · rw [fd (by decide) (by decide), ← rI j (by omega)]; exact hb
      · exact ⟨rfl, h.find (by decide) (by decide) 3⟩
  · rw [r1] at c2
    refine sp_found 1 rfl (by decide) ?_
    refine ⟨_, rfl, ?_⟩
    refine bm_go (am_ok_all 124 (by decide)) 60 ?_
    refine sm_isRow (fun y1 y2 => ?_) (fun y1 => by omega)
    first | refine And.intro (fun cd => absurd cd (by decide)) (fun _ => ?_) | refine And.intro (fun _ => ?_) (fun cd => absurd cd (by decide)) | refine And.intro (fun cd => ?_) (fun cd => ?_)
    refine And.intro (fun _ => ?_) (fun cd => absurd cd m13)
    refine ⟨0, hxt, by decide, ?_⟩
    refine And.intro (fun cd => ?_) (fun _ => ?_)
    · have cd : 0 ≤ (I 63 0).toInt := cd
      omega
    · refine sm_finds 1 rfl (by decide) ?_
      exact ⟨rfl, h.find (by decide) (by decide) 1⟩
theorem pair_judge_1 {T : tT} {x : Int32} (h : Inv t I L) {sh : Nat} (hc : cT T I) (hm : mT T I) (hs : sh < 2 ^ tN T) (a2 : I 61 19 = nI sh) (hL : cL T sh 13 I) (hok : tOk T) (hG : InvG T I) (hx : x = nI 1) : bm_C G l 23 [.ref 0, .int x] t I L (pI G l 124 [.ref 61, .int x]) := by
  have n6 := hok.2.2.2.1
  have p6 := Nat.pow_le_pow_right (n := 2) (by decide) n6
  have c0 : ¬ (I 7 0).toInt = 0 := by
    rcases cz hc.2.1 (Or.inl hok) with ⟨_, he⟩ | ⟨c0, _⟩
    · exact (nE hok he).elim
    · exact c0
  have m13 : ¬ (I 61 13).toInt = 0 := by rw [hm.2.2.1, ← hc.2.1]; exact c0
  obtain ⟨n, b, d, p, a, n1, b1, n2, n3, -⟩ := id hG
  have hxt : x.toInt = 1 := by rw [hx]; rfl
  obtain ⟨r1, r2, r3⟩ := h.1.b6 (k := 1) (by decide)
  have r1 : I 40 1 = I 63 1 := r1
  have rI : ∀ j : Nat, (j : Int) < (I 63 1).toInt → I 41 j = I 64 (rb 1 + j) := (h.1 1 (by decide)).2.2.2.1
  have hxe : ∀ q, q < 6 → x = nI q → q = 1 := fun q hq hxq => xe hx hxq (by decide) (by omega)
  refine bm_go (am_ok_all 23 (by decide)) 60 ?_
  refine sp_picked_r x (fun cd => by omega) (fun q hq hxq => ?_)
  obtain rfl := hxe q hq hxq
  refine And.intro (fun _ => ?_) (fun cd => absurd cd c0)
  refine And.intro (fun c2 => ?_) (fun c2 => ?_)
  · rw [r1] at c2
    obtain ⟨m, em⟩ := Int.eq_ofNat_of_zero_le c2
    have eo : (I 40 1).toInt = (m : Int) := by rw [r1]; exact em
    refine sp_within_40 m eo (by omega) (fun hq2 => ?_) (fun j hj hb => ?_)
    · first | refine And.intro (fun cd => absurd cd (by decide)) (fun _ => ?_) | refine And.intro (fun _ => ?_) (fun cd => absurd cd (by decide)) | refine And.intro (fun cd => ?_) (fun cd => ?_)
      have ha : ∀ j, j < m → I 41 j = nI (I 41 j).toInt.toNat ∧ (I 41 j).toInt.toNat < 5 := fun j hj => ⟨of_nn (hq2 j hj).1, by have := hq2 j hj; omega⟩
      refine sp_like_20_17 (fun I1 f1 e1 => ?_) n2.z
      have ag1 := f1.agH (by decide) (by decide)
      have s1 : sC n 20 I1 := n2.like e1
      have eo1 : I1 40 = I 40 := f1 40 (by decide)
      have ei1 : I1 41 = I 41 := f1 41 (by decide)
      refine sp_follow_40 (s := n) sh m (by rw [eo1]; exact eo) (by omega) hok (hc.agH ag1) (hL.agH ag1) s1 n1 (fun j => (I 41 j).toInt.toNat) (fun j hj => by rw [ei1]; exact ha j hj) (fun m1 I2 c1 f2 s2 => ?_)
      have k2 := runS_ok hok sh n1 (fun j => (I 41 j).toInt.toNat) m1
      refine sp_bitCount (runS T sh n (fun j => (I 41 j).toInt.toNat) m1).2.1 s2.2.1 (by have := k2.2.2.1; omega) ?_
      refine sp_besides ?_
      refine ⟨_, rfl, ?_⟩
      have f12 : frN [20] I I2 := f1.trans f2
      generalize hV : nI (pc (runS T sh n (fun j => (I 41 j).toInt.toNat) m1).2.1) = V
      have f3 : frN [20, 36] I (am_u I2 36 0 V) := (f12.mono (by decide)).u (by decide)
      have r61 : (am_u I2 36 0 V) 61 = I 61 := f3 61 (by decide)
      have r63 : (am_u I2 36 0 V) 63 = I 63 := f3 63 (by decide)
      have r64 : (am_u I2 36 0 V) 64 = I 64 := f3 64 (by decide)
      have hm3 : mT T (am_u I2 36 0 V) := by
        unfold mT at hm ⊢
        rw [r61, f3 66 (by decide), f3 67 (by decide), f3 68 (by decide)]
        exact hm
      refine sm_judge (s := n) sh 1 m hx (by decide) (by rw [r63]; exact em) (by omega) hok hm3 (by rw [r61]; exact a2) hs (n3.agH r61) n1 (fun j => (I 41 j).toInt.toNat) (fun j hj => ?_) (fun m2 I4 c4 f4 e4 => ?_)
      · rw [r64, ← rI j (by omega)]
        exact ha j hj
      · obtain rfl := canM_u c1 c4
        refine ⟨rfl, ?_⟩
        rw [hV] at e4
        have hI4 : I4 = am_u (am_u I2 36 0 V) 61 0 V := by
          funext y j
          by_cases q : y = 61
          · subst q
            by_cases q2 : j = 0
            · subst q2
              rw [u_eq]
              exact e4
            · rw [u_nj q2]
              exact f4.2 j (by simpa using q2)
          · rw [u_ne q]
            exact congrFun (f4.1 y q) j
        rw [hI4]
        have hag := f12.ag (by decide) (by decide) (by decide) (by decide)
        have h2 : Inv t I2 L := ⟨h.1.fr (fun x y1 y2 => f12 x (by simp; omega)) (f12 63 (by decide)) (f12 64 (by decide)), h.2.1.fr ⟨by rw [f12 36 (by decide)], by rw [f12 36 (by decide)]⟩ (f12 37 (by decide)) ⟨by rw [f12 61 (by decide)], by rw [f12 61 (by decide)]⟩ (f12 62 (by decide)), h.2.2.fr hag⟩
        exact h2.tell V
    · first | refine And.intro (fun cd => absurd cd (by decide)) (fun _ => ?_) | refine And.intro (fun _ => ?_) (fun cd => absurd cd (by decide)) | refine And.intro (fun cd => ?_) (fun cd => ?_)
      refine sp_found 3 rfl (by decide) ?_
      refine ⟨_, rfl, ?_⟩
      refine sm_judgeBad 1 m hx (by decide) ?_ (by omega) m13 j hj ?_ ?_
      · rw [fd (by decide) (by decide)]; exact em
      · rw [fd (by decide) (by decide), ← rI j (by omega)]; exact hb
      · exact ⟨rfl, h.find (by decide) (by decide) 3⟩
  · rw [r1] at c2
    refine sp_found 1 rfl (by decide) ?_
    refine ⟨_, rfl, ?_⟩
    refine bm_go (am_ok_all 124 (by decide)) 60 ?_
    refine sm_isRow (fun y1 y2 => ?_) (fun y1 => by omega)
    first | refine And.intro (fun cd => absurd cd (by decide)) (fun _ => ?_) | refine And.intro (fun _ => ?_) (fun cd => absurd cd (by decide)) | refine And.intro (fun cd => ?_) (fun cd => ?_)
    refine And.intro (fun _ => ?_) (fun cd => absurd cd m13)
    refine ⟨1, hxt, by decide, ?_⟩
    refine And.intro (fun cd => ?_) (fun _ => ?_)
    · have cd : 0 ≤ (I 63 1).toInt := cd
      omega
    · refine sm_finds 1 rfl (by decide) ?_
      exact ⟨rfl, h.find (by decide) (by decide) 1⟩
theorem pair_judge_2 {T : tT} {x : Int32} (h : Inv t I L) {sh : Nat} (hc : cT T I) (hm : mT T I) (hs : sh < 2 ^ tN T) (a2 : I 61 19 = nI sh) (hL : cL T sh 13 I) (hok : tOk T) (hG : InvG T I) (hx : x = nI 2) : bm_C G l 23 [.ref 0, .int x] t I L (pI G l 124 [.ref 61, .int x]) := by
  have n6 := hok.2.2.2.1
  have p6 := Nat.pow_le_pow_right (n := 2) (by decide) n6
  have c0 : ¬ (I 7 0).toInt = 0 := by
    rcases cz hc.2.1 (Or.inl hok) with ⟨_, he⟩ | ⟨c0, _⟩
    · exact (nE hok he).elim
    · exact c0
  have m13 : ¬ (I 61 13).toInt = 0 := by rw [hm.2.2.1, ← hc.2.1]; exact c0
  obtain ⟨n, b, d, p, a, n1, b1, n2, n3, -⟩ := id hG
  have hxt : x.toInt = 2 := by rw [hx]; rfl
  obtain ⟨r1, r2, r3⟩ := h.1.b6 (k := 2) (by decide)
  have r1 : I 42 1 = I 63 2 := r1
  have rI : ∀ j : Nat, (j : Int) < (I 63 2).toInt → I 43 j = I 64 (rb 2 + j) := (h.1 2 (by decide)).2.2.2.1
  have hxe : ∀ q, q < 6 → x = nI q → q = 2 := fun q hq hxq => xe hx hxq (by decide) (by omega)
  refine bm_go (am_ok_all 23 (by decide)) 60 ?_
  refine sp_picked_r x (fun cd => by omega) (fun q hq hxq => ?_)
  obtain rfl := hxe q hq hxq
  refine And.intro (fun _ => ?_) (fun cd => absurd cd c0)
  refine And.intro (fun c2 => ?_) (fun c2 => ?_)
  · rw [r1] at c2
    obtain ⟨m, em⟩ := Int.eq_ofNat_of_zero_le c2
    have eo : (I 42 1).toInt = (m : Int) := by rw [r1]; exact em
    refine sp_within_42 m eo (by omega) (fun hq2 => ?_) (fun j hj hb => ?_)
    · first | refine And.intro (fun cd => absurd cd (by decide)) (fun _ => ?_) | refine And.intro (fun _ => ?_) (fun cd => absurd cd (by decide)) | refine And.intro (fun cd => ?_) (fun cd => ?_)
      have ha : ∀ j, j < m → I 43 j = nI (I 43 j).toInt.toNat ∧ (I 43 j).toInt.toNat < 5 := fun j hj => ⟨of_nn (hq2 j hj).1, by have := hq2 j hj; omega⟩
      refine sp_like_20_17 (fun I1 f1 e1 => ?_) n2.z
      have ag1 := f1.agH (by decide) (by decide)
      have s1 : sC n 20 I1 := n2.like e1
      have eo1 : I1 42 = I 42 := f1 42 (by decide)
      have ei1 : I1 43 = I 43 := f1 43 (by decide)
      refine sp_follow_42 (s := n) sh m (by rw [eo1]; exact eo) (by omega) hok (hc.agH ag1) (hL.agH ag1) s1 n1 (fun j => (I 43 j).toInt.toNat) (fun j hj => by rw [ei1]; exact ha j hj) (fun m1 I2 c1 f2 s2 => ?_)
      have k2 := runS_ok hok sh n1 (fun j => (I 43 j).toInt.toNat) m1
      refine sp_bitCount (runS T sh n (fun j => (I 43 j).toInt.toNat) m1).2.1 s2.2.1 (by have := k2.2.2.1; omega) ?_
      refine sp_besides ?_
      refine ⟨_, rfl, ?_⟩
      have f12 : frN [20] I I2 := f1.trans f2
      generalize hV : nI (pc (runS T sh n (fun j => (I 43 j).toInt.toNat) m1).2.1) = V
      have f3 : frN [20, 36] I (am_u I2 36 0 V) := (f12.mono (by decide)).u (by decide)
      have r61 : (am_u I2 36 0 V) 61 = I 61 := f3 61 (by decide)
      have r63 : (am_u I2 36 0 V) 63 = I 63 := f3 63 (by decide)
      have r64 : (am_u I2 36 0 V) 64 = I 64 := f3 64 (by decide)
      have hm3 : mT T (am_u I2 36 0 V) := by
        unfold mT at hm ⊢
        rw [r61, f3 66 (by decide), f3 67 (by decide), f3 68 (by decide)]
        exact hm
      refine sm_judge (s := n) sh 2 m hx (by decide) (by rw [r63]; exact em) (by omega) hok hm3 (by rw [r61]; exact a2) hs (n3.agH r61) n1 (fun j => (I 43 j).toInt.toNat) (fun j hj => ?_) (fun m2 I4 c4 f4 e4 => ?_)
      · rw [r64, ← rI j (by omega)]
        exact ha j hj
      · obtain rfl := canM_u c1 c4
        refine ⟨rfl, ?_⟩
        rw [hV] at e4
        have hI4 : I4 = am_u (am_u I2 36 0 V) 61 0 V := by
          funext y j
          by_cases q : y = 61
          · subst q
            by_cases q2 : j = 0
            · subst q2
              rw [u_eq]
              exact e4
            · rw [u_nj q2]
              exact f4.2 j (by simpa using q2)
          · rw [u_ne q]
            exact congrFun (f4.1 y q) j
        rw [hI4]
        have hag := f12.ag (by decide) (by decide) (by decide) (by decide)
        have h2 : Inv t I2 L := ⟨h.1.fr (fun x y1 y2 => f12 x (by simp; omega)) (f12 63 (by decide)) (f12 64 (by decide)), h.2.1.fr ⟨by rw [f12 36 (by decide)], by rw [f12 36 (by decide)]⟩ (f12 37 (by decide)) ⟨by rw [f12 61 (by decide)], by rw [f12 61 (by decide)]⟩ (f12 62 (by decide)), h.2.2.fr hag⟩
        exact h2.tell V
    · first | refine And.intro (fun cd => absurd cd (by decide)) (fun _ => ?_) | refine And.intro (fun _ => ?_) (fun cd => absurd cd (by decide)) | refine And.intro (fun cd => ?_) (fun cd => ?_)
      refine sp_found 3 rfl (by decide) ?_
      refine ⟨_, rfl, ?_⟩
      refine sm_judgeBad 2 m hx (by decide) ?_ (by omega) m13 j hj ?_ ?_
      · rw [fd (by decide) (by decide)]; exact em
      · rw [fd (by decide) (by decide), ← rI j (by omega)]; exact hb
      · exact ⟨rfl, h.find (by decide) (by decide) 3⟩
  · rw [r1] at c2
    refine sp_found 1 rfl (by decide) ?_
    refine ⟨_, rfl, ?_⟩
    refine bm_go (am_ok_all 124 (by decide)) 60 ?_
    refine sm_isRow (fun y1 y2 => ?_) (fun y1 => by omega)
    first | refine And.intro (fun cd => absurd cd (by decide)) (fun _ => ?_) | refine And.intro (fun _ => ?_) (fun cd => absurd cd (by decide)) | refine And.intro (fun cd => ?_) (fun cd => ?_)
    refine And.intro (fun _ => ?_) (fun cd => absurd cd m13)
    refine ⟨2, hxt, by decide, ?_⟩
    refine And.intro (fun cd => ?_) (fun _ => ?_)
    · have cd : 0 ≤ (I 63 2).toInt := cd
      omega
    · refine sm_finds 1 rfl (by decide) ?_
      exact ⟨rfl, h.find (by decide) (by decide) 1⟩
theorem pair_judge_3 {T : tT} {x : Int32} (h : Inv t I L) {sh : Nat} (hc : cT T I) (hm : mT T I) (hs : sh < 2 ^ tN T) (a2 : I 61 19 = nI sh) (hL : cL T sh 13 I) (hok : tOk T) (hG : InvG T I) (hx : x = nI 3) : bm_C G l 23 [.ref 0, .int x] t I L (pI G l 124 [.ref 61, .int x]) := by
  have n6 := hok.2.2.2.1
  have p6 := Nat.pow_le_pow_right (n := 2) (by decide) n6
  have c0 : ¬ (I 7 0).toInt = 0 := by
    rcases cz hc.2.1 (Or.inl hok) with ⟨_, he⟩ | ⟨c0, _⟩
    · exact (nE hok he).elim
    · exact c0
  have m13 : ¬ (I 61 13).toInt = 0 := by rw [hm.2.2.1, ← hc.2.1]; exact c0
  obtain ⟨n, b, d, p, a, n1, b1, n2, n3, -⟩ := id hG
  have hxt : x.toInt = 3 := by rw [hx]; rfl
  obtain ⟨r1, r2, r3⟩ := h.1.b6 (k := 3) (by decide)
  have r1 : I 44 1 = I 63 3 := r1
  have rI : ∀ j : Nat, (j : Int) < (I 63 3).toInt → I 45 j = I 64 (rb 3 + j) := (h.1 3 (by decide)).2.2.2.1
  have hxe : ∀ q, q < 6 → x = nI q → q = 3 := fun q hq hxq => xe hx hxq (by decide) (by omega)
  refine bm_go (am_ok_all 23 (by decide)) 60 ?_
  refine sp_picked_r x (fun cd => by omega) (fun q hq hxq => ?_)
  obtain rfl := hxe q hq hxq
  refine And.intro (fun _ => ?_) (fun cd => absurd cd c0)
  refine And.intro (fun c2 => ?_) (fun c2 => ?_)
  · rw [r1] at c2
    obtain ⟨m, em⟩ := Int.eq_ofNat_of_zero_le c2
    have eo : (I 44 1).toInt = (m : Int) := by rw [r1]; exact em
    refine sp_within_44 m eo (by omega) (fun hq2 => ?_) (fun j hj hb => ?_)
    · first | refine And.intro (fun cd => absurd cd (by decide)) (fun _ => ?_) | refine And.intro (fun _ => ?_) (fun cd => absurd cd (by decide)) | refine And.intro (fun cd => ?_) (fun cd => ?_)
      have ha : ∀ j, j < m → I 45 j = nI (I 45 j).toInt.toNat ∧ (I 45 j).toInt.toNat < 5 := fun j hj => ⟨of_nn (hq2 j hj).1, by have := hq2 j hj; omega⟩
      refine sp_like_20_17 (fun I1 f1 e1 => ?_) n2.z
      have ag1 := f1.agH (by decide) (by decide)
      have s1 : sC n 20 I1 := n2.like e1
      have eo1 : I1 44 = I 44 := f1 44 (by decide)
      have ei1 : I1 45 = I 45 := f1 45 (by decide)
      refine sp_follow_44 (s := n) sh m (by rw [eo1]; exact eo) (by omega) hok (hc.agH ag1) (hL.agH ag1) s1 n1 (fun j => (I 45 j).toInt.toNat) (fun j hj => by rw [ei1]; exact ha j hj) (fun m1 I2 c1 f2 s2 => ?_)
      have k2 := runS_ok hok sh n1 (fun j => (I 45 j).toInt.toNat) m1
      refine sp_bitCount (runS T sh n (fun j => (I 45 j).toInt.toNat) m1).2.1 s2.2.1 (by have := k2.2.2.1; omega) ?_
      refine sp_besides ?_
      refine ⟨_, rfl, ?_⟩
      have f12 : frN [20] I I2 := f1.trans f2
      generalize hV : nI (pc (runS T sh n (fun j => (I 45 j).toInt.toNat) m1).2.1) = V
      have f3 : frN [20, 36] I (am_u I2 36 0 V) := (f12.mono (by decide)).u (by decide)
      have r61 : (am_u I2 36 0 V) 61 = I 61 := f3 61 (by decide)
      have r63 : (am_u I2 36 0 V) 63 = I 63 := f3 63 (by decide)
      have r64 : (am_u I2 36 0 V) 64 = I 64 := f3 64 (by decide)
      have hm3 : mT T (am_u I2 36 0 V) := by
        unfold mT at hm ⊢
        rw [r61, f3 66 (by decide), f3 67 (by decide), f3 68 (by decide)]
        exact hm
      refine sm_judge (s := n) sh 3 m hx (by decide) (by rw [r63]; exact em) (by omega) hok hm3 (by rw [r61]; exact a2) hs (n3.agH r61) n1 (fun j => (I 45 j).toInt.toNat) (fun j hj => ?_) (fun m2 I4 c4 f4 e4 => ?_)
      · rw [r64, ← rI j (by omega)]
        exact ha j hj
      · obtain rfl := canM_u c1 c4
        refine ⟨rfl, ?_⟩
        rw [hV] at e4
        have hI4 : I4 = am_u (am_u I2 36 0 V) 61 0 V := by
          funext y j
          by_cases q : y = 61
          · subst q
            by_cases q2 : j = 0
            · subst q2
              rw [u_eq]
              exact e4
            · rw [u_nj q2]
              exact f4.2 j (by simpa using q2)
          · rw [u_ne q]
            exact congrFun (f4.1 y q) j
        rw [hI4]
        have hag := f12.ag (by decide) (by decide) (by decide) (by decide)
        have h2 : Inv t I2 L := ⟨h.1.fr (fun x y1 y2 => f12 x (by simp; omega)) (f12 63 (by decide)) (f12 64 (by decide)), h.2.1.fr ⟨by rw [f12 36 (by decide)], by rw [f12 36 (by decide)]⟩ (f12 37 (by decide)) ⟨by rw [f12 61 (by decide)], by rw [f12 61 (by decide)]⟩ (f12 62 (by decide)), h.2.2.fr hag⟩
        exact h2.tell V
    · first | refine And.intro (fun cd => absurd cd (by decide)) (fun _ => ?_) | refine And.intro (fun _ => ?_) (fun cd => absurd cd (by decide)) | refine And.intro (fun cd => ?_) (fun cd => ?_)
      refine sp_found 3 rfl (by decide) ?_
      refine ⟨_, rfl, ?_⟩
      refine sm_judgeBad 3 m hx (by decide) ?_ (by omega) m13 j hj ?_ ?_
      · rw [fd (by decide) (by decide)]; exact em
      · rw [fd (by decide) (by decide), ← rI j (by omega)]; exact hb
      · exact ⟨rfl, h.find (by decide) (by decide) 3⟩
  · rw [r1] at c2
    refine sp_found 1 rfl (by decide) ?_
    refine ⟨_, rfl, ?_⟩
    refine bm_go (am_ok_all 124 (by decide)) 60 ?_
    refine sm_isRow (fun y1 y2 => ?_) (fun y1 => by omega)
    first | refine And.intro (fun cd => absurd cd (by decide)) (fun _ => ?_) | refine And.intro (fun _ => ?_) (fun cd => absurd cd (by decide)) | refine And.intro (fun cd => ?_) (fun cd => ?_)
    refine And.intro (fun _ => ?_) (fun cd => absurd cd m13)
    refine ⟨3, hxt, by decide, ?_⟩
    refine And.intro (fun cd => ?_) (fun _ => ?_)
    · have cd : 0 ≤ (I 63 3).toInt := cd
      omega
    · refine sm_finds 1 rfl (by decide) ?_
      exact ⟨rfl, h.find (by decide) (by decide) 1⟩
theorem pair_judge_4 {T : tT} {x : Int32} (h : Inv t I L) {sh : Nat} (hc : cT T I) (hm : mT T I) (hs : sh < 2 ^ tN T) (a2 : I 61 19 = nI sh) (hL : cL T sh 13 I) (hok : tOk T) (hG : InvG T I) (hx : x = nI 4) : bm_C G l 23 [.ref 0, .int x] t I L (pI G l 124 [.ref 61, .int x]) := by
  have n6 := hok.2.2.2.1
  have p6 := Nat.pow_le_pow_right (n := 2) (by decide) n6
  have c0 : ¬ (I 7 0).toInt = 0 := by
    rcases cz hc.2.1 (Or.inl hok) with ⟨_, he⟩ | ⟨c0, _⟩
    · exact (nE hok he).elim
    · exact c0
  have m13 : ¬ (I 61 13).toInt = 0 := by rw [hm.2.2.1, ← hc.2.1]; exact c0
  obtain ⟨n, b, d, p, a, n1, b1, n2, n3, -⟩ := id hG
  have hxt : x.toInt = 4 := by rw [hx]; rfl
  obtain ⟨r1, r2, r3⟩ := h.1.b6 (k := 4) (by decide)
  have r1 : I 46 1 = I 63 4 := r1
  have rI : ∀ j : Nat, (j : Int) < (I 63 4).toInt → I 47 j = I 64 (rb 4 + j) := (h.1 4 (by decide)).2.2.2.1
  have hxe : ∀ q, q < 6 → x = nI q → q = 4 := fun q hq hxq => xe hx hxq (by decide) (by omega)
  refine bm_go (am_ok_all 23 (by decide)) 60 ?_
  refine sp_picked_r x (fun cd => by omega) (fun q hq hxq => ?_)
  obtain rfl := hxe q hq hxq
  refine And.intro (fun _ => ?_) (fun cd => absurd cd c0)
  refine And.intro (fun c2 => ?_) (fun c2 => ?_)
  · rw [r1] at c2
    obtain ⟨m, em⟩ := Int.eq_ofNat_of_zero_le c2
    have eo : (I 46 1).toInt = (m : Int) := by rw [r1]; exact em
    refine sp_within_46 m eo (by omega) (fun hq2 => ?_) (fun j hj hb => ?_)
    · first | refine And.intro (fun cd => absurd cd (by decide)) (fun _ => ?_) | refine And.intro (fun _ => ?_) (fun cd => absurd cd (by decide)) | refine And.intro (fun cd => ?_) (fun cd => ?_)
      have ha : ∀ j, j < m → I 47 j = nI (I 47 j).toInt.toNat ∧ (I 47 j).toInt.toNat < 5 := fun j hj => ⟨of_nn (hq2 j hj).1, by have := hq2 j hj; omega⟩
      refine sp_like_20_17 (fun I1 f1 e1 => ?_) n2.z
      have ag1 := f1.agH (by decide) (by decide)
      have s1 : sC n 20 I1 := n2.like e1
      have eo1 : I1 46 = I 46 := f1 46 (by decide)
      have ei1 : I1 47 = I 47 := f1 47 (by decide)
      refine sp_follow_46 (s := n) sh m (by rw [eo1]; exact eo) (by omega) hok (hc.agH ag1) (hL.agH ag1) s1 n1 (fun j => (I 47 j).toInt.toNat) (fun j hj => by rw [ei1]; exact ha j hj) (fun m1 I2 c1 f2 s2 => ?_)
      have k2 := runS_ok hok sh n1 (fun j => (I 47 j).toInt.toNat) m1
      refine sp_bitCount (runS T sh n (fun j => (I 47 j).toInt.toNat) m1).2.1 s2.2.1 (by have := k2.2.2.1; omega) ?_
      refine sp_besides ?_
      refine ⟨_, rfl, ?_⟩
      have f12 : frN [20] I I2 := f1.trans f2
      generalize hV : nI (pc (runS T sh n (fun j => (I 47 j).toInt.toNat) m1).2.1) = V
      have f3 : frN [20, 36] I (am_u I2 36 0 V) := (f12.mono (by decide)).u (by decide)
      have r61 : (am_u I2 36 0 V) 61 = I 61 := f3 61 (by decide)
      have r63 : (am_u I2 36 0 V) 63 = I 63 := f3 63 (by decide)
      have r64 : (am_u I2 36 0 V) 64 = I 64 := f3 64 (by decide)
      have hm3 : mT T (am_u I2 36 0 V) := by
        unfold mT at hm ⊢
        rw [r61, f3 66 (by decide), f3 67 (by decide), f3 68 (by decide)]
        exact hm
      refine sm_judge (s := n) sh 4 m hx (by decide) (by rw [r63]; exact em) (by omega) hok hm3 (by rw [r61]; exact a2) hs (n3.agH r61) n1 (fun j => (I 47 j).toInt.toNat) (fun j hj => ?_) (fun m2 I4 c4 f4 e4 => ?_)
      · rw [r64, ← rI j (by omega)]
        exact ha j hj
      · obtain rfl := canM_u c1 c4
        refine ⟨rfl, ?_⟩
        rw [hV] at e4
        have hI4 : I4 = am_u (am_u I2 36 0 V) 61 0 V := by
          funext y j
          by_cases q : y = 61
          · subst q
            by_cases q2 : j = 0
            · subst q2
              rw [u_eq]
              exact e4
            · rw [u_nj q2]
              exact f4.2 j (by simpa using q2)
          · rw [u_ne q]
            exact congrFun (f4.1 y q) j
        rw [hI4]
        have hag := f12.ag (by decide) (by decide) (by decide) (by decide)
        have h2 : Inv t I2 L := ⟨h.1.fr (fun x y1 y2 => f12 x (by simp; omega)) (f12 63 (by decide)) (f12 64 (by decide)), h.2.1.fr ⟨by rw [f12 36 (by decide)], by rw [f12 36 (by decide)]⟩ (f12 37 (by decide)) ⟨by rw [f12 61 (by decide)], by rw [f12 61 (by decide)]⟩ (f12 62 (by decide)), h.2.2.fr hag⟩
        exact h2.tell V
    · first | refine And.intro (fun cd => absurd cd (by decide)) (fun _ => ?_) | refine And.intro (fun _ => ?_) (fun cd => absurd cd (by decide)) | refine And.intro (fun cd => ?_) (fun cd => ?_)
      refine sp_found 3 rfl (by decide) ?_
      refine ⟨_, rfl, ?_⟩
      refine sm_judgeBad 4 m hx (by decide) ?_ (by omega) m13 j hj ?_ ?_
      · rw [fd (by decide) (by decide)]; exact em
      · rw [fd (by decide) (by decide), ← rI j (by omega)]; exact hb
      · exact ⟨rfl, h.find (by decide) (by decide) 3⟩
  · rw [r1] at c2
    refine sp_found 1 rfl (by decide) ?_
    refine ⟨_, rfl, ?_⟩
    refine bm_go (am_ok_all 124 (by decide)) 60 ?_
    refine sm_isRow (fun y1 y2 => ?_) (fun y1 => by omega)
    first | refine And.intro (fun cd => absurd cd (by decide)) (fun _ => ?_) | refine And.intro (fun _ => ?_) (fun cd => absurd cd (by decide)) | refine And.intro (fun cd => ?_) (fun cd => ?_)
    refine And.intro (fun _ => ?_) (fun cd => absurd cd m13)
    refine ⟨4, hxt, by decide, ?_⟩
    refine And.intro (fun cd => ?_) (fun _ => ?_)
    · have cd : 0 ≤ (I 63 4).toInt := cd
      omega
    · refine sm_finds 1 rfl (by decide) ?_
      exact ⟨rfl, h.find (by decide) (by decide) 1⟩
theorem pair_judge_5 {T : tT} {x : Int32} (h : Inv t I L) {sh : Nat} (hc : cT T I) (hm : mT T I) (hs : sh < 2 ^ tN T) (a2 : I 61 19 = nI sh) (hL : cL T sh 13 I) (hok : tOk T) (hG : InvG T I) (hx : x = nI 5) : bm_C G l 23 [.ref 0, .int x] t I L (pI G l 124 [.ref 61, .int x]) := by
  have n6 := hok.2.2.2.1
  have p6 := Nat.pow_le_pow_right (n := 2) (by decide) n6
  have c0 : ¬ (I 7 0).toInt = 0 := by
    rcases cz hc.2.1 (Or.inl hok) with ⟨_, he⟩ | ⟨c0, _⟩
    · exact (nE hok he).elim
    · exact c0
  have m13 : ¬ (I 61 13).toInt = 0 := by rw [hm.2.2.1, ← hc.2.1]; exact c0
  obtain ⟨n, b, d, p, a, n1, b1, n2, n3, -⟩ := id hG
  have hxt : x.toInt = 5 := by rw [hx]; rfl
  obtain ⟨r1, r2, r3⟩ := h.1.b6 (k := 5) (by decide)
  have r1 : I 48 1 = I 63 5 := r1
  have rI : ∀ j : Nat, (j : Int) < (I 63 5).toInt → I 49 j = I 64 (rb 5 + j) := (h.1 5 (by decide)).2.2.2.1
  have hxe : ∀ q, q < 6 → x = nI q → q = 5 := fun q hq hxq => xe hx hxq (by decide) (by omega)
  refine bm_go (am_ok_all 23 (by decide)) 60 ?_
  refine sp_picked_r x (fun cd => by omega) (fun q hq hxq => ?_)
  obtain rfl := hxe q hq hxq
  refine And.intro (fun _ => ?_) (fun cd => absurd cd c0)
  refine And.intro (fun c2 => ?_) (fun c2 => ?_)
  · rw [r1] at c2
    obtain ⟨m, em⟩ := Int.eq_ofNat_of_zero_le c2
    have eo : (I 48 1).toInt = (m : Int) := by rw [r1]; exact em
    refine sp_within_48 m eo (by omega) (fun hq2 => ?_) (fun j hj hb => ?_)
    · first | refine And.intro (fun cd => absurd cd (by decide)) (fun _ => ?_) | refine And.intro (fun _ => ?_) (fun cd => absurd cd (by decide)) | refine And.intro (fun cd => ?_) (fun cd => ?_)
      have ha : ∀ j, j < m → I 49 j = nI (I 49 j).toInt.toNat ∧ (I 49 j).toInt.toNat < 5 := fun j hj => ⟨of_nn (hq2 j hj).1, by have := hq2 j hj; omega⟩
      refine sp_like_20_17 (fun I1 f1 e1 => ?_) n2.z
      have ag1 := f1.agH (by decide) (by decide)
      have s1 : sC n 20 I1 := n2.like e1
      have eo1 : I1 48 = I 48 := f1 48 (by decide)
      have ei1 : I1 49 = I 49 := f1 49 (by decide)
      refine sp_follow_48 (s := n) sh m (by rw [eo1]; exact eo) (by omega) hok (hc.agH ag1) (hL.agH ag1) s1 n1 (fun j => (I 49 j).toInt.toNat) (fun j hj => by rw [ei1]; exact ha j hj) (fun m1 I2 c1 f2 s2 => ?_)
      have k2 := runS_ok hok sh n1 (fun j => (I 49 j).toInt.toNat) m1
      refine sp_bitCount (runS T sh n (fun j => (I 49 j).toInt.toNat) m1).2.1 s2.2.1 (by have := k2.2.2.1; omega) ?_
      refine sp_besides ?_
      refine ⟨_, rfl, ?_⟩
      have f12 : frN [20] I I2 := f1.trans f2
      generalize hV : nI (pc (runS T sh n (fun j => (I 49 j).toInt.toNat) m1).2.1) = V
      have f3 : frN [20, 36] I (am_u I2 36 0 V) := (f12.mono (by decide)).u (by decide)
      have r61 : (am_u I2 36 0 V) 61 = I 61 := f3 61 (by decide)
      have r63 : (am_u I2 36 0 V) 63 = I 63 := f3 63 (by decide)
      have r64 : (am_u I2 36 0 V) 64 = I 64 := f3 64 (by decide)
      have hm3 : mT T (am_u I2 36 0 V) := by
        unfold mT at hm ⊢
        rw [r61, f3 66 (by decide), f3 67 (by decide), f3 68 (by decide)]
        exact hm
      refine sm_judge (s := n) sh 5 m hx (by decide) (by rw [r63]; exact em) (by omega) hok hm3 (by rw [r61]; exact a2) hs (n3.agH r61) n1 (fun j => (I 49 j).toInt.toNat) (fun j hj => ?_) (fun m2 I4 c4 f4 e4 => ?_)
      · rw [r64, ← rI j (by omega)]
        exact ha j hj
      · obtain rfl := canM_u c1 c4
        refine ⟨rfl, ?_⟩
        rw [hV] at e4
        have hI4 : I4 = am_u (am_u I2 36 0 V) 61 0 V := by
          funext y j
          by_cases q : y = 61
          · subst q
            by_cases q2 : j = 0
            · subst q2
              rw [u_eq]
              exact e4
            · rw [u_nj q2]
              exact f4.2 j (by simpa using q2)
          · rw [u_ne q]
            exact congrFun (f4.1 y q) j
        rw [hI4]
        have hag := f12.ag (by decide) (by decide) (by decide) (by decide)
        have h2 : Inv t I2 L := ⟨h.1.fr (fun x y1 y2 => f12 x (by simp; omega)) (f12 63 (by decide)) (f12 64 (by decide)), h.2.1.fr ⟨by rw [f12 36 (by decide)], by rw [f12 36 (by decide)]⟩ (f12 37 (by decide)) ⟨by rw [f12 61 (by decide)], by rw [f12 61 (by decide)]⟩ (f12 62 (by decide)), h.2.2.fr hag⟩
        exact h2.tell V
    · first | refine And.intro (fun cd => absurd cd (by decide)) (fun _ => ?_) | refine And.intro (fun _ => ?_) (fun cd => absurd cd (by decide)) | refine And.intro (fun cd => ?_) (fun cd => ?_)
      refine sp_found 3 rfl (by decide) ?_
      refine ⟨_, rfl, ?_⟩
      refine sm_judgeBad 5 m hx (by decide) ?_ (by omega) m13 j hj ?_ ?_
      · rw [fd (by decide) (by decide)]; exact em
      · rw [fd (by decide) (by decide), ← rI j (by omega)]; exact hb
      · exact ⟨rfl, h.find (by decide) (by decide) 3⟩
  · rw [r1] at c2
    refine sp_found 1 rfl (by decide) ?_
    refine ⟨_, rfl, ?_⟩
    refine bm_go (am_ok_all 124 (by decide)) 60 ?_
    refine sm_isRow (fun y1 y2 => ?_) (fun y1 => by omega)
    first | refine And.intro (fun cd => absurd cd (by decide)) (fun _ => ?_) | refine And.intro (fun _ => ?_) (fun cd => absurd cd (by decide)) | refine And.intro (fun cd => ?_) (fun cd => ?_)
    refine And.intro (fun _ => ?_) (fun cd => absurd cd m13)
    refine ⟨5, hxt, by decide, ?_⟩
    refine And.intro (fun cd => ?_) (fun _ => ?_)
    · have cd : 0 ≤ (I 63 5).toInt := cd
      omega
    · refine sm_finds 1 rfl (by decide) ?_
      exact ⟨rfl, h.find (by decide) (by decide) 1⟩
theorem pair_judge {x : Int32} (h : Inv t I L) : bm_C G l 23 [.ref 0, .int x] t I L (pI G l 124 [.ref 61, .int x]) := by
  obtain ⟨T, sh, hc, hm, hs, a1, a2, hL, a4, hK, hS, hO, hG⟩ := h.2.2
  have hT := InvX.ok hG
  by_cases hx : 0 ≤ x.toInt ∧ x.toInt < 6
  · rcases cz hc.2.1 hT with ⟨c0, he⟩ | ⟨c0, hok⟩
    · have m13 : (I 61 13).toInt = 0 := by rw [hm.2.2.1, ← hc.2.1]; exact c0
      have tail : bm_C G l 124 [.ref 61, .int x] t I L (fun v' t I L => v' = some (.int (-4)) ∧ Inv t I L) := by
        refine bm_go (am_ok_all 124 (by decide)) 60 ?_
        refine sm_isRow (fun y1 y2 => ?_) (fun y1 => by omega)
        first | refine And.intro (fun cd => absurd cd (by decide)) (fun _ => ?_) | refine And.intro (fun _ => ?_) (fun cd => absurd cd (by decide)) | refine And.intro (fun cd => ?_) (fun cd => ?_)
        exact And.intro (fun cd => absurd m13 cd) (fun _ => ⟨rfl, h⟩)
      refine bm_go (am_ok_all 23 (by decide)) 60 ?_
      refine sp_picked_r x (fun cd => by omega) (fun q hq hxq => ?_)
      match q, hq with
      | 0, _ =>
        exact And.intro (fun cd => absurd c0 cd) (fun _ => ⟨_, rfl, tail⟩)
      | 1, _ =>
        exact And.intro (fun cd => absurd c0 cd) (fun _ => ⟨_, rfl, tail⟩)
      | 2, _ =>
        exact And.intro (fun cd => absurd c0 cd) (fun _ => ⟨_, rfl, tail⟩)
      | 3, _ =>
        exact And.intro (fun cd => absurd c0 cd) (fun _ => ⟨_, rfl, tail⟩)
      | 4, _ =>
        exact And.intro (fun cd => absurd c0 cd) (fun _ => ⟨_, rfl, tail⟩)
      | 5, _ =>
        exact And.intro (fun cd => absurd c0 cd) (fun _ => ⟨_, rfl, tail⟩)
    · have hx2 := of_nn hx.1
      have hk : x.toInt.toNat = 0 ∨ x.toInt.toNat = 1 ∨ x.toInt.toNat = 2 ∨ x.toInt.toNat = 3 ∨ x.toInt.toNat = 4 ∨ x.toInt.toNat = 5 := by omega
      rcases hk with e | e | e | e | e | e <;> rw [e] at hx2
      · exact pair_judge_0 h hc hm hs a2 hL hok (hGk hok hG) hx2
      · exact pair_judge_1 h hc hm hs a2 hL hok (hGk hok hG) hx2
      · exact pair_judge_2 h hc hm hs a2 hL hok (hGk hok hG) hx2
      · exact pair_judge_3 h hc hm hs a2 hL hok (hGk hok hG) hx2
      · exact pair_judge_4 h hc hm hs a2 hL hok (hGk hok hG) hx2
      · exact pair_judge_5 h hc hm hs a2 hL hok (hGk hok hG) hx2
  · have bad : bm_C G l 124 [.ref 61, .int x] t I L (fun v' t I L => v' = some (.int (-1)) ∧ Inv t I L) := by
      refine bm_go (am_ok_all 124 (by decide)) 60 ?_
      refine sm_isRow (fun y1 y2 => by omega) (fun y1 => ?_)
      first | refine And.intro (fun cd => absurd cd (by decide)) (fun _ => ?_) | refine And.intro (fun _ => ?_) (fun cd => absurd cd (by decide)) | refine And.intro (fun cd => ?_) (fun cd => ?_)
      exact ⟨rfl, h⟩
    refine bm_go (am_ok_all 23 (by decide)) 60 ?_
    refine sp_picked_r x (fun cd => ⟨_, rfl, bad⟩) (fun q hq hxq => ?_)
    have := xn hxq hq (by omega)
    omega
end PJ

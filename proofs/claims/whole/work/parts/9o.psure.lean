/-! pair: sure -/
section PF
variable {G : am_G} {l : Launch} {t : am_T} {I : am_I} {L : am_J} {Q : bm_P}
theorem pair_sure {x y : Int32} (h : Inv t I L) : bm_C G l 39 [.ref 0, .int x, .int y] t I L (pI G l 153 [.ref 61, .int x, .int y]) := by
  obtain ⟨T, sh, hc, hm, hs, a1, a2, hL, a4, hK, hS, hO, hG⟩ := h.2.2
  have hT := InvX.ok hG
  have n6 := hT.n6
  have p6 := Nat.pow_le_pow_right (n := 2) (by decide) n6
  have a64 := al_lt hT
  have hG0 := hG
  obtain ⟨m, a, b, m8, e22, e42, a6, hab⟩ := seen_of hS n6
  have bad1 : (x.toInt < 0 ∨ (tN T : Int) ≤ x.toInt) → bm_C G l 153 [.ref 61, .int x, .int y] t I L (fun v' t I L => v' = some (.int (-1)) ∧ Inv t I L) := by
    intro q
    refine bm_go (am_ok_all 153 (by decide)) 60 ?_
    refine sm_isLamp hT hm (fun k hk hx => ?_) (fun _ => ?_)
    · have := xn hx hk (by omega)
      omega
    · first | refine And.intro (fun cd => absurd cd (by decide)) (fun _ => ?_) | refine And.intro (fun _ => ?_) (fun cd => absurd cd (by decide)) | refine And.intro (fun cd => ?_) (fun cd => ?_)
      exact ⟨rfl, h⟩
  have bad2 : ∀ j, j < tN T → x = nI j → (y.toInt < 0 ∨ (tN T : Int) ≤ y.toInt) → bm_C G l 153 [.ref 61, .int x, .int y] t I L (fun v' t I L => v' = some (.int (-1)) ∧ Inv t I L) := by
    intro j hj hx q
    refine bm_go (am_ok_all 153 (by decide)) 60 ?_
    refine sm_isLamp hT hm (fun _ _ _ => ?_) (fun q => ?_)
    · first | refine And.intro (fun cd => absurd cd (by decide)) (fun _ => ?_) | refine And.intro (fun _ => ?_) (fun cd => absurd cd (by decide)) | refine And.intro (fun cd => ?_) (fun cd => ?_)
      refine sm_isLamp hT hm (fun k hk hy => ?_) (fun _ => ?_)
      · have := xn hy hk (by omega)
        omega
      · first | refine And.intro (fun cd => absurd cd (by decide)) (fun _ => ?_) | refine And.intro (fun _ => ?_) (fun cd => absurd cd (by decide)) | refine And.intro (fun cd => ?_) (fun cd => ?_)
        exact ⟨rfl, h⟩
    · have := xn hx hj (by omega)
      omega
  refine bm_go (am_ok_all 39 (by decide)) 60 ?_
  refine sp_isLamp hT hc.2.2.2.1 (fun j hj hx => ?_) (fun cd => ?_)
  rotate_left
  · first | refine And.intro (fun cd => absurd cd (by decide)) (fun _ => ?_) | refine And.intro (fun _ => ?_) (fun cd => absurd cd (by decide)) | refine And.intro (fun cd => ?_) (fun cd => ?_)
    exact ⟨_, rfl, bad1 cd⟩
  first | refine And.intro (fun cd => absurd cd (by decide)) (fun _ => ?_) | refine And.intro (fun _ => ?_) (fun cd => absurd cd (by decide)) | refine And.intro (fun cd => ?_) (fun cd => ?_)
  refine sp_isLamp hT hc.2.2.2.1 (fun k hk hy => ?_) (fun cd => ?_)
  rotate_left
  · first | refine And.intro (fun cd => absurd cd (by decide)) (fun _ => ?_) | refine And.intro (fun _ => ?_) (fun cd => absurd cd (by decide)) | refine And.intro (fun cd => ?_) (fun cd => ?_)
    exact ⟨_, rfl, bad2 j hj hx cd⟩
  first | refine And.intro (fun cd => absurd cd (by decide)) (fun _ => ?_) | refine And.intro (fun _ => ?_) (fun cd => absurd cd (by decide)) | refine And.intro (fun cd => ?_) (fun cd => ?_)
  have hok := hT.ok hj
  have c2 := hok.1.c2
  have c24 := hok.1.c24
  have tj : x.toInt = (j : Int) := by rw [hx]; exact nI_toInt (by omega)
  have tk : y.toInt = (k : Int) := by rw [hy]; exact nI_toInt (by omega)
  have both : ∀ (t5 : am_T) (I5 : am_I) (L5 : am_J) (Q5 : bm_P), mT T I5 → (¬ j = k → bm_W G l 153 23 [some (.ref 61), some (.int x), some (.int y)] [] t5 I5 L5 Q5 → True) := fun _ _ _ _ _ _ _ => trivial
  refine And.intro (fun cd => ?_) (fun cd => ?_)
  rotate_left
  · refine ⟨_, rfl, ?_⟩
    refine bm_go (am_ok_all 153 (by decide)) 60 ?_
    refine sm_isLamp hT hm (fun _ _ _ => ?_) (fun q => by omega)
    first | refine And.intro (fun cd => absurd cd (by decide)) (fun _ => ?_) | refine And.intro (fun _ => ?_) (fun cd => absurd cd (by decide)) | refine And.intro (fun cd => ?_) (fun cd => ?_)
    refine sm_isLamp hT hm (fun _ _ _ => ?_) (fun q => by omega)
    first | refine And.intro (fun cd => absurd cd (by decide)) (fun _ => ?_) | refine And.intro (fun _ => ?_) (fun cd => absurd cd (by decide)) | refine And.intro (fun cd => ?_) (fun cd => ?_)
    refine And.intro (fun c => absurd cd c) (fun _ => ⟨rfl, h⟩)
  have jk : j ≠ k := fun e => cd (by rw [tj, tk, e])
  refine sp_learn sh hok hc hL hO (fun I1 f1 e1 e3 e4 tb => ?_)
  have g1 := lrn.of f1 e1 e3 e4 tb
  refine sp_demandNothing (fun I2 f2 z2 => ?_)
  have g2 := g1.go (f2.mono (by decide))
  have r2 : ∀ x, x ∉ exOA → I2 x = I x := fun x hx => g2.1 x hx
  refine sp_demandOf m a b m8 (by rw [r2 22 (by decide)]; exact e22) (fun i hi => ⟨a6 i, by have := (hab i hi).2.1; omega, by rw [r2 23 (by decide)]; exact (hab i hi).2.2.2.1, by rw [r2 24 (by decide)]; exact (hab i hi).2.2.2.2.2.1⟩) z2 (fun I4 f4 z4 => ?_)
  have g4 := g2.go (f4.mono (by decide))
  refine sp_howManyO sh (dmd a b m) n6 (fun k => dmd_lt a6 m k) g4.2.2.1 g4.2.2.2.1 g4.2.2.2.2.1 z4 (fun I5 f5 => ?_)
  have g5 := g4.go (f5.mono (by decide))
  have hfit := fit_Ws (T := T) sh m a b n6 a64 (fun i hi => ⟨(hab i hi).1, (hab i hi).2.1, (hab i hi).2.2.1⟩)
  have hah := ahead_Ws (T := T) sh m j k a b n6 a64 (fun i hi => ⟨(hab i hi).1, (hab i hi).2.1, (hab i hi).2.2.1⟩) hj hk jk
  have wl2 := Ws_lt (gap T sh) (okD (dmd a b m)) a64
  have wl3 := Ws_lt (gap T sh) (okD (fun q => if q = k then dmd a b m q ||| 1 <<< j else dmd a b m q)) a64
  generalize hB : Ws (gap T sh) (okD (dmd a b m)) (al T) = B at *
  have tB : (nI B).toInt = (B : Int) := nI_toInt (by omega)
  have rcnt : ∀ (I5 : am_I) (t5 : am_T) (L5 : am_J) (Q5 : bm_P) (A : Nat), A = Ws (gap T sh) (okD (fun q => if q = k then dmd a b m q ||| 1 <<< j else dmd a b m q)) (al T) → mT T I5 → I5 61 19 = nI sh → I5 61 42 = nI m → I5 79 = I 79 → I5 80 = I 80 → (∀ I6, frC I5 I6 → I6 61 46 = nI B → I6 61 47 = nI A → Q5 none t5 I6 L5) → bm_C G l 151 [.ref 61, .int x, .int y] t5 I5 L5 Q5 := by
    intro I5 t5 L5 Q5 A eA q1 q2 q3 q4 q5 q6
    refine sm_counts sh m j k a b hok q1 q2 (by omega) m8 q3 (fun i hi => ?_) hx hy (Or.inr ⟨hj, hk⟩) (fun I6 f6 _ c2 c3 => q6 I6 f6 (by rw [c2, hfit]) (by rw [c3, hah, eA]))
    rw [q4, q5]
    exact ⟨(hab i hi).1, (hab i hi).2.1, (hab i hi).2.2.2.2.1, (hab i hi).2.2.2.2.2.2⟩
  refine And.intro (fun cB => ?_) (fun cB => ?_)
  · have B0 : B ≠ 0 := fun e => cB (by rw [e]; rfl)
    refine sp_demand j k (dmd a b m k) hx hy (by omega) (by omega) (by rw [f5 32 (by decide)]; exact z4 k (by omega)) ?_
    generalize hI6 : am_u I5 32 k (nI (dmd a b m k ||| 1 <<< j)) = I6
    have f6 : frN [32] I5 I6 := by rw [← hI6]; exact (frN.refl _ _).u (by decide)
    have g6 := g5.go (f6.mono (by decide))
    have z6 : ∀ q, q < 8 → I6 32 q = nI ((fun q => if q = k then dmd a b m q ||| 1 <<< j else dmd a b m q) q) := by
      intro q hq
      rw [← hI6]
      by_cases e : q = k
      · subst e
        rw [u_eq]
        show _ = nI (if q = q then _ else _)
        rw [if_pos rfl]
      · rw [u_nj e, f5 32 (by decide), z4 q hq]
        show _ = nI (if q = k then _ else _)
        rw [if_neg e]
    refine sp_howManyO sh _ n6 (fun q => ?_) g6.2.2.1 g6.2.2.2.1 g6.2.2.2.2.1 z6 (fun I7 f7 => ?_)
    · have := dmd_lt (b := b) a6 m q
      show (if q = k then dmd a b m q ||| 1 <<< j else dmd a b m q) < 64
      split
      · exact or_lt (n := 6) this (one_lt (by omega))
      · exact this
    have g7 := g6.go (f7.mono (by decide))
    generalize hA : Ws (gap T sh) (okD (fun q => if q = k then dmd a b m q ||| 1 <<< j else dmd a b m q)) (al T) = A at *
    have tA : (nI A).toInt = (A : Int) := nI_toInt (by omega)
    have ref : ∀ z : Int32, (A = 0 → z = 0) → (A ≠ 0 → A = B → z = 1) → (A ≠ 0 → A ≠ B → z = 2) → bm_C G l 153 [.ref 61, .int x, .int y] (t.1, some 7, some 12) I7 L (fun v' t I L => v' = some (.int z) ∧ Inv t I L) := by
      intro z z0 z1 z2'
      have hm7 := g7.hm hm
      have fin : ∀ I8, frC I7 I8 → Inv (t.1, some 7, some 12) I8 L := fun I8 f8 => Inv.lrnC h hc hm hs a1 a2 hL a4 hK hS hG0 (g7.goC f8) t.1 h.2.1.2.2.2.1 h.2.1.2.2.2.2
      refine bm_go (am_ok_all 153 (by decide)) 60 ?_
      refine sm_isLamp hT hm7 (fun _ _ _ => ?_) (fun q => by omega)
      first | refine And.intro (fun cd => absurd cd (by decide)) (fun _ => ?_) | refine And.intro (fun _ => ?_) (fun cd => absurd cd (by decide)) | refine And.intro (fun cd => ?_) (fun cd => ?_)
      refine sm_isLamp hT hm7 (fun _ _ _ => ?_) (fun q => by omega)
      first | refine And.intro (fun cd => absurd cd (by decide)) (fun _ => ?_) | refine And.intro (fun _ => ?_) (fun cd => absurd cd (by decide)) | refine And.intro (fun cd => ?_) (fun cd => ?_)
      refine And.intro (fun _ => ?_) (fun c => absurd c cd)
      refine rcnt I7 _ _ _ A rfl hm7 (g7.a2 a2) (by rw [g7.1 61 (by decide)]; exact e42) (g7.1 79 (by decide)) (g7.1 80 (by decide)) (fun I8 f8 c2 c3 => ?_)
      refine And.intro (fun _ => ?_) (fun c => ?_)
      rotate_left
      · rw [c2] at c
        exact absurd c cB
      refine And.intro (fun c => ?_) (fun c => ?_)
      · rw [c2, c3, tA, tB] at c
        have nAB : A ≠ B := fun e => c (by rw [e])
        refine And.intro (fun d => ?_) (fun d => ?_)
        · rw [c3, tA] at d
          have d : ¬ ((A : Int) = 0) := d
          exact ⟨by rw [z2' (by omega) nAB], fin I8 f8⟩
        · rw [c3, tA] at d
          have d : (A : Int) = 0 := d
          exact ⟨by rw [z0 (by omega)], fin I8 f8⟩
      · rw [c2, c3, tA, tB] at c
        exact ⟨by rw [z1 (by omega) (by omega)], fin I8 f8⟩
    refine And.intro (fun d => ?_) (fun d => ?_)
    · rw [tA] at d
      have d : ¬ ((A : Int) = 0) := d
      refine And.intro (fun c => ?_) (fun c => ?_)
      · rw [tA, tB] at c
        exact ⟨_, rfl, ref _ (fun e => by omega) (fun _ e => by omega) (fun _ _ => rfl)⟩
      · rw [tA, tB] at c
        exact ⟨_, rfl, ref _ (fun e => by omega) (fun _ _ => rfl) (fun _ e => by omega)⟩
    · rw [tA] at d
      have d : (A : Int) = 0 := d
      exact ⟨_, rfl, ref _ (fun _ => rfl) (fun e => by omega) (fun e => by omega)⟩
  · have B0 : B = 0 := by
      rw [tB] at cB
      have cB : (B : Int) = 0 := cB
      omega
    refine sp_found 4 rfl (by decide) ?_
    refine ⟨_, rfl, ?_⟩
    generalize hJ : am_u (am_u I5 36 3 4) 37 4 (I5 37 4 + 1) = J
    have fJ : frN [36, 37] I5 J := by rw [← hJ]; exact ((frN.refl _ _).u (by decide)).u (by decide)
    have hm5 := g5.hm hm
    have hmJ : mT T J := hm5.frN fJ (by decide) (by decide) (by decide) (by decide)
    refine bm_go (am_ok_all 153 (by decide)) 60 ?_
    refine sm_isLamp hT hmJ (fun _ _ _ => ?_) (fun q => by omega)
    first | refine And.intro (fun cd => absurd cd (by decide)) (fun _ => ?_) | refine And.intro (fun _ => ?_) (fun cd => absurd cd (by decide)) | refine And.intro (fun cd => ?_) (fun cd => ?_)
    refine sm_isLamp hT hmJ (fun _ _ _ => ?_) (fun q => by omega)
    first | refine And.intro (fun cd => absurd cd (by decide)) (fun _ => ?_) | refine And.intro (fun _ => ?_) (fun cd => absurd cd (by decide)) | refine And.intro (fun cd => ?_) (fun cd => ?_)
    refine And.intro (fun _ => ?_) (fun c => absurd c cd)
    refine rcnt J _ _ _ _ rfl hmJ (by rw [fJ 61 (by decide)]; exact g5.a2 a2) (by rw [fJ 61 (by decide), g5.1 61 (by decide)]; exact e42) (by rw [fJ 79 (by decide), g5.1 79 (by decide)]) (by rw [fJ 80 (by decide), g5.1 80 (by decide)]) (fun I6 f6 c2 c3 => ?_)
    refine And.intro (fun c => ?_) (fun _ => ?_)
    · rw [c2, B0] at c
      exact absurd rfl c
    · refine sm_finds 4 rfl (by decide) ?_
      refine ⟨rfl, ?_⟩
      rw [← hJ] at f6
      exact lrn.foundC h (by decide) (by decide) hc hm hs a1 a2 hL a4 hK hS hG0 g5 f6 t.1
end PF

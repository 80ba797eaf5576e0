/-! pairs: fits, sure -/
theorem all_Ws {T : tT} (sh : Nat) (h64 : al T < 64) : (pQ (al T) 64 0).countP (cA T sh) = Ws (gap T sh) aw (al T) := by
  rw [Ws_rows _ _ h64]
  refine List.countP_congr (fun r _ => ?_)
  unfold cA fea
  rw [okr_aw, Bool.and_true]
theorem fit_Ws {T : tT} (sh m : Nat) (a b : Nat → Nat) (h6 : tN T ≤ 6) (h64 : al T < 64) (hab : ∀ i, i < m → a i < tN T ∧ b i < tN T ∧ a i ≠ b i) : (pQ (al T) 64 0).countP (cF T sh a b m) = Ws (gap T sh) (okD (dmd a b m)) (al T) := by
  rw [Ws_rows _ _ h64]
  refine List.countP_congr (fun r hr => ?_)
  unfold cF cA fea
  rw [okr_dmd (n := tN T) (by omega) hr a b m hab]
theorem ahead_Ws {T : tT} (sh m j k : Nat) (a b : Nat → Nat) (h6 : tN T ≤ 6) (h64 : al T < 64) (hab : ∀ i, i < m → a i < tN T ∧ b i < tN T ∧ a i ≠ b i) (hj : j < tN T) (hk : k < tN T) (hjk : j ≠ k) : (pQ (al T) 64 0).countP (cH T sh a b m j k) = Ws (gap T sh) (okD (fun q => if q = k then dmd a b m q ||| 1 <<< j else dmd a b m q)) (al T) := by
  rw [Ws_rows _ _ h64]
  refine List.countP_congr (fun r hr => ?_)
  unfold cH cF cA fea
  rw [okD_add (dmd a b m) (show j < 32 by omega), okr_and, okr_dmd (n := tN T) (by omega) hr a b m hab, pos_ok (n := tN T) (by omega) hr hj hk hjk]
  have : (j != k) = true := by simpa using hjk
  rw [this]
  cases (cst (gap T sh) 0 7 r).isSome <;> cases seenB (tN T) a b r m <;> simp
theorem seen_of {T : tT} {I : am_I} (hS : InvS T I) (h6 : tN T ≤ 6) : ∃ (m : Nat) (a b : Nat → Nat), m ≤ 8 ∧ I 22 0 = nI m ∧ I 61 42 = nI m ∧ (∀ i, a i < 6) ∧ ∀ i, i < m → a i < tN T ∧ b i < tN T ∧ a i ≠ b i ∧ I 23 i = nI (a i) ∧ I 79 i = nI (a i) ∧ I 24 i = nI (b i) ∧ I 80 i = nI (b i) := by
  obtain ⟨m, m8, e1, e2, hm⟩ := hS
  have key : ∀ i, i < m → un (I 23 i) < tN T ∧ un (I 24 i) < tN T ∧ un (I 23 i) ≠ un (I 24 i) ∧ I 23 i = nI (un (I 23 i)) ∧ I 79 i = nI (un (I 23 i)) ∧ I 24 i = nI (un (I 24 i)) ∧ I 80 i = nI (un (I 24 i)) := by
    intro i hi
    obtain ⟨a, b, q1, q2, q3, q4, q5, q6, q7⟩ := hm i hi
    rw [q4, q6, un_n (by omega), un_n (by omega)]
    exact ⟨q1, q2, q3, rfl, q5, rfl, q7⟩
  refine ⟨m, fun i => if i < m then un (I 23 i) else 0, fun i => if i < m then un (I 24 i) else 0, m8, e1, e2, fun i => ?_, fun i hi => ?_⟩
  · by_cases q : i < m
    · show (if i < m then un (I 23 i) else 0) < 6
      rw [if_pos q]
      have := (key i q).1
      omega
    · show (if i < m then un (I 23 i) else 0) < 6
      rw [if_neg q]
      decide
  · simp only [if_pos hi]
    exact key i hi
def lrnC (T : tT) (sh : Nat) (I I' : am_I) : Prop := (∀ x, x ∉ exOA → x ≠ 61 → I' x = I x) ∧ (∀ j, j ∉ [45, 46, 47] → I' 61 j = I 61 j) ∧ I' 25 1 = 0 ∧ I' 25 3 = nI (tN T) ∧ I' 25 4 = nI (al T) ∧ tabs T sh I'
theorem lrn.goC {T : tT} {sh : Nat} {I I' I'' : am_I} (h : lrn T sh I I') (f : frC I' I'') : lrnC T sh I I'' := by
  obtain ⟨h1, h2, h3, h4, h5⟩ := h
  refine ⟨fun x hx h61 => ?_, fun j hj => by rw [f.2 j hj, h1 61 (by decide)], by rw [f.1 25 (by decide)]; exact h2, by rw [f.1 25 (by decide)]; exact h3, by rw [f.1 25 (by decide)]; exact h4, ?_⟩
  · rw [f.1 x (fun q => by simp at q; rcases q with rfl | rfl | rfl <;> first | exact h61 rfl | exact hx (by decide)), h1 x hx]
  · unfold tabs at h5 ⊢
    rw [f.1 27 (by decide), f.1 28 (by decide), f.1 29 (by decide), f.1 30 (by decide)]
    exact h5
theorem Inv.lrnC {t : am_T} {I I' : am_I} {L L' : am_J} (h : Inv t I L) {T : tT} {sh : Nat} (hc : cT T I) (hm : mT T I) (hs : sh < 2 ^ tN T) (a1 : I 0 14 = nI sh) (a2 : I 61 19 = nI sh) (hL : cL T sh 13 I) (a4 : I 15 0 = nI 0) (hK : InvK T I) (hS : InvS T I) (hG : (tOk T ∧ InvG T I) ∨ (tE T ∧ InvE I)) (g : lrnC T sh I I') (t1 : Option Nat) (l1 : L' 36 1 = L' 61 1) (l2 : L' 36 2 = L' 61 2) : Inv (t1, some 7, some 12) I' L' := by
  obtain ⟨g1, g2, g3, g4, g5, g6⟩ := g
  obtain ⟨d1, d2, d3, -, -⟩ := h.2.1.fr (I' := I') ⟨by rw [g1 36 (by decide) (by decide)], by rw [g1 36 (by decide) (by decide)]⟩ (g1 37 (by decide) (by decide)) ⟨g2 0 (by decide), g2 3 (by decide)⟩ (g1 62 (by decide) (by decide))
  refine Inv.ord (h.1.fr (fun x h1 h2 => g1 x (fun q => by have := exOA_r x q; omega) (by omega)) (g1 63 (by decide) (by decide)) (g1 64 (by decide) (by decide))) ⟨d1, d2, d3, l1, l2⟩ hc hm hs a1 a2 hL a4 hK hS hG ⟨fun x h1 h2 => g1 x (fun q => (exOA_g x q).elim h1 h2) (fun e => h1 (by rw [e]; decide)), by rw [g1 15 (by decide) (by decide)], fun j h1 h2 => g2 j (by simp; omega)⟩ (Or.inr ⟨g3, rfl, g4, g5, g6⟩)
theorem lrn.foundC {t : am_T} {I I1 I4 : am_I} {L : am_J} (h : Inv t I L) {T : tT} {sh f : Nat} {v : Int32} (hf : 1 ≤ f) (hf6 : f < 6) (hc : cT T I) (hm : mT T I) (hs : sh < 2 ^ tN T) (a1 : I 0 14 = nI sh) (a2 : I 61 19 = nI sh) (hL : cL T sh 13 I) (a4 : I 15 0 = nI 0) (hK : InvK T I) (hS : InvS T I) (hG : (tOk T ∧ InvG T I) ∨ (tE T ∧ InvE I)) (g1 : lrn T sh I I1) (f4 : frC (am_u (am_u I1 36 3 v) 37 f (I1 37 f + 1)) I4) (t1 : Option Nat) : Inv (t1, some 7, some 12) (am_u (am_u I4 61 3 v) 62 f (I4 62 f + 1)) L := by
  have kd : ∀ x, (fun x y => if x = 36 ∨ x = 37 then I1 x y else I4 x y) x = if x = 36 ∨ x = 37 then I1 x else I4 x := fun x => by
    funext y
    by_cases q : x = 36 ∨ x = 37
    · show (if x = 36 ∨ x = 37 then I1 x y else I4 x y) = _
      rw [if_pos q, if_pos q]
    · show (if x = 36 ∨ x = 37 then I1 x y else I4 x y) = _
      rw [if_neg q, if_neg q]
  generalize hKdef : (fun x y => if x = 36 ∨ x = 37 then I1 x y else I4 x y) = K at kd
  have fK : frC I1 K := by
    refine ⟨fun x hx => ?_, fun j hj => ?_⟩
    · rw [kd]
      by_cases q : x = 36 ∨ x = 37
      · rw [if_pos q]
      · rw [if_neg q, f4.1 x hx, u_ne (fun e => q (Or.inr e)), u_ne (fun e => q (Or.inl e))]
    · rw [kd, if_neg (by decide), f4.2 j hj, u_ne (by decide), u_ne (by decide)]
  have this := (Inv.lrnC (L' := L) h hc hm hs a1 a2 hL a4 hK hS hG (g1.goC fK) t1 h.2.1.2.2.2.1 h.2.1.2.2.2.2).find hf hf6 v
  have eq : am_u (am_u K 36 3 v) 37 f (K 37 f + 1) = I4 := by
    funext x
    by_cases q1 : x = 37
    · subst q1
      have e37 : K 37 = I1 37 := by rw [kd, if_pos (Or.inr rfl)]
      rw [f4.1 37 (by decide)]
      funext y
      by_cases q2 : y = f
      · subst q2
        rw [u_eq, u_eq, e37]
      · rw [u_nj q2, u_nj q2, u_ne (by decide), u_ne (by decide), e37]
    · rw [u_ne q1]
      by_cases q2 : x = 36
      · subst q2
        have e36 : K 36 = I1 36 := by rw [kd, if_pos (Or.inl rfl)]
        rw [f4.1 36 (by decide), u_ne (a := 37) (by decide)]
        funext y
        by_cases q3 : y = 3
        · subst q3
          rw [u_eq, u_eq]
        · rw [u_nj q3, u_nj q3, e36]
      · rw [u_ne q2, kd, if_neg (fun w => w.elim q2 q1)]
  rw [eq] at this
  exact this
section PF
variable {G : am_G} {l : Launch} {t : am_T} {I : am_I} {L : am_J} {Q : bm_P}
theorem lp_gcdR (fit all g : Nat) (hg : 0 < g) (hg2 : g < 2 ^ 22) (e46 : I 61 46 = nI fit) (e45 : I 61 45 = nI all) (hf : fit < 2 ^ 22) (ha : all < 2 ^ 22) (h : Q (some (.int (nI fit))) t I (am_uJ (am_uJ L 61 1 (nI (fit / g)).toInt64) 61 2 (nI (all / g)).toInt64)) : ∀ (b a : Nat) (y1 y2 : Int32) (d3 : Option Value), y1 = nI a → y2 = nI b → a < 2 ^ 22 → b < 2 ^ 22 → Nat.gcd a b = g → bm_W G l 152 39 [some (.ref 61), some (.int y1), some (.int y2), d3] [] t I L Q := by
  intro b
  induction b using Nat.strongRecOn with
  | ind b ih =>
    intro a y1 y2 d3 e1 e2 la lb hgc
    subst e1 e2
    refine bm_go (am_ok_all 152 (by decide)) 60 ?_
    refine And.intro (fun cd => ?_) (fun cd => ?_)
    · have b0 : b = 0 := by
        rw [nI_toInt (by omega)] at cd
        have cd : (b : Int) = 0 := cd
        omega
      subst b0
      rw [Nat.gcd_zero_right] at hgc
      subst hgc
      have nz : ¬ (nI a).toInt = 0 := by rw [nI_toInt (by omega)]; omega
      have d1 : I 61 46 / nI a = nI (fit / a) := by rw [e46]; exact pk_div (by omega) (by omega) (by omega)
      have d2 : I 61 45 / nI a = nI (all / a) := by rw [e45]; exact pk_div (by omega) (by omega) (by omega)
      rw [← d1, ← d2, ← e46] at h
      exact ⟨nz, nz, h⟩
    · have b0 : b ≠ 0 := fun e => cd (by rw [e]; rfl)
      have ml := Nat.mod_lt a (Nat.pos_of_ne_zero b0)
      have rem : nI a - nI a / nI b * nI b = nI (a % b) := pk_rem (by omega) (by omega) (by omega)
      refine ⟨cd, ?_⟩
      refine ih (a % b) ml b _ _ _ rfl rem lb (by omega) ?_
      rw [Nat.gcd_comm a b, Nat.gcd_rec b a, Nat.gcd_comm] at hgc
      exact hgc
theorem pair_fits (h : Inv t I L) : bm_C G l 38 [.ref 0] t I L (pI G l 152 [.ref 61]) := by
  obtain ⟨T, sh, hc, hm, hs, a1, a2, hL, a4, hK, hS, hO, hG⟩ := h.2.2
  have hT := InvX.ok hG
  have n6 := hT.n6
  have p6 := Nat.pow_le_pow_right (n := 2) (by decide) n6
  have a64 := al_lt hT
  have hG0 := hG
  obtain ⟨m, a, b, m8, e22, e42, a6, hab⟩ := seen_of hS n6
  rcases hG with ⟨hok, hg⟩ | ⟨he, hg⟩
  · have c2 := hok.1.c2
    have c24 := hok.1.c24
    refine bm_go (am_ok_all 38 (by decide)) 60 ?_
    refine And.intro (fun _ => ?_) (fun cd => ?_)
    · refine sp_learn sh hok hc hL hO (fun I1 f1 e1 e3 e4 tb => ?_)
      have g1 := lrn.of f1 e1 e3 e4 tb
      refine sp_demandNothing (fun I2 f2 z2 => ?_)
      have r25 : I2 25 = I1 25 := f2 25 (by decide)
      refine sp_howManyO sh (fun _ => 0) n6 (fun _ => by decide) (by rw [r25]; exact e3) (by rw [r25]; exact e4) (by rw [f2 27 (by decide)]; exact tb.1) (fun k hk => z2 k hk) (fun I3 f3 => ?_)
      have wl := Ws_lt (gap T sh) aw a64
      rw [okD_0]
      have hall := all_Ws (T := T) sh a64
      have hfit := fit_Ws (T := T) sh m a b n6 a64 (fun i hi => ⟨(hab i hi).1, (hab i hi).2.1, (hab i hi).2.2.1⟩)
      have wl2 := Ws_lt (gap T sh) (okD (dmd a b m)) a64
      have g3 := (g1.go (f2.mono (by decide))).go (f3.mono (by decide))
      generalize hA : Ws (gap T sh) aw (al T) = A at *
      generalize hB : Ws (gap T sh) (okD (dmd a b m)) (al T) = B at *
      have tA : (nI A).toInt = (A : Int) := nI_toInt (by omega)
      have rcnt : ∀ (I5 : am_I) (t5 : am_T) (L5 : am_J) (Q5 : bm_P), mT T I5 → I5 61 19 = nI sh → I5 61 42 = nI m → I5 79 = I 79 → I5 80 = I 80 → (∀ I6, frC I5 I6 → I6 61 45 = nI A → I6 61 46 = nI B → Q5 none t5 I6 L5) → bm_C G l 151 [.ref 61, .int 0, .int 0] t5 I5 L5 Q5 := by
        intro I5 t5 L5 Q5 q1 q2 q3 q4 q5 q6
        refine sm_counts sh m 0 0 a b hok q1 q2 (by omega) m8 q3 (fun i hi => ?_) rfl rfl (Or.inl ⟨rfl, rfl⟩) (fun I6 f6 c1 c2 _ => q6 I6 f6 (by rw [c1, hall]) (by rw [c2, hfit]))
        rw [q4, q5]
        exact ⟨(hab i hi).1, (hab i hi).2.1, (hab i hi).2.2.2.2.1, (hab i hi).2.2.2.2.2.2⟩
      refine And.intro (fun cd => ?_) (fun cd => ?_)
      · have A0 : A ≠ 0 := fun e => cd (by rw [e]; rfl)
        have z3 : ∀ k, k < 8 → I3 32 k = nI 0 := fun k hk => by rw [f3 32 (by decide)]; exact z2 k hk
        have r22 : ∀ x, x ∉ exOA → I3 x = I x := fun x hx => g3.1 x hx
        refine sp_demandOf m a b m8 (by rw [r22 22 (by decide)]; exact e22) (fun i hi => ⟨a6 i, by have := (hab i hi).2.1; omega, by rw [r22 23 (by decide)]; exact (hab i hi).2.2.2.1, by rw [r22 24 (by decide)]; exact (hab i hi).2.2.2.2.2.1⟩) z3 (fun I4 f4 z4 => ?_)
        have g4 := g3.go (f4.mono (by decide))
        refine sp_howManyO sh (dmd a b m) n6 (fun k => dmd_lt a6 m k) g4.2.2.1 g4.2.2.2.1 g4.2.2.2.2.1 z4 (fun I5 f5 => ?_)
        rw [hB]
        have g5 := g4.go (f5.mono (by decide))
        refine sp_fraction B A rfl rfl (by omega) (by omega) ?_
        refine ⟨_, rfl, ?_⟩
        have hm5 := g5.hm hm
        refine bm_go (am_ok_all 152 (by decide)) 60 ?_
        refine And.intro (fun _ => ?_) (fun cd => ?_)
        · refine rcnt I5 _ _ _ hm5 (g5.a2 a2) (by rw [g5.1 61 (by decide)]; exact e42) (g5.1 79 (by decide)) (g5.1 80 (by decide)) (fun I6 f6 c1 c2 => ?_)
          refine And.intro (fun _ => ?_) (fun cd => ?_)
          · have gp : 0 < Nat.gcd A B := Nat.gcd_pos_of_pos_left B (by omega)
            have gl := gcd_le (a := A) (b := B) (by omega) (by omega)
            refine lp_gcdR B A (Nat.gcd A B) gp gl c2 c1 (by omega) (by omega) ?_ B A _ _ _ c1 c2 (by omega) (by omega) rfl
            refine ⟨rfl, ?_⟩
            refine Inv.lrnC h hc hm hs a1 a2 hL a4 hK hS hG0 (g5.goC f6) t.1 ?_ ?_
            · show (nI (B / max 1 (Nat.gcd B A))).toInt64 = (nI (B / Nat.gcd A B)).toInt64
              rw [Nat.gcd_comm B A, Nat.max_eq_right (by omega)]
            · show (nI (A / max 1 (Nat.gcd B A))).toInt64 = (nI (A / Nat.gcd A B)).toInt64
              rw [Nat.gcd_comm B A, Nat.max_eq_right (by omega)]
          · rw [c1] at cd
            exact absurd (by rw [tA] at cd; exact Int.ofNat.inj cd) A0
        · rw [hm5.2.2.1, nI_toInt (by omega)] at cd
          exact absurd cd (by show ¬ ((tC T : Int) = 0); omega)
      · have A0 : A = 0 := by
          rw [tA] at cd
          have cd : (A : Int) = 0 := cd
          omega
        refine sp_found 4 rfl (by decide) ?_
        refine ⟨_, rfl, ?_⟩
        generalize hJ : am_u (am_u I3 36 3 4) 37 4 (I3 37 4 + 1) = J
        have fJ : frN [36, 37] I3 J := by rw [← hJ]; exact ((frN.refl _ _).u (by decide)).u (by decide)
        have hm3 := g3.hm hm
        have hmJ : mT T J := hm3.frN fJ (by decide) (by decide) (by decide) (by decide)
        refine bm_go (am_ok_all 152 (by decide)) 60 ?_
        refine And.intro (fun _ => ?_) (fun cd => ?_)
        · refine rcnt J _ _ _ hmJ (by rw [fJ 61 (by decide)]; exact g3.a2 a2) (by rw [fJ 61 (by decide), g3.1 61 (by decide)]; exact e42) (by rw [fJ 79 (by decide), g3.1 79 (by decide)]) (by rw [fJ 80 (by decide), g3.1 80 (by decide)]) (fun I6 f6 c1 c2 => ?_)
          refine And.intro (fun cd => ?_) (fun _ => ?_)
          · rw [c1, A0] at cd
            exact absurd rfl cd
          · refine sm_finds 4 rfl (by decide) ?_
            refine ⟨rfl, ?_⟩
            rw [← hJ] at f6
            exact lrn.foundC h (by decide) (by decide) hc hm hs a1 a2 hL a4 hK hS hG0 g3 f6 t.1
        · rw [hmJ.2.2.1, nI_toInt (by omega)] at cd
          exact absurd cd (by show ¬ ((tC T : Int) = 0); omega)
    · rw [hc.2.1, nI_toInt (by omega)] at cd
      exact absurd cd (by show ¬ ((tC T : Int) = 0); omega)
  · refine bm_go (am_ok_all 38 (by decide)) 60 ?_
    refine And.intro (fun cd => ?_) (fun _ => ?_)
    · rw [hc.2.1, he.c0] at cd
      exact absurd rfl cd
    · refine ⟨_, rfl, ?_⟩
      refine bm_go (am_ok_all 152 (by decide)) 60 ?_
      refine And.intro (fun cd => ?_) (fun _ => ⟨rfl, h⟩)
      rw [hm.2.2.1, he.c0] at cd
      exact absurd rfl cd
end PF

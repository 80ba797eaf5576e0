/-! pairs: dark, bright -/
/-- what holds behind the class's call, and while the reference goes on -/
def lrn (T : tT) (sh : Nat) (I I' : am_I) : Prop := frN exOA I I' ∧ I' 25 1 = 0 ∧ I' 25 3 = nI (tN T) ∧ I' 25 4 = nI (al T) ∧ tabs T sh I'
theorem lrn.go {T : tT} {sh : Nat} {I I' I'' : am_I} (h : lrn T sh I I') (f : frN [31, 32, 33, 74, 75, 76, 77, 78] I' I'') : lrn T sh I I'' := by
  obtain ⟨h1, h2, h3, h4, h5⟩ := h
  refine ⟨h1.trans (f.mono (by decide)), by rw [f 25 (by decide)]; exact h2, by rw [f 25 (by decide)]; exact h3, by rw [f 25 (by decide)]; exact h4, ?_⟩
  unfold tabs at h5 ⊢
  rw [f 27 (by decide), f 28 (by decide), f 29 (by decide), f 30 (by decide)]
  exact h5
theorem lrn.hm {T : tT} {sh : Nat} {I I' : am_I} (h : lrn T sh I I') (hm : mT T I) : mT T I' := hm.frN h.1 (by decide) (by decide) (by decide) (by decide)
theorem lrn.a2 {T : tT} {sh : Nat} {I I' : am_I} (h : lrn T sh I I') (hm : I 61 19 = nI sh) : I' 61 19 = nI sh := by rw [h.1 61 (by decide)]; exact hm
/-- all that holds, when both have told the same -/
theorem Inv.lrnT {t : am_T} {I I' : am_I} {L : am_J} (h : Inv t I L) {T : tT} {sh : Nat} (hc : cT T I) (hm : mT T I) (hs : sh < 2 ^ tN T) (a1 : I 0 14 = nI sh) (a2 : I 61 19 = nI sh) (hL : cL T sh 13 I) (a4 : I 15 0 = nI 0) (hK : InvK T I) (hS : InvS T I) (hG : (tOk T ∧ InvG T I) ∨ (tE T ∧ InvE I)) (g : lrn T sh I I') (t1 : Option Nat) : Inv (t1, some 7, some 12) I' L :=
  Inv.ord (h.1.frN g.1 exOA_r) (h.2.1.frN g.1 (by decide) (by decide) (by decide) (by decide)) hc hm hs a1 a2 hL a4 hK hS hG (g.1.ago exOA_g (by decide) (by decide)) (Or.inr ⟨g.2.1, rfl, g.2.2.1, g.2.2.2.1, g.2.2.2.2⟩)
theorem lrn.of {T : tT} {sh : Nat} {I I' : am_I} (f : frN exL I I') (e1 : I' 25 1 = 0) (e3 : I' 25 3 = nI (tN T)) (e4 : I' 25 4 = nI (al T)) (tb : tabs T sh I') : lrn T sh I I' := ⟨f.mono (by decide), e1, e3, e4, tb⟩
theorem eM_n {a : Option Nat} (h : ob a) : (eM a).toInt = -9 ↔ a = none := by
  rw [eM_i h]
  cases a with
  | none => exact ⟨fun _ => rfl, fun _ => rfl⟩
  | some v =>
    constructor
    · intro e
      have e : (v : Int) = -9 := e
      omega
    · intro e; cases e
/-- both have told the same -/
theorem lrn.told {t : am_T} {I I1 I4 : am_I} {L : am_J} (h : Inv t I L) {T : tT} {sh : Nat} {v : Int32} (hc : cT T I) (hm : mT T I) (hs : sh < 2 ^ tN T) (a1 : I 0 14 = nI sh) (a2 : I 61 19 = nI sh) (hL : cL T sh 13 I) (a4 : I 15 0 = nI 0) (hK : InvK T I) (hS : InvS T I) (hG : (tOk T ∧ InvG T I) ∨ (tE T ∧ InvE I)) (g1 : lrn T sh I I1) (f4 : frN [31, 32, 33, 74, 75, 76, 77, 78] (am_u I1 36 0 v) I4) (t1 : Option Nat) : Inv (t1, some 7, some 12) (am_u I4 61 0 v) L := by
  have f4' : frN [31, 32, 33, 74, 75, 76, 77, 78] I1 (fun x y => if x = 36 then I1 36 y else I4 x y) := by
    intro x hx
    funext y
    by_cases e : x = 36
    · show (if x = 36 then I1 36 y else I4 x y) = _
      rw [if_pos e, e]
    · show (if x = 36 then I1 36 y else I4 x y) = _
      rw [if_neg e, f4 x hx, u_ne e]
  have this := (Inv.lrnT h hc hm hs a1 a2 hL a4 hK hS hG (g1.go f4') t1).tell v
  have eq : am_u (am_u (fun x y => if x = 36 then I1 36 y else I4 x y) 36 0 v) 61 0 v = am_u I4 61 0 v := by
    congr 1
    funext x y
    unfold am_u
    by_cases e : x = 36
    · subst e
      by_cases e2 : y = 0
      · subst e2
        rw [if_pos ⟨rfl, rfl⟩, f4 36 (by decide), u_eq]
      · rw [if_neg (fun w => e2 w.2)]
        show (if 36 = 36 then I1 36 y else I4 36 y) = _
        rw [if_pos rfl, f4 36 (by decide), u_nj e2]
    · rw [if_neg (fun w => e w.1)]
      show (if x = 36 then I1 36 y else I4 x y) = _
      rw [if_neg e]
  rw [eq] at this
  exact this
section PD
variable {G : am_G} {l : Launch} {t : am_T} {I : am_I} {L : am_J} {Q : bm_P}
theorem n_dec {i : Nat} : nI (i + 1) + (-1) = nI i := by rw [dec1 (by omega)]; rfl
theorem pair_dark (h : Inv t I L) : bm_C G l 31 [.ref 0] t I L (pI G l 142 [.ref 61]) := by
  obtain ⟨T, sh, hc, hm, hs, a1, a2, hL, a4, hK, hS, hO, hG⟩ := h.2.2
  have hT := InvX.ok hG
  have n6 := hT.n6
  have p := Nat.two_pow_pos (tN T)
  have p6 := Nat.pow_le_pow_right (n := 2) (by decide) n6
  have a64 := al_lt hT
  have hG0 := hG
  rcases hG with ⟨hok, hg⟩ | ⟨he, hg⟩
  · have c2 := hok.1.c2
    have c24 := hok.1.c24
    refine bm_go (am_ok_all 31 (by decide)) 60 ?_
    refine And.intro (fun _ => ?_) (fun cd => ?_)
    · refine sp_learn sh hok hc hL hO (fun I1 f1 e1 e3 e4 tb => ?_)
      have g1 := lrn.of f1 e1 e3 e4 tb
      refine sp_fewestDark sh n6 e4 tb.2.2.2 (fun b hb => ?_)
      refine sp_bitCount b rfl (by have := hb.1; omega) ?_
      refine sp_besides ?_
      refine ⟨_, rfl, ?_⟩
      generalize hI0 : am_u I1 36 0 (nI b) = J
      have fJ : frN [36] I1 J := by rw [← hI0]; exact (frN.refl _ _).u (by decide)
      have m1 := g1.hm hm
      have hmJ : mT T J := m1.frN fJ (by decide) (by decide) (by decide) (by decide)
      have a2J : J 61 19 = nI sh := by rw [fJ 61 (by decide)]; exact g1.a2 a2
      refine bm_go (am_ok_all 142 (by decide)) 60 ?_
      refine And.intro (fun _ => ?_) (fun cd => ?_)
      · refine sm_every hT hmJ ?_
        refine sm_goes sh (tD T) 0 (al T) hok hmJ a2J (by omega) hmJ.2.2.2.2.1 rfl rfl hok.2.1 (by omega) (by decide) (fun I4 f4 g4 => ?_)
        rw [gr_gap sh n6] at g4
        have hm4 : mT T I4 := hmJ.frN f4 (by decide) (by decide) (by decide) (by decide)
        refine sm_every hT hm4 ?_
        refine sm_every hT hm4 ?_
        have lp : ∀ i x y d3 b', x = nI b' → y = nI i - 1 → i ≤ al T + 1 → b' ≤ al T → Fm (gap T sh) (al T - b') ≠ none → (∀ j, i ≤ j → j ≤ al T → Fm (gap T sh) (al T - j) ≠ none → pc b' < pc j ∨ (pc b' = pc j ∧ b' ≤ j)) → bm_W G l 142 33 [some (.ref 61), some (.int x), some (.int y), d3] [] (t.1, some 7, some 12) I4 L (fun v' t I L => v' = some (.int (nI (pc b))) ∧ Inv t I L) := by
          intro i
          induction i with
          | zero =>
            intro x y d3 b' ex ey hi hb' hf' hmin
            subst ex ey
            refine bm_go (am_ok_all 142 (by decide)) 60 ?_
            first | refine And.intro (fun cd => absurd cd (by decide)) (fun _ => ?_) | refine And.intro (fun _ => ?_) (fun cd => absurd cd (by decide)) | refine And.intro (fun cd => ?_) (fun cd => ?_)
            have eb : b' = b := mnm_u (p := fun s => Fm (gap T sh) (al T - s) ≠ none) ⟨hb', hf', fun j hj hp => hmin j (Nat.zero_le _) hj hp⟩ hb
            subst eb
            refine sm_size b' rfl (by omega) ?_
            refine sm_tells ?_
            refine ⟨rfl, ?_⟩
            refine lrn.told h hc hm hs a1 a2 hL a4 hK hS hG0 g1 ?_ t.1
            rw [hI0]
            exact f4.mono (by decide)
          | succ i ih =>
            intro x y d3 b' ex ey hi hb' hf' hmin
            have ey : y = nI i := by rw [ey, k1, pk_sub (by omega)]; rfl
            subst ex ey
            have ai : nI (al T) &&& (nI i ^^^ (-1)) = nI (al T - i) := by
              rw [km1, n_cm, n_and]
              have := al_sub (tN T) (by omega) i (by omega) (by unfold al at hi; omega)
              unfold al
              rw [this]
            have ob := Fm_ob (g := gap T sh) (fun _ _ _ _ e => gap_lt e) (s := al T - i) (by omega)
            have pi := pc_le i
            have pb := pc_le b'
            refine bm_go (am_ok_all 142 (by decide)) 60 ?_
            refine And.intro (fun cd => ?_) (fun _ => ?_)
            · rw [nI_toInt (by omega)] at cd
              exact absurd cd (by show ¬ ((i : Int) < 0); omega)
            refine sm_size i rfl (by omega) ?_
            refine sm_size b' rfl (by omega) ?_
            refine And.intro (fun cd => ?_) (fun cd => ?_)
            · rw [nI_toInt (by omega), nI_toInt (by omega)] at cd
              first | refine And.intro (fun cd => absurd cd (by decide)) (fun _ => ?_) | refine And.intro (fun _ => ?_) (fun cd => absurd cd (by decide)) | refine And.intro (fun cd => ?_) (fun cd => ?_)
              refine ih _ _ _ b' rfl (Int32.sub_eq_add_neg (nI i) 1).symm (by omega) hb' hf' (fun j h1 h2 h3 => ?_)
              by_cases w : j = i
              · subst w; omega
              · exact hmin j (by omega) h2 h3
            · rw [nI_toInt (by omega), nI_toInt (by omega)] at cd
              refine sm_every hT hm4 ?_
              refine sm_fewestOf (al T - i) (gap T sh) (fun _ _ _ _ e => gap_lt e) n6 hm4.2.2.2.1 ai (by omega) (fun l hl => (g4 (al T - i) l (by omega) hl).1) ?_
              refine And.intro (fun c2 => ?_) (fun c2 => ?_)
              · have e := (eM_n ob).mp c2
                first | refine And.intro (fun cd => absurd cd (by decide)) (fun _ => ?_) | refine And.intro (fun _ => ?_) (fun cd => absurd cd (by decide)) | refine And.intro (fun cd => ?_) (fun cd => ?_)
                refine ih _ _ _ b' rfl (Int32.sub_eq_add_neg (nI i) 1).symm (by omega) hb' hf' (fun j h1 h2 h3 => ?_)
                by_cases w : j = i
                · subst w; exact absurd e h3
                · exact hmin j (by omega) h2 h3
              · have e : Fm (gap T sh) (al T - i) ≠ none := fun e => c2 ((eM_n ob).mpr e)
                first | refine And.intro (fun cd => absurd cd (by decide)) (fun _ => ?_) | refine And.intro (fun _ => ?_) (fun cd => absurd cd (by decide)) | refine And.intro (fun cd => ?_) (fun cd => ?_)
                refine ih _ _ _ i rfl (Int32.sub_eq_add_neg (nI i) 1).symm (by omega) (by omega) e (fun j h1 h2 h3 => ?_)
                by_cases w : j = i
                · subst w; exact Or.inr ⟨rfl, Nat.le_refl _⟩
                · have := hmin j (by omega) h2 h3
                  omega
        refine lp (al T + 1) _ _ _ (al T) rfl ?_ (Nat.le_refl _) (Nat.le_refl _) ?_ (fun j h1 h2 _ => by omega)
        · rw [k1, pk_sub (by omega)]
          rfl
        · rw [Nat.sub_self, Fm_0]
          intro e
          cases e
      · rw [hmJ.2.2.1, nI_toInt (by omega)] at cd
        exact absurd cd (by show ¬ ((tC T : Int) = 0); omega)
    · rw [hc.2.1, nI_toInt (by omega)] at cd
      exact absurd cd (by show ¬ ((tC T : Int) = 0); omega)
  · refine bm_go (am_ok_all 31 (by decide)) 60 ?_
    refine And.intro (fun cd => ?_) (fun _ => ?_)
    · rw [hc.2.1, he.c0] at cd
      exact absurd rfl cd
    · refine ⟨_, rfl, ?_⟩
      refine bm_go (am_ok_all 142 (by decide)) 60 ?_
      refine And.intro (fun cd => ?_) (fun _ => ⟨rfl, h⟩)
      rw [hm.2.2.1, he.c0] at cd
      exact absurd rfl cd
end PD
section PD
variable {G : am_G} {l : Launch} {t : am_T} {I : am_I} {L : am_J} {Q : bm_P}
theorem pair_bright (h : Inv t I L) : bm_C G l 32 [.ref 0] t I L (pI G l 143 [.ref 61]) := by
  obtain ⟨T, sh, hc, hm, hs, a1, a2, hL, a4, hK, hS, hO, hG⟩ := h.2.2
  have hT := InvX.ok hG
  have n6 := hT.n6
  have p := Nat.two_pow_pos (tN T)
  have p6 := Nat.pow_le_pow_right (n := 2) (by decide) n6
  have a64 := al_lt hT
  have hG0 := hG
  rcases hG with ⟨hok, hg⟩ | ⟨he, hg⟩
  · have c2 := hok.1.c2
    have c24 := hok.1.c24
    have hf0 : pc (lit T sh 0) = 0 := by rw [lit_0]; exact pc_0
    have hP : ∀ i v, brP T sh i = some v → v = pc (lit T sh i) := fun i v e => by
      unfold brP at e
      split at e
      · cases e
      · exact (Option.some.inj e).symm
    have bl := brt_le (brP T sh) (al T + 1)
    have bl2 : (brt (brP T sh) (al T + 1)).1 < 64 := by
      by_cases q : al T < 63
      · omega
      · have st : ∀ i, (brt (brP T sh) (i + 1)).1 ≤ i := by
          intro i
          have := brt_le (brP T sh) i
          unfold brt
          split
          · exact this
          · split
            · exact Nat.le_refl _
            · exact this
        have := st (al T)
        omega
    refine bm_go (am_ok_all 32 (by decide)) 60 ?_
    refine And.intro (fun _ => ?_) (fun cd => ?_)
    · refine sp_learn sh hok hc hL hO (fun I1 f1 e1 e3 e4 tb => ?_)
      have g1 := lrn.of f1 e1 e3 e4 tb
      have hL1 : cL T sh 13 I1 := by unfold cL at hL ⊢; rw [f1 13 (by decide)]; exact hL
      refine sp_brightest sh n6 hok e4 rfl hL1 tb.2.2.2 ?_
      refine sp_of 12 (Or.inl rfl) _ rfl bl2 ?_
      refine sp_bitCount (lit T sh (brt (brP T sh) (al T + 1)).1) (hL1 _ bl2) (w24 (lit_24 hT sh _)) ?_
      refine sp_besides ?_
      refine ⟨_, rfl, ?_⟩
      generalize hI0 : am_u I1 36 0 (nI (brt (brP T sh) (al T + 1)).1) = J
      have fJ : frN [36] I1 J := by rw [← hI0]; exact (frN.refl _ _).u (by decide)
      have m1 := g1.hm hm
      have hmJ : mT T J := m1.frN fJ (by decide) (by decide) (by decide) (by decide)
      have a2J : J 61 19 = nI sh := by rw [fJ 61 (by decide)]; exact g1.a2 a2
      refine bm_go (am_ok_all 143 (by decide)) 60 ?_
      refine And.intro (fun _ => ?_) (fun cd => ?_)
      · refine sm_every hT hmJ ?_
        refine sm_goes sh (tD T) 0 (al T) hok hmJ a2J (by omega) hmJ.2.2.2.2.1 rfl rfl hok.2.1 (by omega) (by decide) (fun I4 f4 g4 => ?_)
        rw [gr_gap sh n6] at g4
        have hm4 : mT T I4 := hmJ.frN f4 (by decide) (by decide) (by decide) (by decide)
        have a24 : I4 61 19 = nI sh := by rw [f4 61 (by decide)]; exact a2J
        have lp : ∀ d i x z y d4 d5, al T + 1 - i = d → i ≤ al T + 1 → x = nI (brt (brP T sh) i).1 → z = nI (brt (brP T sh) i).2 → y = nI i → 1 ≤ i → bm_W G l 143 29 [some (.ref 61), some (.int x), some (.int z), some (.int y), d4, d5] [] (t.1, some 7, some 12) I4 L (fun v' t I L => v' = some (.int (nI (pc (lit T sh (brt (brP T sh) (al T + 1)).1)))) ∧ Inv t I L) := by
          intro d
          induction d with
          | zero =>
            intro i x z y d4 d5 hd hi ex ez ey h1
            obtain rfl : i = al T + 1 := by omega
            subst ex ez ey
            refine bm_go (am_ok_all 143 (by decide)) 60 ?_
            refine sm_every hT hm4 ?_
            refine And.intro (fun _ => ?_) (fun cd => ?_)
            · refine sm_tells ?_
              refine ⟨by rw [brt_v (f := fun i => pc (lit T sh i)) hf0 hP], ?_⟩
              refine lrn.told h hc hm hs a1 a2 hL a4 hK hS hG0 g1 ?_ t.1
              rw [hI0]
              exact f4.mono (by decide)
            · rw [nI_toInt (by omega), nI_toInt (by omega)] at cd
              omega
          | succ d ih =>
            intro i x z y d4 d5 hd hi ex ez ey h1
            subst ex ez ey
            have ob := Fm_ob (g := gap T sh) (fun _ _ _ _ e => gap_lt e) (s := i) (by omega)
            have bl := brt_le (brP T sh) i
            have bv : (brt (brP T sh) i).2 = pc (lit T sh (brt (brP T sh) i).1) := brt_v (f := fun i => pc (lit T sh i)) hf0 hP i
            have bv2 := pc_le (lit T sh (brt (brP T sh) i).1)
            have st : brt (brP T sh) (i + 1) = match brP T sh i with
              | none => brt (brP T sh) i
              | some v => if (brt (brP T sh) i).2 < v ∨ (v = (brt (brP T sh) i).2 ∧ pc i < pc (brt (brP T sh) i).1) then (i, v) else brt (brP T sh) i := rfl
            generalize hB : brt (brP T sh) i = B at *
            have te : (nI B.2).toInt = (B.2 : Int) := nI_toInt (by omega)
            have same : brt (brP T sh) (i + 1) = B → ∀ d4 d5, bm_W G l 143 29 [some (.ref 61), some (.int (nI B.1)), some (.int (nI B.2)), some (.int (nI i + 1)), d4, d5] [] (t.1, some 7, some 12) I4 L (fun v' t I L => v' = some (.int (nI (pc (lit T sh (brt (brP T sh) (al T + 1)).1)))) ∧ Inv t I L) := fun e d4 d5 => ih (i + 1) _ _ _ d4 d5 (by omega) (by omega) (by rw [e]) (by rw [e]) (nI_succ i).symm (by omega)
            refine bm_go (am_ok_all 143 (by decide)) 90 ?_
            refine sm_every hT hm4 ?_
            refine And.intro (fun cd => ?_) (fun _ => ?_)
            · rw [nI_toInt (by omega), nI_toInt (by omega)] at cd
              omega
            refine sm_fewestOf i (gap T sh) (fun _ _ _ _ e => gap_lt e) n6 hm4.2.2.2.1 rfl (by omega) (fun l hl => (g4 i l (by omega) hl).1) ?_
            refine And.intro (fun cd => ?_) (fun cd => ?_)
            · have e : Fm (gap T sh) i ≠ none := fun e => cd ((eM_n ob).mpr e)
              have eP : brP T sh i = some (pc (lit T sh i)) := if_neg e
              rw [eP] at st
              have pl := pc_le (lit T sh i)
              have tv : (nI (pc (lit T sh i))).toInt = (pc (lit T sh i) : Int) := nI_toInt (by omega)
              have new : brt (brP T sh) (i + 1) = (i, pc (lit T sh i)) → ∀ d4 d5, bm_W G l 143 29 [some (.ref 61), some (.int (nI i)), some (.int (nI (pc (lit T sh i)))), some (.int (nI i + 1)), d4, d5] [] (t.1, some 7, some 12) I4 L (fun v' t I L => v' = some (.int (nI (pc (lit T sh (brt (brP T sh) (al T + 1)).1)))) ∧ Inv t I L) := fun e d4 d5 => ih (i + 1) _ _ _ d4 d5 (by omega) (by omega) (by rw [e]) (by rw [e]) (nI_succ i).symm (by omega)
              refine sm_lightOf sh i rfl (by omega) hT hm4 a24 (by omega) ?_
              refine sm_size (lit T sh i) rfl (Nat.lt_trans (lit_24 hT sh i) (by decide)) ?_
              refine And.intro (fun c2 => ?_) (fun c2 => ?_)
              · rw [te, tv] at c2
                first | refine And.intro (fun cd => absurd cd (by decide)) (fun _ => ?_) | refine And.intro (fun _ => ?_) (fun cd => absurd cd (by decide)) | refine And.intro (fun cd => ?_) (fun cd => ?_)
                first | refine And.intro (fun cd => absurd cd (by decide)) (fun _ => ?_) | refine And.intro (fun _ => ?_) (fun cd => absurd cd (by decide)) | refine And.intro (fun cd => ?_) (fun cd => ?_)
                exact new (by rw [st]; exact if_pos (Or.inl (by omega))) _ _
              · rw [te, tv] at c2
                refine And.intro (fun c3 => ?_) (fun c3 => ?_)
                · rw [te, tv] at c3
                  first | refine And.intro (fun cd => absurd cd (by decide)) (fun _ => ?_) | refine And.intro (fun _ => ?_) (fun cd => absurd cd (by decide)) | refine And.intro (fun cd => ?_) (fun cd => ?_)
                  first | refine And.intro (fun cd => absurd cd (by decide)) (fun _ => ?_) | refine And.intro (fun _ => ?_) (fun cd => absurd cd (by decide)) | refine And.intro (fun cd => ?_) (fun cd => ?_)
                  exact same (by rw [st]; exact if_neg (fun w => by omega)) _ _
                · rw [te, tv] at c3
                  refine sm_size i rfl (by omega) ?_
                  refine sm_size B.1 rfl (by omega) ?_
                  have pi := pc_le i
                  have pb := pc_le B.1
                  refine And.intro (fun c4 => ?_) (fun c4 => ?_)
                  · rw [nI_toInt (by omega), nI_toInt (by omega)] at c4
                    first | refine And.intro (fun cd => absurd cd (by decide)) (fun _ => ?_) | refine And.intro (fun _ => ?_) (fun cd => absurd cd (by decide)) | refine And.intro (fun cd => ?_) (fun cd => ?_)
                    first | refine And.intro (fun cd => absurd cd (by decide)) (fun _ => ?_) | refine And.intro (fun _ => ?_) (fun cd => absurd cd (by decide)) | refine And.intro (fun cd => ?_) (fun cd => ?_)
                    exact same (by rw [st]; exact if_neg (fun w => by omega)) _ _
                  · rw [nI_toInt (by omega), nI_toInt (by omega)] at c4
                    first | refine And.intro (fun cd => absurd cd (by decide)) (fun _ => ?_) | refine And.intro (fun _ => ?_) (fun cd => absurd cd (by decide)) | refine And.intro (fun cd => ?_) (fun cd => ?_)
                    first | refine And.intro (fun cd => absurd cd (by decide)) (fun _ => ?_) | refine And.intro (fun _ => ?_) (fun cd => absurd cd (by decide)) | refine And.intro (fun cd => ?_) (fun cd => ?_)
                    exact new (by rw [st]; exact if_pos (Or.inr ⟨by omega, by omega⟩)) _ _
            · have e := (eM_n ob).mp cd
              have eP : brP T sh i = none := if_pos e
              rw [eP] at st
              refine And.intro (fun c2 => ?_) (fun c2 => ?_)
              · rw [te] at c2
                exact absurd c2 (by show ¬ ((B.2 : Int) < -1); omega)
              · refine And.intro (fun _ => ?_) (fun c3 => ?_)
                · first | refine And.intro (fun cd => absurd cd (by decide)) (fun _ => ?_) | refine And.intro (fun _ => ?_) (fun cd => absurd cd (by decide)) | refine And.intro (fun cd => ?_) (fun cd => ?_)
                  first | refine And.intro (fun cd => absurd cd (by decide)) (fun _ => ?_) | refine And.intro (fun _ => ?_) (fun cd => absurd cd (by decide)) | refine And.intro (fun cd => ?_) (fun cd => ?_)
                  exact same st _ _
                · rw [te] at c3
                  exact absurd c3 (by show ¬ ((-1 : Int) = (B.2 : Int)); omega)
        refine lp _ 1 _ _ _ _ _ rfl (by omega) ?_ ?_ rfl (Nat.le_refl _)
        all_goals
          have e0 : brt (brP T sh) 1 = (0, 0) := by
            have st : brt (brP T sh) 1 = match brP T sh 0 with
              | none => (0, 0)
              | some v => if 0 < v ∨ (v = 0 ∧ pc 0 < pc 0) then (0, v) else (0, 0) := rfl
            rw [st]
            cases e : brP T sh 0 with
            | none => rfl
            | some v =>
              have := hP 0 v e
              rw [hf0] at this
              subst this
              exact if_neg (by omega)
          rw [e0]
          rfl
      · rw [hmJ.2.2.1, nI_toInt (by omega)] at cd
        exact absurd cd (by show ¬ ((tC T : Int) = 0); omega)
    · rw [hc.2.1, nI_toInt (by omega)] at cd
      exact absurd cd (by show ¬ ((tC T : Int) = 0); omega)
  · refine bm_go (am_ok_all 32 (by decide)) 60 ?_
    refine And.intro (fun cd => ?_) (fun _ => ?_)
    · rw [hc.2.1, he.c0] at cd
      exact absurd rfl cd
    · refine ⟨_, rfl, ?_⟩
      refine bm_go (am_ok_all 143 (by decide)) 60 ?_
      refine And.intro (fun cd => ?_) (fun _ => ⟨rfl, h⟩)
      rw [hm.2.2.1, he.c0] at cd
      exact absurd rfl cd
end PD

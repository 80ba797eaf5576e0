/-! pair: two -/
section PT
variable {G : am_G} {l : Launch} {t : am_T} {I : am_I} {L : am_J} {Q : bm_P}
def eB (o : Option (Nat × Nat)) : Int32 := match o with
  | none => -9
  | some w => nI w.2
def eL (o : Option (Nat × Nat)) : Int32 := match o with
  | none => 0
  | some w => nI w.1
theorem sm_two {T : tT} {x : Int32} (sh c : Nat) (hok : tOk T) (hm : mT T I) (a2 : I 61 19 = nI sh) (hsh : sh < 2 ^ 31) (hx : x = nI c) (hc : c < tC T) (hcS : (tS T).testBit c = true) (h0 : twS (totS T sh c) (al T + 1) = none → ∀ I', frN [74, 75, 78] I I' → Q (some (.int (-9))) t I' L) (h1 : ∀ w, twS (totS T sh c) (al T + 1) = some w → ∀ I', frN [74, 75, 78] I I' → Q (some (.int (nI w.1))) t (am_u I' 61 0 (nI w.2)) L) : bm_C G l 145 [.ref 61, .int x] t I L Q := by
  subst hx
  have hT : tOK T := Or.inl hok
  have n6 := hT.n6
  have p := Nat.two_pow_pos (tN T)
  have p6 := Nat.pow_le_pow_right (n := 2) (by decide) n6
  have a64 := al_lt hT
  have c24 := hok.1.c24
  have s24 := hok.1.s24
  have tc : (nI c).toInt = (c : Int) := nI_toInt (by omega)
  have obFm : ∀ s, s < 64 → ob (Fm (gap T sh) s) := fun s hs => Fm_ob (fun _ _ _ _ e => gap_lt e) hs
  have obS : ∀ s, ob (secS T sh c s) := fun s v e => by have := secS_lt a64 e; omega
  have main : ∀ d i y2 y3 y4 d5 d6 d7 d8 (I1 : am_I), al T + 1 - i = d → i ≤ al T + 1 → y2 = eB (twS (totS T sh c) i) → y3 = eL (twS (totS T sh c) i) → y4 = nI i → frN [74, 75, 78] I I1 → (∀ s, s ≤ al T → I1 78 s = eM (Fm (gap T sh) s)) → bm_W G l 145 69 [some (.ref 61), some (.int (nI c)), some (.int y2), some (.int y3), some (.int y4), d5, d6, d7, d8] [] t I1 L Q := by
    intro d
    induction d with
    | zero =>
      intro i y2 y3 y4 d5 d6 d7 d8 I1 hd hi e2 e3 e4 f1 z1
      obtain rfl : i = al T + 1 := by omega
      subst e2 e3 e4
      have hm1 : mT T I1 := hm.frN f1 (by decide) (by decide) (by decide) (by decide)
      refine bm_go (am_ok_all 145 (by decide)) 60 ?_
      refine sm_every hT hm1 ?_
      refine And.intro (fun _ => ?_) (fun cd => ?_)
      · cases eW : twS (totS T sh c) (al T + 1) with
        | none =>
          refine And.intro (fun cd => absurd rfl cd) (fun _ => ?_)
          exact h0 eW I1 f1
        | some w =>
          have wl := (twS_le _ _ w eW).1
          have tw : (nI w.2).toInt = (w.2 : Int) := nI_toInt (by omega)
          refine And.intro (fun _ => ?_) (fun cd => ?_)
          · refine sm_tells ?_
            exact h1 w eW I1 f1
          · have cd : (nI w.2).toInt = (-9 : Int) := cd
            rw [tw] at cd
            omega
      · rw [nI_toInt (by omega), nI_toInt (by omega)] at cd
        omega
    | succ d ih =>
      intro i y2 y3 y4 d5 d6 d7 d8 I1 hd hi e2 e3 e4 f1 z1
      subst e2 e3 e4
      have hm1 : mT T I1 := hm.frN f1 (by decide) (by decide) (by decide) (by decide)
      have a21 : I1 61 19 = nI sh := by rw [f1 61 (by decide)]; exact a2
      have zi := z1 i (by omega)
      have ti : (nI i).toInt = (i : Int) := nI_toInt (by omega)
      have st : twS (totS T sh c) (i + 1) = match totS T sh c i with
        | none => twS (totS T sh c) i
        | some v => match twS (totS T sh c) i with
          | none => some (v, i)
          | some w => if v < w.1 ∨ (v = w.1 ∧ pc i < pc w.2) then some (v, i) else some w := rfl
      have wl := twS_le (totS T sh c) i
      have tl : ∀ j v, j < 64 → totS T sh c j = some v → v < 10000 := fun j v hj e => totS_lt a64 hj e
      generalize hW : twS (totS T sh c) i = W at *
      have same : ∀ I2 d5 d6 d7 d8, totS T sh c i = none ∨ (∃ v w, totS T sh c i = some v ∧ W = some w ∧ ¬ (v < w.1 ∨ (v = w.1 ∧ pc i < pc w.2))) → frN [74, 75, 78] I I2 → (∀ s, s ≤ al T → I2 78 s = eM (Fm (gap T sh) s)) → bm_W G l 145 69 [some (.ref 61), some (.int (nI c)), some (.int (eB W)), some (.int (eL W)), some (.int (nI i + 1)), d5, d6, d7, d8] [] t I2 L Q := by
        intro I2 d5 d6 d7 d8 q f2 z2
        have e : twS (totS T sh c) (i + 1) = W := by
          rw [st]
          rcases q with q | ⟨v, w, q1, q2, q3⟩
          · rw [q]
          · rw [q1, q2]
            exact if_neg q3
        exact ih (i + 1) _ _ _ d5 d6 d7 d8 I2 (by omega) (by omega) (by rw [e]) (by rw [e]) (nI_succ i).symm f2 z2
      have new : ∀ I2 d5 d6 d7 d8 v, totS T sh c i = some v → (W = none ∨ ∃ w, W = some w ∧ (v < w.1 ∨ (v = w.1 ∧ pc i < pc w.2))) → frN [74, 75, 78] I I2 → (∀ s, s ≤ al T → I2 78 s = eM (Fm (gap T sh) s)) → ∀ y3, y3 = nI v → bm_W G l 145 69 [some (.ref 61), some (.int (nI c)), some (.int (nI i)), some (.int y3), some (.int (nI i + 1)), d5, d6, d7, d8] [] t I2 L Q := by
        intro I2 d5 d6 d7 d8 v q1 q2 f2 z2 y3 e3
        have e : twS (totS T sh c) (i + 1) = some (v, i) := by
          rw [st, q1]
          rcases q2 with q2 | ⟨w, q2, q3⟩
          · rw [q2]
          · rw [q2]
            exact if_pos q3
        exact ih (i + 1) _ _ _ d5 d6 d7 d8 I2 (by omega) (by omega) (by rw [e]; rfl) (by rw [e, e3]; rfl) (nI_succ i).symm f2 z2
      have n9 : (Int32.toInt (-9)) = -9 := rfl
      refine bm_go (am_ok_all 145 (by decide)) 150 ?_
      refine sm_every hT hm1 ?_
      refine And.intro (fun cd => ?_) (fun _ => ?_)
      · rw [ti, nI_toInt (by omega)] at cd
        omega
      refine ⟨i, ti, (by omega : i < 64), ?_⟩
      refine And.intro (fun cd => ?_) (fun cd => ?_)
      · have en : Fm (gap T sh) i = none := (eM_n (obFm i (by omega))).mp (by rw [← zi]; exact cd)
        have tn : totS T sh c i = none := by unfold totS; rw [en]; rfl
        refine ⟨i, ti, (by omega : i < 64), ?_⟩
        refine And.intro (fun _ => ?_) (fun cd => absurd rfl cd)
        first | refine And.intro (fun cd => absurd cd (by decide)) (fun _ => ?_) | refine And.intro (fun _ => ?_) (fun cd => absurd cd (by decide)) | refine And.intro (fun cd => ?_) (fun cd => ?_)
        first | refine And.intro (fun cd => absurd cd (by decide)) (fun _ => ?_) | refine And.intro (fun _ => ?_) (fun cd => absurd cd (by decide)) | refine And.intro (fun cd => ?_) (fun cd => ?_)
        exact same I1 _ _ _ _ (Or.inl tn) f1 z1
      · cases eF : Fm (gap T sh) i with
        | none =>
          exfalso
          refine cd ?_
          rw [zi, eF]
          rfl
        | some f =>
          have fl := obFm i (by omega) f eF
          have l24 := lit_24 hT sh i
          have ai : nI (al T) &&& (nI i ^^^ (-1)) = nI (al T - i) := by
            rw [km1, n_cm, n_and]
            have := al_sub (tN T) (by omega) i (by omega) (by unfold al at hd; omega)
            unfold al
            rw [this]
          have aiz : (nI (al T) &&& (nI i ^^^ (-1))).toInt = ((al T - i : Nat) : Int) := by rw [ai]; exact nI_toInt (by omega)
          have nb := n_bit (s := lit T sh i) (j := c) (by omega) (by omega)
          have zf : I1 78 i = nI f := by rw [zi, eF]; rfl
          refine sm_lightOf sh i rfl (by omega) hT hm1 a21 hsh ?_
          refine sm_every hT hm1 ?_
          have own : ∀ I2, frN [74, 75] I1 I2 → frN [74, 75, 78] I I2 ∧ (∀ s, s ≤ al T → I2 78 s = eM (Fm (gap T sh) s)) := fun I2 f2 => ⟨f1.trans (f2.mono (by decide)), fun s hs => by rw [f2 78 (by decide)]; exact z1 s hs⟩
          refine And.intro (fun cr => ?_) (fun cr => ?_)
          · rw [aiz] at cr
            have cr : ((al T - i : Nat) : Int) = 0 := cr
            have q : i = al T ∨ (lit T sh i).testBit c = false := Or.inl (by omega)
            first | refine And.intro (fun cd => absurd cd (by decide)) (fun _ => ?_) | refine And.intro (fun _ => ?_) (fun cd => absurd cd (by decide)) | refine And.intro (fun cd => ?_) (fun cd => ?_)
            refine sm_goes sh c (lit T sh i) (al T - i) hok hm1 a21 hsh rfl ai rfl hc (by omega) l24 (fun I2 f2 g2 => ?_)
            have hm2 : mT T I2 := hm1.frN f2 (by decide) (by decide) (by decide) (by decide)
            first | refine And.intro (fun cd => absurd cd (by decide)) (fun _ => ?_) | refine And.intro (fun _ => ?_) (fun cd => absurd cd (by decide)) | refine And.intro (fun cd => ?_) (fun cd => ?_)
            refine sm_fewestOf (al T - i) (gr T sh c (lit T sh i) (al T - i)) (fun _ _ _ _ e => gr_lt e) n6 hm2.2.2.2.1 ai (by omega) (fun l hl => (g2 _ l (by omega) hl).1) ?_
            rw [secS_Fm sh c i hok (by omega) q]
            have z2i : I2 78 i = nI f := by rw [(own I2 f2).2 i (by omega), eF]; rfl
            cases eS : secS T sh c i with
            | none =>
              have tn : totS T sh c i = none := by unfold totS; rw [eS, oadd_n]
              refine ⟨i, ti, (by omega : i < 64), ?_⟩
              refine And.intro (fun _ => ?_) (fun cd => absurd rfl cd)
              first | refine And.intro (fun cd => absurd cd (by decide)) (fun _ => ?_) | refine And.intro (fun _ => ?_) (fun cd => absurd cd (by decide)) | refine And.intro (fun cd => ?_) (fun cd => ?_)
              first | refine And.intro (fun cd => absurd cd (by decide)) (fun _ => ?_) | refine And.intro (fun _ => ?_) (fun cd => absurd cd (by decide)) | refine And.intro (fun cd => ?_) (fun cd => ?_)
              exact same I2 _ _ _ _ (Or.inl tn) (own I2 f2).1 (own I2 f2).2
            | some u =>
              have ul := obS i u eS
              have eT : totS T sh c i = some (f + u) := by unfold totS; rw [eF, eS]; rfl
              have vl := tl i _ (by omega) eT
              have es : I2 78 i + eM (some u) = nI (f + u) := by rw [z2i]; exact nI_add f u
              have ts : (I2 78 i + eM (some u)).toInt = ((f + u : Nat) : Int) := by rw [es]; exact nI_toInt (by omega)
              refine ⟨i, ti, (by omega : i < 64), ?_⟩
              refine And.intro (fun cd => ?_) (fun _ => ?_)
              · have cd : (nI u).toInt = (-9 : Int) := cd
                rw [nI_toInt (by omega)] at cd
                omega
              cases W with
              | none =>
                refine And.intro (fun _ => ?_) (fun cd => absurd rfl cd)
                first | refine And.intro (fun cd => absurd cd (by decide)) (fun _ => ?_) | refine And.intro (fun _ => ?_) (fun cd => absurd cd (by decide)) | refine And.intro (fun cd => ?_) (fun cd => ?_)
                first | refine And.intro (fun cd => absurd cd (by decide)) (fun _ => ?_) | refine And.intro (fun _ => ?_) (fun cd => absurd cd (by decide)) | refine And.intro (fun cd => ?_) (fun cd => ?_)
                exact new I2 _ _ _ _ (f + u) eT (Or.inl rfl) (own I2 f2).1 (own I2 f2).2 _ es
              | some w =>
                obtain ⟨w2, j, w3, w4⟩ := wl w rfl
                have w1 := tl j _ (by omega) w4
                have tw2 : (nI w.2).toInt = (w.2 : Int) := nI_toInt (by omega)
                have tw1 : (nI w.1).toInt = (w.1 : Int) := nI_toInt (by omega)
                refine And.intro (fun cd => ?_) (fun _ => ?_)
                · have cd : (nI w.2).toInt = (-9 : Int) := cd
                  rw [tw2] at cd
                  omega
                refine And.intro (fun c1 => ?_) (fun c1 => ?_)
                · have c1 : (I2 78 i + eM (some u)).toInt < (nI w.1).toInt := c1
                  rw [ts, tw1] at c1
                  first | refine And.intro (fun cd => absurd cd (by decide)) (fun _ => ?_) | refine And.intro (fun _ => ?_) (fun cd => absurd cd (by decide)) | refine And.intro (fun cd => ?_) (fun cd => ?_)
                  first | refine And.intro (fun cd => absurd cd (by decide)) (fun _ => ?_) | refine And.intro (fun _ => ?_) (fun cd => absurd cd (by decide)) | refine And.intro (fun cd => ?_) (fun cd => ?_)
                  exact new I2 _ _ _ _ (f + u) eT (Or.inr ⟨w, rfl, Or.inl (by omega)⟩) (own I2 f2).1 (own I2 f2).2 _ es
                · have c1 : (nI w.1).toInt ≤ (I2 78 i + eM (some u)).toInt := c1
                  rw [ts, tw1] at c1
                  refine And.intro (fun c2 => ?_) (fun c2 => ?_)
                  · have c2 : ¬ ((I2 78 i + eM (some u)).toInt = (nI w.1).toInt) := c2
                    rw [ts, tw1] at c2
                    first | refine And.intro (fun cd => absurd cd (by decide)) (fun _ => ?_) | refine And.intro (fun _ => ?_) (fun cd => absurd cd (by decide)) | refine And.intro (fun cd => ?_) (fun cd => ?_)
                    first | refine And.intro (fun cd => absurd cd (by decide)) (fun _ => ?_) | refine And.intro (fun _ => ?_) (fun cd => absurd cd (by decide)) | refine And.intro (fun cd => ?_) (fun cd => ?_)
                    exact same I2 _ _ _ _ (Or.inr ⟨f + u, w, eT, rfl, fun q => by omega⟩) (own I2 f2).1 (own I2 f2).2
                  · have c2 : (I2 78 i + eM (some u)).toInt = (nI w.1).toInt := c2
                    rw [ts, tw1] at c2
                    have pi := pc_le i
                    have pw := pc_le w.2
                    refine sm_size i rfl (by omega) ?_
                    refine sm_size w.2 rfl (by omega) ?_
                    refine And.intro (fun c3 => ?_) (fun c3 => ?_)
                    · rw [nI_toInt (by omega), nI_toInt (by omega)] at c3
                      first | refine And.intro (fun cd => absurd cd (by decide)) (fun _ => ?_) | refine And.intro (fun _ => ?_) (fun cd => absurd cd (by decide)) | refine And.intro (fun cd => ?_) (fun cd => ?_)
                      first | refine And.intro (fun cd => absurd cd (by decide)) (fun _ => ?_) | refine And.intro (fun _ => ?_) (fun cd => absurd cd (by decide)) | refine And.intro (fun cd => ?_) (fun cd => ?_)
                      exact same I2 _ _ _ _ (Or.inr ⟨f + u, w, eT, rfl, fun q => by omega⟩) (own I2 f2).1 (own I2 f2).2
                    · rw [nI_toInt (by omega), nI_toInt (by omega)] at c3
                      first | refine And.intro (fun cd => absurd cd (by decide)) (fun _ => ?_) | refine And.intro (fun _ => ?_) (fun cd => absurd cd (by decide)) | refine And.intro (fun cd => ?_) (fun cd => ?_)
                      first | refine And.intro (fun cd => absurd cd (by decide)) (fun _ => ?_) | refine And.intro (fun _ => ?_) (fun cd => absurd cd (by decide)) | refine And.intro (fun cd => ?_) (fun cd => ?_)
                      exact new I2 _ _ _ _ (f + u) eT (Or.inr ⟨w, rfl, Or.inr ⟨by omega, by omega⟩⟩) (own I2 f2).1 (own I2 f2).2 _ es
          · rw [aiz] at cr
            have cr : ¬ (((al T - i : Nat) : Int) = 0) := cr
            refine And.intro (fun cb => ?_) (fun cb => ?_)
            · have bt : (lit T sh i).testBit c = true := by
                cases e : (lit T sh i).testBit c with
                | true => rfl
                | false => rw [nb, e] at cb; exact absurd rfl cb
              have sn : secS T sh c i = none := by
                unfold secS
                rw [if_neg (by omega), if_pos bt]
              have tn : totS T sh c i = none := by unfold totS; rw [sn, oadd_n]
              first | refine And.intro (fun cd => absurd cd (by decide)) (fun _ => ?_) | refine And.intro (fun _ => ?_) (fun cd => absurd cd (by decide)) | refine And.intro (fun cd => ?_) (fun cd => ?_)
              refine sm_goes sh c (lit T sh i) 0 hok hm1 a21 hsh rfl rfl rfl hc (by decide) l24 (fun I2 f2 g2 => ?_)
              first | refine And.intro (fun cd => absurd cd (by decide)) (fun _ => ?_) | refine And.intro (fun _ => ?_) (fun cd => absurd cd (by decide)) | refine And.intro (fun cd => ?_) (fun cd => ?_)
              refine ⟨i, ti, (by omega : i < 64), ?_⟩
              refine And.intro (fun _ => ?_) (fun cd => absurd rfl cd)
              first | refine And.intro (fun cd => absurd cd (by decide)) (fun _ => ?_) | refine And.intro (fun _ => ?_) (fun cd => absurd cd (by decide)) | refine And.intro (fun cd => ?_) (fun cd => ?_)
              first | refine And.intro (fun cd => absurd cd (by decide)) (fun _ => ?_) | refine And.intro (fun _ => ?_) (fun cd => absurd cd (by decide)) | refine And.intro (fun cd => ?_) (fun cd => ?_)
              exact same I2 _ _ _ _ (Or.inl tn) (own I2 f2).1 (own I2 f2).2
            · have q : i = al T ∨ (lit T sh i).testBit c = false := Or.inr (by
                cases e : (lit T sh i).testBit c with
                | false => rfl
                | true => rw [nb, e] at cb; exact absurd cb (by decide))
              first | refine And.intro (fun cd => absurd cd (by decide)) (fun _ => ?_) | refine And.intro (fun _ => ?_) (fun cd => absurd cd (by decide)) | refine And.intro (fun cd => ?_) (fun cd => ?_)
              refine sm_goes sh c (lit T sh i) (al T - i) hok hm1 a21 hsh rfl ai rfl hc (by omega) l24 (fun I2 f2 g2 => ?_)
              have hm2 : mT T I2 := hm1.frN f2 (by decide) (by decide) (by decide) (by decide)
              first | refine And.intro (fun cd => absurd cd (by decide)) (fun _ => ?_) | refine And.intro (fun _ => ?_) (fun cd => absurd cd (by decide)) | refine And.intro (fun cd => ?_) (fun cd => ?_)
              refine sm_fewestOf (al T - i) (gr T sh c (lit T sh i) (al T - i)) (fun _ _ _ _ e => gr_lt e) n6 hm2.2.2.2.1 ai (by omega) (fun l hl => (g2 _ l (by omega) hl).1) ?_
              rw [secS_Fm sh c i hok (by omega) q]
              have z2i : I2 78 i = nI f := by rw [(own I2 f2).2 i (by omega), eF]; rfl
              cases eS : secS T sh c i with
              | none =>
                have tn : totS T sh c i = none := by unfold totS; rw [eS, oadd_n]
                refine ⟨i, ti, (by omega : i < 64), ?_⟩
                refine And.intro (fun _ => ?_) (fun cd => absurd rfl cd)
                first | refine And.intro (fun cd => absurd cd (by decide)) (fun _ => ?_) | refine And.intro (fun _ => ?_) (fun cd => absurd cd (by decide)) | refine And.intro (fun cd => ?_) (fun cd => ?_)
                first | refine And.intro (fun cd => absurd cd (by decide)) (fun _ => ?_) | refine And.intro (fun _ => ?_) (fun cd => absurd cd (by decide)) | refine And.intro (fun cd => ?_) (fun cd => ?_)
                exact same I2 _ _ _ _ (Or.inl tn) (own I2 f2).1 (own I2 f2).2
              | some u =>
                have ul := obS i u eS
                have eT : totS T sh c i = some (f + u) := by unfold totS; rw [eF, eS]; rfl
                have vl := tl i _ (by omega) eT
                have es : I2 78 i + eM (some u) = nI (f + u) := by rw [z2i]; exact nI_add f u
                have ts : (I2 78 i + eM (some u)).toInt = ((f + u : Nat) : Int) := by rw [es]; exact nI_toInt (by omega)
                refine ⟨i, ti, (by omega : i < 64), ?_⟩
                refine And.intro (fun cd => ?_) (fun _ => ?_)
                · have cd : (nI u).toInt = (-9 : Int) := cd
                  rw [nI_toInt (by omega)] at cd
                  omega
                cases W with
                | none =>
                  refine And.intro (fun _ => ?_) (fun cd => absurd rfl cd)
                  first | refine And.intro (fun cd => absurd cd (by decide)) (fun _ => ?_) | refine And.intro (fun _ => ?_) (fun cd => absurd cd (by decide)) | refine And.intro (fun cd => ?_) (fun cd => ?_)
                  first | refine And.intro (fun cd => absurd cd (by decide)) (fun _ => ?_) | refine And.intro (fun _ => ?_) (fun cd => absurd cd (by decide)) | refine And.intro (fun cd => ?_) (fun cd => ?_)
                  exact new I2 _ _ _ _ (f + u) eT (Or.inl rfl) (own I2 f2).1 (own I2 f2).2 _ es
                | some w =>
                  obtain ⟨w2, j, w3, w4⟩ := wl w rfl
                  have w1 := tl j _ (by omega) w4
                  have tw2 : (nI w.2).toInt = (w.2 : Int) := nI_toInt (by omega)
                  have tw1 : (nI w.1).toInt = (w.1 : Int) := nI_toInt (by omega)
                  refine And.intro (fun cd => ?_) (fun _ => ?_)
                  · have cd : (nI w.2).toInt = (-9 : Int) := cd
                    rw [tw2] at cd
                    omega
                  refine And.intro (fun c1 => ?_) (fun c1 => ?_)
                  · have c1 : (I2 78 i + eM (some u)).toInt < (nI w.1).toInt := c1
                    rw [ts, tw1] at c1
                    first | refine And.intro (fun cd => absurd cd (by decide)) (fun _ => ?_) | refine And.intro (fun _ => ?_) (fun cd => absurd cd (by decide)) | refine And.intro (fun cd => ?_) (fun cd => ?_)
                    first | refine And.intro (fun cd => absurd cd (by decide)) (fun _ => ?_) | refine And.intro (fun _ => ?_) (fun cd => absurd cd (by decide)) | refine And.intro (fun cd => ?_) (fun cd => ?_)
                    exact new I2 _ _ _ _ (f + u) eT (Or.inr ⟨w, rfl, Or.inl (by omega)⟩) (own I2 f2).1 (own I2 f2).2 _ es
                  · have c1 : (nI w.1).toInt ≤ (I2 78 i + eM (some u)).toInt := c1
                    rw [ts, tw1] at c1
                    refine And.intro (fun c2 => ?_) (fun c2 => ?_)
                    · have c2 : ¬ ((I2 78 i + eM (some u)).toInt = (nI w.1).toInt) := c2
                      rw [ts, tw1] at c2
                      first | refine And.intro (fun cd => absurd cd (by decide)) (fun _ => ?_) | refine And.intro (fun _ => ?_) (fun cd => absurd cd (by decide)) | refine And.intro (fun cd => ?_) (fun cd => ?_)
                      first | refine And.intro (fun cd => absurd cd (by decide)) (fun _ => ?_) | refine And.intro (fun _ => ?_) (fun cd => absurd cd (by decide)) | refine And.intro (fun cd => ?_) (fun cd => ?_)
                      exact same I2 _ _ _ _ (Or.inr ⟨f + u, w, eT, rfl, fun q => by omega⟩) (own I2 f2).1 (own I2 f2).2
                    · have c2 : (I2 78 i + eM (some u)).toInt = (nI w.1).toInt := c2
                      rw [ts, tw1] at c2
                      have pi := pc_le i
                      have pw := pc_le w.2
                      refine sm_size i rfl (by omega) ?_
                      refine sm_size w.2 rfl (by omega) ?_
                      refine And.intro (fun c3 => ?_) (fun c3 => ?_)
                      · rw [nI_toInt (by omega), nI_toInt (by omega)] at c3
                        first | refine And.intro (fun cd => absurd cd (by decide)) (fun _ => ?_) | refine And.intro (fun _ => ?_) (fun cd => absurd cd (by decide)) | refine And.intro (fun cd => ?_) (fun cd => ?_)
                        first | refine And.intro (fun cd => absurd cd (by decide)) (fun _ => ?_) | refine And.intro (fun _ => ?_) (fun cd => absurd cd (by decide)) | refine And.intro (fun cd => ?_) (fun cd => ?_)
                        exact same I2 _ _ _ _ (Or.inr ⟨f + u, w, eT, rfl, fun q => by omega⟩) (own I2 f2).1 (own I2 f2).2
                      · rw [nI_toInt (by omega), nI_toInt (by omega)] at c3
                        first | refine And.intro (fun cd => absurd cd (by decide)) (fun _ => ?_) | refine And.intro (fun _ => ?_) (fun cd => absurd cd (by decide)) | refine And.intro (fun cd => ?_) (fun cd => ?_)
                        first | refine And.intro (fun cd => absurd cd (by decide)) (fun _ => ?_) | refine And.intro (fun _ => ?_) (fun cd => absurd cd (by decide)) | refine And.intro (fun cd => ?_) (fun cd => ?_)
                        exact new I2 _ _ _ _ (f + u) eT (Or.inr ⟨w, rfl, Or.inr ⟨by omega, by omega⟩⟩) (own I2 f2).1 (own I2 f2).2 _ es
  have lpF : ∀ d i y2 d3 d4 d5 d6 d7 d8 (I1 : am_I), al T + 1 - i = d → i ≤ al T + 1 → y2 = nI i → mT T I1 → (∀ S l, S ≤ al T → l < 6 → I1 74 (6 * S + l) = eM (Fo (gap T sh) S l)) → frN [74, 75, 78] I I1 → (∀ s, s < i → I1 78 s = eM (Fm (gap T sh) s)) → bm_W G l 145 36 [some (.ref 61), some (.int (nI c)), some (.int y2), d3, d4, d5, d6, d7, d8] [] t I1 L Q := by
    intro d
    induction d with
    | zero =>
      intro i y2 d3 d4 d5 d6 d7 d8 I1 hd hi e2 hm1 g1 f1 z1
      obtain rfl : i = al T + 1 := by omega
      subst e2
      refine bm_go (am_ok_all 145 (by decide)) 60 ?_
      refine sm_every hT hm1 ?_
      refine And.intro (fun _ => ?_) (fun cd => ?_)
      · exact main _ 0 _ _ _ _ _ _ _ I1 rfl (Nat.zero_le _) rfl rfl rfl f1 (fun s hs => z1 s (by omega))
      · rw [nI_toInt (by omega), nI_toInt (by omega)] at cd
        omega
    | succ d ih =>
      intro i y2 d3 d4 d5 d6 d7 d8 I1 hd hi e2 hm1 g1 f1 z1
      subst e2
      refine bm_go (am_ok_all 145 (by decide)) 60 ?_
      refine sm_every hT hm1 ?_
      refine And.intro (fun cd => ?_) (fun _ => ?_)
      · rw [nI_toInt (by omega), nI_toInt (by omega)] at cd
        omega
      refine sm_fewestOf i (gap T sh) (fun _ _ _ _ e => gap_lt e) n6 hm1.2.2.2.1 rfl (by omega) (fun l hl => g1 i l (by omega) hl) ?_
      refine ⟨i, nI_toInt (by omega), (by omega : i < 64), ?_⟩
      refine ih (i + 1) _ _ _ _ _ _ _ _ (by omega) (by omega) (nI_succ i).symm (hm1.frN (cs := [78]) ((frN.refl _ _).u (by decide)) (by decide) (by decide) (by decide) (by decide)) (fun S l q1 q2 => by rw [u_ne (by decide)]; exact g1 S l q1 q2) (f1.u (by decide)) (fun s hs => ?_)
      by_cases w : s = i
      · subst w
        exact u_eq
      · rw [u_nj w]
        exact z1 s (by omega)
  have nbS := n_bit (s := tS T) (j := c) (by omega) (by omega)
  rw [hcS] at nbS
  refine bm_go (am_ok_all 145 (by decide)) 60 ?_
  refine sm_isCell hT hm (fun k hk hx => ?_) (fun q => ?_)
  rotate_left
  · exfalso
    rw [tc] at q
    omega
  first | refine And.intro (fun cd => absurd cd (by decide)) (fun _ => ?_) | refine And.intro (fun _ => ?_) (fun cd => absurd cd (by decide)) | refine And.intro (fun cd => ?_) (fun cd => ?_)
  refine And.intro (fun _ => ?_) (fun cd => ?_)
  · refine sm_every hT hm ?_
    refine sm_goes sh (tD T) 0 (al T) hok hm a2 hsh hm.2.2.2.2.1 rfl rfl hok.2.1 (by omega) (by decide) (fun I4 f4 g4 => ?_)
    rw [gr_gap sh n6] at g4
    exact lpF _ 0 _ _ _ _ _ _ _ I4 rfl (Nat.zero_le _) rfl (hm.frN f4 (by decide) (by decide) (by decide) (by decide)) (fun S l q1 q2 => (g4 S l q1 q2).1) (f4.mono (by decide)) (fun s hs => by omega)
  · rw [hm.2.2.2.2.2.1] at cd
    rw [nbS] at cd
    exact absurd cd (by decide)
end PT
section PT
variable {G : am_G} {l : Launch} {t : am_T} {I : am_I} {L : am_J} {Q : bm_P}
theorem pair_two {x : Int32} (h : Inv t I L) : bm_C G l 34 [.ref 0, .int x] t I L (pI G l 145 [.ref 61, .int x]) := by
  obtain ⟨T, sh, hc, hm, hs, a1, a2, hL, a4, hK, hS, hO, hG⟩ := h.2.2
  have hT := InvX.ok hG
  have n6 := hT.n6
  have p6 := Nat.pow_le_pow_right (n := 2) (by decide) n6
  have a64 := al_lt hT
  refine bm_go (am_ok_all 34 (by decide)) 60 ?_
  refine sp_isCell hT hc.2.1 (fun c hcc hx => ?_) (fun q => ?_)
  rotate_left
  · first | refine And.intro (fun cd => absurd cd (by decide)) (fun _ => ?_) | refine And.intro (fun _ => ?_) (fun cd => absurd cd (by decide)) | refine And.intro (fun cd => ?_) (fun cd => ?_)
    refine ⟨_, rfl, ?_⟩
    refine bm_go (am_ok_all 145 (by decide)) 60 ?_
    refine sm_isCell hT hm (fun k hk hx => ?_) (fun _ => ?_)
    · have := xn hx hk (by have := hT.c24; omega)
      omega
    · first | refine And.intro (fun cd => absurd cd (by decide)) (fun _ => ?_) | refine And.intro (fun _ => ?_) (fun cd => absurd cd (by decide)) | refine And.intro (fun cd => ?_) (fun cd => ?_)
      exact ⟨rfl, h⟩
  first | refine And.intro (fun cd => absurd cd (by decide)) (fun _ => ?_) | refine And.intro (fun _ => ?_) (fun cd => absurd cd (by decide)) | refine And.intro (fun cd => ?_) (fun cd => ?_)
  have hok := hT.okc hcc
  have c24 := hok.1.c24
  have s24 := hok.1.s24
  have tc : x.toInt = (c : Int) := by rw [hx]; exact nI_toInt (by omega)
  refine sp_isIn (tS T) c hc.1.1 hx (by omega) (by omega) (fun b => ?_) (fun b => ?_)
  rotate_left
  · first | refine And.intro (fun cd => absurd cd (by decide)) (fun _ => ?_) | refine And.intro (fun _ => ?_) (fun cd => absurd cd (by decide)) | refine And.intro (fun cd => ?_) (fun cd => ?_)
    refine ⟨_, rfl, ?_⟩
    have nbS := n_bit (s := tS T) (j := c) (by omega) (by omega)
    rw [b] at nbS
    refine bm_go (am_ok_all 145 (by decide)) 60 ?_
    refine sm_isCell hT hm (fun _ _ _ => ?_) (fun q => ?_)
    · first | refine And.intro (fun cd => absurd cd (by decide)) (fun _ => ?_) | refine And.intro (fun _ => ?_) (fun cd => absurd cd (by decide)) | refine And.intro (fun cd => ?_) (fun cd => ?_)
      refine And.intro (fun cd => ?_) (fun _ => ⟨rfl, h⟩)
      rw [hm.2.2.2.2.2.1, hx, nbS] at cd
      exact absurd rfl cd
    · rw [tc] at q
      omega
  first | refine And.intro (fun cd => absurd cd (by decide)) (fun _ => ?_) | refine And.intro (fun _ => ?_) (fun cd => absurd cd (by decide)) | refine And.intro (fun cd => ?_) (fun cd => ?_)
  refine sp_learn sh hok hc hL hO (fun I1 f1 e1 e3 e4 tb => ?_)
  have g1 := lrn.of f1 e1 e3 e4 tb
  have hc1 : cT T I1 := by
    unfold cT cG cLp at hc ⊢
    rw [f1 7 (by decide), f1 8 (by decide), f1 9 (by decide), f1 10 (by decide), f1 11 (by decide)]
    exact hc
  have hL1 : cL T sh 13 I1 := by unfold cL at hL ⊢; rw [f1 13 (by decide)]; exact hL
  refine sp_byTwo sh c hok rfl hc1 hL1 e3 e4 tb hx hcc (fun I2 f2 z2 => ?_)
  have g2 : lrn T sh I I2 := by
    obtain ⟨q1, q2, q3, q4, q5⟩ := g1
    refine ⟨q1.trans (f2.1.mono (by decide)), by rw [f2.2 1 (by decide)]; exact q2, by rw [f2.2 3 (by decide)]; exact q3, by rw [f2.2 4 (by decide)]; exact q4, ?_⟩
    unfold tabs at q5 ⊢
    rw [f2.1 27 (by decide), f2.1 28 (by decide), f2.1 29 (by decide), f2.1 30 (by decide)]
    exact q5
  have T20 : (1048576 : Int32).toInt = 1048576 := rfl
  cases eW : twS (totS T sh c) (al T + 1) with
  | none =>
    refine And.intro (fun cd => ?_) (fun _ => ?_)
    · have cd : (nI 1048576).toInt < (1048576 : Int) := cd
      rw [nI_toInt (by decide)] at cd
      omega
    · refine ⟨_, rfl, ?_⟩
      refine sm_two sh c hok (g2.hm hm) (g2.a2 a2) (by omega) hx hcc b (fun _ I3 f3 => ?_) (fun w e => by rw [eW] at e; cases e)
      exact ⟨rfl, Inv.lrnT h hc hm hs a1 a2 hL a4 hK hS hG (g2.go (f3.mono (by decide))) t.1⟩
  | some w =>
    obtain ⟨w2, j, w3, w4⟩ := twS_le _ _ w eW
    have w1 := totS_lt a64 (by omega) w4
    have tw : (nI w.1).toInt = (w.1 : Int) := nI_toInt (by omega)
    rw [eW] at z2
    refine And.intro (fun _ => ?_) (fun cd => ?_)
    · refine sp_besides ?_
      refine ⟨_, rfl, ?_⟩
      have ez : I2 25 0 = nI w.2 := z2
      rw [ez]
      generalize hJ : am_u I2 36 0 (nI w.2) = J
      have fJ : frN [36] I2 J := by rw [← hJ]; exact (frN.refl _ _).u (by decide)
      have hmJ : mT T J := (g2.hm hm).frN fJ (by decide) (by decide) (by decide) (by decide)
      refine sm_two sh c hok hmJ (by rw [fJ 61 (by decide)]; exact g2.a2 a2) (by omega) hx hcc b (fun e => by rw [eW] at e; cases e) (fun w' e I3 f3 => ?_)
      rw [eW] at e
      have e : w = w' := Option.some.inj e
      subst e
      refine ⟨rfl, ?_⟩
      refine lrn.told h hc hm hs a1 a2 hL a4 hK hS hG g2 ?_ t.1
      rw [hJ]
      exact f3.mono (by decide)
    · have cd : (1048576 : Int) ≤ (nI w.1).toInt := cd
      rw [tw] at cd
      omega
end PT

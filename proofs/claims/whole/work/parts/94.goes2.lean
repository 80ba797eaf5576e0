/-! the reference's table, all of it -/
theorem gI_skip {T : tT} {g : Nat → Nat → Nat → Option Nat} {s la : Nat} {I : am_I} (h : gI T g s la 0 I) (hf : Fo g s la = none) : gI T g s (la + 1) 0 I := by
  intro S' l' h1 h2
  rw [eS_skip hf, eW_skip ((Wo_Fo g s la).mpr hf)]
  exact h S' l' h1 h2
theorem gI_skips {T : tT} {g : Nat → Nat → Nat → Option Nat} {s la : Nat} {I : am_I} (h : gI T g s la 0 I) : ∀ m, (∀ l, la ≤ l → l < la + m → Fo g s l = none) → gI T g s (la + m) 0 I
  | 0, _ => h
  | m + 1, hf => gI_skip (gI_skips h m (fun l h1 h2 => hf l h1 (by omega))) (hf (la + m) (by omega) (by omega))
section PG
variable {G : am_G} {l : Launch} {t : am_T} {I : am_I} {L : am_J} {Q : bm_P}
theorem sm_goes {T : tT} {x1 x2 x3 : Int32} (sh c ot A : Nat) (hT : tOk T) (hm : mT T I) (a2 : I 61 19 = nI sh) (hsh : sh < 2 ^ 31) (h1 : x1 = nI c) (h2 : x2 = nI A) (h3 : x3 = nI ot) (hc : c < tC T) (hA : A < 2 ^ 31) (hot : ot < 2 ^ 24) (h : ∀ I', frN [74, 75] I I' → (∀ S l, S ≤ al T → l < 6 → I' 74 (6 * S + l) = eM (Fo (gr T sh c ot A) S l) ∧ I' 75 (6 * S + l) = nI (Wo (gr T sh c ot A) aw S l)) → Q none t I' L) : bm_C G l 128 [.ref 61, .int x1, .int x2, .int x3] t I L Q := by
  subst h1 h2 h3
  have n6 := hT.2.2.2.1
  have a64 := al_lt (Or.inl hT)
  have pn := Nat.two_pow_pos (tN T)
  have aln : al T + 1 = 2 ^ tN T := by unfold al; omega
  have fr61 : ∀ {I1 : am_I}, frN [74, 75] I I1 → I1 61 14 = nI (tN T) := fun f => by rw [f 61 (by decide)]; exact hm.2.2.2.1
  have frT : ∀ {I1 : am_I}, frN [74, 75] I I1 → mT T I1 := fun f => by unfold mT; rw [f 61 (by decide), f 66 (by decide), f 67 (by decide), f 68 (by decide)]; exact hm
  have lpS : ∀ d s y d5 d6 d7 d8 I1, al T + 1 - s = d → s ≤ al T + 1 → y = nI s → frN [74, 75] I I1 → gI T (gr T sh c ot A) s 0 0 I1 → bm_W G l 128 37 [some (.ref 61), some (.int (nI c)), some (.int (nI A)), some (.int (nI ot)), some (.int y), d5, d6, d7, d8] [] t I1 L Q := by
    intro d
    induction d with
    | zero =>
      intro s y d5 d6 d7 d8 I1 hd hs hy f1 g1
      obtain rfl : s = al T + 1 := by omega
      subst hy
      refine bm_go (am_ok_all 128 (by decide)) 60 ?_
      refine And.intro (fun _ => ?_) (fun cd => ?_)
      · refine h I1 f1 (fun S l q1 q2 => ?_)
        have := g1 S l q1 q2
        have eS1 : eS (gr T sh c ot A) (al T + 1) 0 0 S l = Fo (gr T sh c ot A) S l := by
          rw [Fo_eq]
          unfold eS
          by_cases z : S = 0
          · rw [if_pos z, if_pos z]
          · rw [if_neg z, if_neg z]
            by_cases b : S.testBit l = true
            · have := two_le b
              have := Nat.two_pow_pos l
              rw [if_pos b, if_pos b, if_pos (by omega), Fo_eq, if_neg z, if_pos b]
            · rw [if_neg b, if_neg b]
        have eW1 : eW (gr T sh c ot A) aw (al T + 1) 0 0 S l = Wo (gr T sh c ot A) aw S l := by
          rw [Wo_eq]
          unfold eW
          by_cases z : S = 0
          · rw [if_pos z, if_pos z]
          · rw [if_neg z, if_neg z]
            by_cases b : S.testBit l = true
            · have := two_le b
              have := Nat.two_pow_pos l
              rw [if_pos b, if_pos b, if_pos (by omega), Wo_eq, if_neg z, if_pos b]
            · rw [if_neg b, if_neg b]
        rw [eS1, eW1] at this
        exact this
      · rw [fr61 f1, shl1 (by omega), n_one, nI_toInt (by omega), nI_toInt (by omega)] at cd
        omega
    | succ d ih =>
      intro s y d5 d6 d7 d8 I1 hd hs hy f1 g1
      subst hy
      have up : ∀ I2, gI T (gr T sh c ot A) s 8 0 I2 → gI T (gr T sh c ot A) (s + 1) 0 0 I2 := fun I2 g2 S' l' q1 q2 => by
        rw [eS_next, eW_next]
        exact g2 S' l' q1 q2
      have in37 : ∀ {P : Prop} {J : am_I}, frN [74, 75] I J → (nI s).toInt ≥ ((1 : Int32) <<< (J 61 14 &&& 31)).toInt → P := fun f cd => by
        rw [fr61 f, shl1 (by omega), n_one, nI_toInt (by omega), nI_toInt (by omega)] at cd
        omega
      by_cases s0 : s = 0
      · subst s0
        have g7 := gI_skips g1 7 (fun l _ q => by rw [Fo_eq, if_pos rfl, if_neg (by omega)])
        refine bm_go (am_ok_all 128 (by decide)) 60 ?_
        refine And.intro (fun cd => in37 f1 cd) (fun _ => ?_)
        first | refine And.intro (fun cd => absurd cd (by decide)) (fun _ => ?_) | refine And.intro (fun _ => ?_) (fun cd => absurd cd (by decide)) | refine And.intro (fun cd => ?_) (fun cd => ?_)
        refine bm_go (am_ok_all 128 (by decide)) 60 ?_
        first | refine And.intro (fun cd => absurd cd (by decide)) (fun _ => ?_) | refine And.intro (fun _ => ?_) (fun cd => absurd cd (by decide)) | refine And.intro (fun cd => ?_) (fun cd => ?_)
        first | refine And.intro (fun cd => absurd cd (by decide)) (fun _ => ?_) | refine And.intro (fun _ => ?_) (fun cd => absurd cd (by decide)) | refine And.intro (fun cd => ?_) (fun cd => ?_)
        first | refine And.intro (fun cd => absurd cd (by decide)) (fun _ => ?_) | refine And.intro (fun _ => ?_) (fun cd => absurd cd (by decide)) | refine And.intro (fun cd => ?_) (fun cd => ?_)
        refine lp_goesT sh c ot A 0 7 0 hT hm a2 hsh hc hA hot (by omega) (Or.inl ⟨rfl, rfl, rfl⟩) (by rw [Fo_eq, if_pos rfl, if_pos rfl]) (fun I3 d7 d8 f3 g3 => ?_) _ 0 0 _ I1 rfl (Nat.zero_le _) rfl f1 g7
        refine bm_go (am_ok_all 128 (by decide)) 60 ?_
        first | refine And.intro (fun cd => absurd cd (by decide)) (fun _ => ?_) | refine And.intro (fun _ => ?_) (fun cd => absurd cd (by decide)) | refine And.intro (fun cd => ?_) (fun cd => ?_)
        first | refine And.intro (fun cd => absurd cd (by decide)) (fun _ => ?_) | refine And.intro (fun _ => ?_) (fun cd => absurd cd (by decide)) | refine And.intro (fun cd => ?_) (fun cd => ?_)
        exact ih 1 _ _ _ _ _ I3 (by omega) (by omega) rfl f3 (up I3 g3)
      · have sN : (nI s).toInt ≠ 0 := by rw [nI_toInt (by omega)]; omega
        have lpO : ∀ d la z d6 d7 d8 I2, tN T - la = d → la ≤ tN T → z = nI la → frN [74, 75] I I2 → gI T (gr T sh c ot A) s la 0 I2 → bm_W G l 128 60 [some (.ref 61), some (.int (nI c)), some (.int (nI A)), some (.int (nI ot)), some (.int (nI s)), some (.int z), d6, d7, d8] [] t I2 L Q := by
          intro d
          induction d with
          | zero =>
            intro la z d6 d7 d8 I2 hd2 hla hz f2 g2
            obtain rfl : la = tN T := by omega
            subst hz
            refine bm_go (am_ok_all 128 (by decide)) 60 ?_
            refine And.intro (fun _ => ?_) (fun cd => absurd cd sN)
            refine And.intro (fun _ => ?_) (fun cd => ?_)
            · have g8 := gI_skips g2 (8 - tN T) (fun l q1 q2 => by
                rw [Fo_eq, if_neg s0, if_neg]
                rw [tb_big (n := tN T) (by omega) q1]
                decide)
              rw [show tN T + (8 - tN T) = 8 by omega] at g8
              exact ih (s + 1) _ _ _ _ _ I2 (by omega) (by omega) (nI_succ s).symm f2 (up I2 g8)
            · rw [fr61 f2] at cd
              omega
          | succ d ih2 =>
            intro la z d6 d7 d8 I2 hd2 hla hz f2 g2
            subst hz
            have g := g2 s la (by omega) (by omega)
            rw [eS_now, eW_now] at g
            have wl := Wo_lt (gr T sh c ot A) aw (s := s) la (by omega)
            have ix : ((6 : Int32) * nI s + nI la).toInt = ((6 * s + la : Nat) : Int) := by rw [k6, pk_mul, nI_add]; exact nI_toInt (by omega)
            refine bm_go (am_ok_all 128 (by decide)) 60 ?_
            refine And.intro (fun _ => ?_) (fun cd => absurd cd sN)
            refine And.intro (fun cd => ?_) (fun _ => ?_)
            · rw [fr61 f2, nI_toInt (by omega), nI_toInt (by omega)] at cd
              omega
            refine And.intro (fun cd => absurd cd sN) (fun _ => ?_)
            refine ⟨6 * s + la, ix, (by omega : 6 * s + la < 384), ?_⟩
            refine And.intro (fun cd => ?_) (fun cd => ?_)
            · rw [g.2, nI_toInt (by omega)] at cd
              have fn : Fo (gr T sh c ot A) s la = none := (Wo_Fo _ _ _).mp (by omega)
              refine bm_go (am_ok_all 128 (by decide)) 60 ?_
              refine And.intro (fun cd => ?_) (fun _ => ?_)
              · rw [fr61 f2, nI_toInt (by omega)] at cd
                exact absurd cd (by show ¬ ((tN T : Int) ≤ 0); omega)
              first | refine And.intro (fun cd => absurd cd (by decide)) (fun _ => ?_) | refine And.intro (fun _ => ?_) (fun cd => absurd cd (by decide)) | refine And.intro (fun cd => ?_) (fun cd => ?_)
              exact ih2 (la + 1) _ _ _ _ I2 (by omega) (by omega) (nI_succ la).symm f2 (gI_skip g2 fn)
            · rw [g.2, nI_toInt (by omega)] at cd
              cases e : Fo (gr T sh c ot A) s la with
              | none =>
                have := (Wo_Fo _ _ _).mpr e
                omega
              | some fv =>
                have b : s.testBit la = true := by
                  rw [Fo_eq, if_neg s0] at e
                  by_cases w : s.testBit la = true
                  · exact w
                  · rw [if_neg w] at e
                    cases e
                refine lp_goesT sh c ot A s la fv hT hm a2 hsh hc hA hot (by omega) (Or.inr ⟨s0, rfl, by omega, b⟩) e (fun I3 d7 d8 f3 g3 => ?_) _ 0 0 _ I2 rfl (Nat.zero_le _) rfl f2 g2
                exact ih2 (la + 1) _ _ _ _ I3 (by omega) (by omega) (nI_succ la).symm f3 g3
        refine bm_go (am_ok_all 128 (by decide)) 60 ?_
        refine And.intro (fun cd => in37 f1 cd) (fun _ => ?_)
        refine And.intro (fun _ => ?_) (fun cd => absurd cd sN)
        exact lpO _ 0 0 _ _ _ I1 rfl (Nat.zero_le _) rfl f1 g1
  have lp0 : ∀ d j y I1, 384 - j = d → j ≤ 384 → y = nI j → frN [74, 75] I I1 → (∀ i, i < j → I1 74 i = -9 ∧ I1 75 i = 0) → bm_W G l 128 3 [some (.ref 61), some (.int (nI c)), some (.int (nI A)), some (.int (nI ot)), some (.int y), none, none, none, none] [] t I1 L Q := by
    intro d
    induction d with
    | zero =>
      intro j y I1 hd hj hy f1 g1
      obtain rfl : j = 384 := by omega
      subst hy
      refine bm_go (am_ok_all 128 (by decide)) 60 ?_
      first | refine And.intro (fun cd => absurd cd (by decide)) (fun _ => ?_) | refine And.intro (fun _ => ?_) (fun cd => absurd cd (by decide)) | refine And.intro (fun cd => ?_) (fun cd => ?_)
      refine lpS _ 0 0 _ _ _ _ I1 rfl (Nat.zero_le _) rfl f1 (fun S' l' q1 q2 => ?_)
      obtain ⟨e1, e2⟩ := g1 (6 * S' + l') (by omega)
      rw [e1, e2]
      unfold eS eW
      by_cases z : S' = 0
      · rw [if_pos z, if_pos z, if_neg (by omega), if_neg (by omega)]
        exact ⟨rfl, rfl⟩
      · rw [if_neg z, if_neg z]
        by_cases b : S'.testBit l' = true
        · rw [if_pos b, if_pos b, if_neg (Nat.not_lt_zero _), if_neg (Nat.not_lt_zero _), if_neg (Nat.not_lt_zero _)]
          by_cases e : S' - 2 ^ l' = 0
          · rw [if_pos e, if_pos e]
            exact ⟨rfl, rfl⟩
          · rw [if_neg e, if_neg e]
            exact ⟨rfl, rfl⟩
        · rw [if_neg b, if_neg b]
          exact ⟨rfl, rfl⟩
    | succ d ih =>
      intro j y I1 hd hj hy f1 g1
      subst hy
      refine bm_go (am_ok_all 128 (by decide)) 60 ?_
      refine And.intro (fun cd => ?_) (fun _ => ?_)
      · rw [T384, nI_toInt (by omega)] at cd
        omega
      refine ⟨j, nI_toInt (by omega), (by omega : j < 384), ?_⟩
      refine ⟨j, nI_toInt (by omega), (by omega : j < 384), ?_⟩
      refine ih (j + 1) _ _ (by omega) (by omega) (nI_succ j).symm ((f1.u (by decide)).u (by decide)) (fun i hi => ?_)
      by_cases q : i = j
      · subst q
        rw [u_ne (by decide), u_eq, u_eq]
        exact ⟨rfl, rfl⟩
      · rw [u_ne (by decide), u_nj q, u_nj q, u_ne (by decide)]
        exact g1 i (by omega)
  refine bm_go (am_ok_all 128 (by decide)) 60 ?_
  exact lp0 _ 0 0 I rfl (Nat.zero_le _) rfl (frN.refl _ _) (fun i hi => by omega)
end PG

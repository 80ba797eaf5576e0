/-! pair: dawn -/
theorem Fo_ob49 {g : Nat → Nat → Nat → Option Nat} (hg : ∀ s l k v, g s l k = some v → v < 49) {s l : Nat} (hs : s < 64) : ob (Fo g s l) := fun v e => by have := Fo_lt49 hg s l v e; omega
section PD
variable {G : am_G} {l : Launch} {t : am_T} {I : am_I} {L : am_J} {Q : bm_P}
theorem sm_fewestOf49 {T : tT} {x : Int32} (s : Nat) (g : Nat → Nat → Nat → Option Nat) (hg : ∀ s l k v, g s l k = some v → v < 49) (h6 : tN T ≤ 6) (hn : I 61 14 = nI (tN T)) (hx : x = nI s) (hs : s ≤ al T) (hf : ∀ l, l < 6 → I 74 (6 * s + l) = eM (Fo g s l)) (h : Q (some (.int (eM (Fm g s)))) t I L) : bm_C G l 130 [.ref 61, .int x] t I L Q := by
  subst hx
  have p := Nat.two_pow_pos (tN T)
  have p6 := Nat.pow_le_pow_right (n := 2) (by decide) h6
  have s64 : s < 64 := by unfold al at hs; omega
  have lp : ∀ d k y b d4, tN T - k = d → k ≤ tN T → y = nI k → b = eM (if s = 0 then some 0 else ominN k (Fo g s)) → bm_W G l 130 13 [some (.ref 61), some (.int (nI s)), some (.int b), some (.int y), d4] [] t I L Q := by
    intro d
    induction d with
    | zero =>
      intro k y b d4 hd hk hy hb
      obtain rfl : k = tN T := by omega
      subst hy hb
      refine bm_go (am_ok_all 130 (by decide)) 60 ?_
      refine And.intro (fun _ => ?_) (fun cd => ?_)
      · by_cases s0 : s = 0
        · rw [if_pos s0]
          rw [s0, Fm_0] at h
          exact h
        · rw [if_neg s0, ← Fm_n h6 hs s0]
          exact h
      · rw [hn] at cd
        omega
    | succ d ih =>
      intro k y b d4 hd hk hy hb
      subst hy
      have step : ∀ b' d4, b' = eM (if s = 0 then some 0 else ominN (k + 1) (Fo g s)) → bm_W G l 130 13 [some (.ref 61), some (.int (nI s)), some (.int b'), some (.int (nI k + 1)), d4] [] t I L Q := fun b' d4 e => ih (k + 1) _ b' d4 (by omega) (by omega) (nI_succ k).symm e
      have nb := n_bit (s := s) (j := k) (by omega) (by omega)
      refine bm_go (am_ok_all 130 (by decide)) 60 ?_
      refine And.intro (fun cd => ?_) (fun _ => ?_)
      · rw [hn, nI_toInt (by omega), nI_toInt (by omega)] at cd
        omega
      refine And.intro (fun cd => ?_) (fun cd => ?_)
      · have bt : s.testBit k = false := by
          cases e : s.testBit k with
          | false => rfl
          | true => rw [nb, e] at cd; exact absurd rfl cd
        refine And.intro (fun _ => ?_) (fun cd => absurd rfl cd)
        refine step b _ ?_
        rw [hb]
        by_cases s0 : s = 0
        · rw [if_pos s0, if_pos s0]
        · rw [if_neg s0, if_neg s0]
          show _ = eM (omin (ominN k (Fo g s)) (Fo g s k))
          rw [Fo_out s0 bt]
          cases ominN k (Fo g s) <;> rfl
      · have bt : s.testBit k = true := by
          cases e : s.testBit k with
          | true => rfl
          | false => rw [nb, e] at cd; exact absurd cd (by decide)
        have s0 : s ≠ 0 := fun e => by rw [e] at bt; simp at bt
        rw [if_neg s0] at hb
        subst hb
        have of := Fo_ob49 hg (l := k) s64
        have ofN : ob (ominN k (Fo g s)) := ominN_ob (fun i => Fo_ob49 hg s64)
        have eF := eM_i of
        have eB := eM_i ofN
        have ix : ((6 : Int32) * nI s + nI k).toInt = ((6 * s + k : Nat) : Int) := by rw [k6, pk_mul, nI_add]; exact nI_toInt (by omega)
        have hk6 := hf k (by omega)
        have step : ∀ b' d4, b' = eM (omin (ominN k (Fo g s)) (Fo g s k)) → bm_W G l 130 13 [some (.ref 61), some (.int (nI s)), some (.int b'), some (.int (nI k + 1)), d4] [] t I L Q := fun b' d4 e => step b' d4 (by rw [if_neg s0]; exact e)
        generalize Fo g s k = a at *
        generalize ominN k (Fo g s) = b at *
        refine ⟨6 * s + k, ix, (by omega : 6 * s + k < 384), ?_⟩
        refine And.intro (fun cd => ?_) (fun c1 => ?_)
        · rw [hk6, eF] at cd
          refine step _ _ ?_
          cases a with
          | none => cases b <;> rfl
          | some v =>
            have cd : (v : Int) = -9 := cd
            omega
        · rw [hk6, eF] at c1
          cases a with
          | none => exact absurd rfl c1
          | some v =>
            have vb := of v rfl
            refine And.intro (fun c2 => ?_) (fun c2 => ?_)
            · rw [eB] at c2
              refine step _ _ ?_
              rw [hk6]
              cases b with
              | none => rfl
              | some w =>
                have c2 : (w : Int) = -9 := c2
                omega
            · rw [eB] at c2
              cases b with
              | none => exact absurd rfl c2
              | some w =>
                have wb := ofN w rfl
                refine And.intro (fun c3 => ?_) (fun c3 => ?_)
                · rw [hk6, eF, eB] at c3
                  have c3 : (w : Int) ≤ (v : Int) := c3
                  refine step _ _ ?_
                  show nI w = nI (min w v)
                  rw [Nat.min_eq_left (by omega)]
                · rw [hk6, eF, eB] at c3
                  have c3 : (v : Int) < (w : Int) := c3
                  refine step _ _ ?_
                  rw [hk6]
                  show nI v = nI (min w v)
                  rw [Nat.min_eq_right (by omega)]
  refine bm_go (am_ok_all 130 (by decide)) 60 ?_
  by_cases s0 : s = 0
  · subst s0
    first | refine And.intro (fun cd => absurd cd (by decide)) (fun _ => ?_) | refine And.intro (fun _ => ?_) (fun cd => absurd cd (by decide)) | refine And.intro (fun cd => ?_) (fun cd => ?_)
    exact lp _ 0 0 _ _ rfl (Nat.zero_le _) rfl (by rw [if_pos rfl]; rfl)
  · refine And.intro (fun _ => ?_) (fun cd => ?_)
    · exact lp _ 0 0 _ _ rfl (Nat.zero_le _) rfl (by rw [if_neg s0]; rfl)
    · rw [nI_toInt (by omega)] at cd
      exact absurd cd (by show ¬ ((s : Int) = 0); omega)

theorem sm_dawn {T : tT} (sh : Nat) (hok : tOk T) (h0n : 0 < tN T) (hm : mT T I) (a2 : I 61 19 = nI sh) (hsh : sh < 2 ^ 31) (h0 : dwS (bw T sh) (tN T) = none → ∀ I', frN [74, 77] I I' → Q (some (.int (-9))) t I' L) (h1 : ∀ w, dwS (bw T sh) (tN T) = some w → ∀ I', frN [74, 77] I I' → Q (some (.int (nI w.1))) t (am_u I' 61 0 (nI w.2)) L) : bm_C G l 155 [.ref 61] t I L Q := by
  have h6 := hok.2.2.2.1
  have hT : tOK T := Or.inl hok
  have p := Nat.two_pow_pos (tN T)
  have p6 := Nat.pow_le_pow_right (n := 2) (by decide) h6
  have p1 := Nat.pow_le_pow_right (n := 2) (by decide) h0n
  have a64 := al_lt hT
  have aln : al T + 1 = 2 ^ tN T := by unfold al; omega
  have bwl := bw_lt (T := T) (sh := sh) a64
  have T384' : (384 : Int32).toInt = 384 := rfl
  have fr14 : ∀ {J : am_I}, frN [74, 77] I J → J 61 14 = nI (tN T) := fun f => by rw [f 61 (by decide)]; exact hm.2.2.2.1
  have frM : ∀ {J : am_I}, frN [74, 77] I J → mT T J := fun f => hm.frN f (by decide) (by decide) (by decide) (by decide)
  have six : ∀ {J : am_I}, frN [74, 77] I J → (6 : Int32) <<< (J 61 14 &&& 31) = nI (6 * 2 ^ tN T) := fun f => by
    rw [fr14 f, k6, n_shl _ (by omega), Nat.shiftLeft_eq]
  have dvm : ∀ kk, kk < 384 → nI kk / 6 = nI (kk / 6) ∧ nI kk - nI kk / 6 * 6 = nI (kk % 6) := fun kk hk => by
    have := mdiv (c := kk) (w := 6) (by omega) (by decide) (by decide)
    rw [← k6] at this
    exact this
  /- the loop over the one that he begins with -/
  have main : ∀ d b y1 y2 y3 d4 d5 (I1 : am_I), tN T - b = d → b ≤ tN T → y1 = eM (fw (dwS (bw T sh) b)) → (∀ w, dwS (bw T sh) b = some w → y2 = nI w.2) → y3 = nI b → frN [74, 77] I I1 → tbD T sh I1 → bm_W G l 155 125 [some (.ref 61), some (.int y1), some (.int y2), some (.int y3), d4, d5] [] t I1 L Q := by
    intro d
    induction d with
    | zero =>
      intro b y1 y2 y3 d4 d5 I1 hd hb e1 e2 e3 f1 tb
      obtain rfl : b = tN T := by omega
      subst e1 e3
      refine bm_go (am_ok_all 155 (by decide)) 60 ?_
      refine And.intro (fun _ => ?_) (fun cd => ?_)
      · cases eW : dwS (bw T sh) (tN T) with
        | none =>
          refine And.intro (fun cd => absurd rfl cd) (fun _ => ?_)
          exact h0 eW I1 f1
        | some w =>
          obtain ⟨w1, w2⟩ := dwS_lt bwl _ w eW
          refine And.intro (fun _ => ?_) (fun cd => ?_)
          · rw [e2 w eW]
            refine sm_tells ?_
            exact h1 w eW I1 f1
          · have cd : (nI w.1).toInt = (-9 : Int) := cd
            rw [nI_toInt (by omega)] at cd
            omega
      · rw [fr14 f1] at cd
        omega
    | succ d ih =>
      intro b y1 y2 y3 d4 d5 I1 hd hb e1 e2 e3 f1 tb
      subst e1 e3
      have pb := Nat.two_pow_pos b
      have pb2 := Nat.pow_le_pow_right (n := 2) (by decide) (show b + 1 ≤ tN T by omega)
      rw [Nat.pow_succ] at pb2
      have st : dwS (bw T sh) (b + 1) = match bw T sh b with
        | none => dwS (bw T sh) b
        | some v => match dwS (bw T sh) b with
          | none => some (v, b)
          | some w => if v < w.1 then some (v, b) else some w := rfl
      have wl := dwS_lt bwl b
      have gF := gb_Fm sh b h6 (show b < tN T by omega)
      generalize hW : dwS (bw T sh) b = W at *
      /- behind all the steps -/
      have fin : ∀ I2 y4 d5, y4 = nI (6 * 2 ^ tN T) → frN [74, 77] I I2 → tbD T sh I2 → gD T (gb T sh b) (al T + 1) 0 0 I2 → bm_W G l 155 176 [some (.ref 61), some (.int (eM (fw W))), some (.int y2), some (.int (nI b)), some (.int y4), d5] [] t I2 L Q := by
        intro I2 y4 d5 e4 f2 tb2 g2
        subst e4
        have hf : ∀ l, l < 6 → I2 74 (6 * al T + l) = eM (Fo (gb T sh b) (al T) l) := by
          intro l hl
          rw [g2 (al T) l (Nat.le_refl _) hl (by omega)]
          congr 1
          rw [Fo_eq]
          unfold eS
          have a0 : ¬ al T = 0 := by omega
          rw [if_neg a0, if_neg a0]
          by_cases q : (al T).testBit l = true
          · have := two_le q
            have := Nat.two_pow_pos l
            have a1 : al T - 2 ^ l < al T + 1 := by omega
            rw [if_pos q, if_pos q, if_pos a1, Fo_eq, if_neg a0, if_pos q]
          · rw [if_neg q, if_neg q]
        have obw : ob (bw T sh b) := fun v e => by have := bwl b v e; omega
        have same : dwS (bw T sh) (b + 1) = W → ∀ d4 d5, bm_W G l 155 125 [some (.ref 61), some (.int (eM (fw W))), some (.int y2), some (.int (nI b + 1)), d4, d5] [] t I2 L Q := fun e d4 d5 => ih (b + 1) _ _ _ d4 d5 I2 (by omega) (by omega) (by rw [e]) (by rw [e]; exact e2) (nI_succ b).symm f2 tb2
        have new : ∀ v, dwS (bw T sh) (b + 1) = some (v, b) → ∀ d4 d5, bm_W G l 155 125 [some (.ref 61), some (.int (eM (some v))), some (.int (nI b)), some (.int (nI b + 1)), d4, d5] [] t I2 L Q := fun v e d4 d5 => ih (b + 1) _ _ _ d4 d5 I2 (by omega) (by omega) (by rw [e]; rfl) (fun w q => by
          rw [e] at q
          have q : (v, b) = w := Option.some.inj q
          rw [← q]) (nI_succ b).symm f2 tb2
        refine bm_go (am_ok_all 155 (by decide)) 90 ?_
        refine And.intro (fun _ => ?_) (fun cd => ?_)
        rotate_left
        · rw [six f2] at cd
          omega
        refine sm_every hT (frM f2) ?_
        refine sm_fewestOf49 (al T) (gb T sh b) (fun _ _ _ _ e => gb_lt e) h6 (fr14 f2) rfl (Nat.le_refl _) hf ?_
        rw [gF]
        cases eb : bw T sh b with
        | none =>
          rw [eb] at st
          refine And.intro (fun _ => ?_) (fun cd => absurd rfl cd)
          first | refine And.intro (fun cd => absurd cd (by decide)) (fun _ => ?_) | refine And.intro (fun _ => ?_) (fun cd => absurd cd (by decide)) | refine And.intro (fun cd => ?_) (fun cd => ?_)
          first | refine And.intro (fun cd => absurd cd (by decide)) (fun _ => ?_) | refine And.intro (fun _ => ?_) (fun cd => absurd cd (by decide)) | refine And.intro (fun cd => ?_) (fun cd => ?_)
          exact same st _ _
        | some v =>
          rw [eb] at st
          have vl := bwl b v eb
          have tv : (nI v).toInt = (v : Int) := nI_toInt (by omega)
          refine And.intro (fun cd => ?_) (fun _ => ?_)
          · have cd : (nI v).toInt = (-9 : Int) := cd
            rw [tv] at cd
            omega
          cases W with
          | none =>
            refine And.intro (fun _ => ?_) (fun cd => absurd rfl cd)
            first | refine And.intro (fun cd => absurd cd (by decide)) (fun _ => ?_) | refine And.intro (fun _ => ?_) (fun cd => absurd cd (by decide)) | refine And.intro (fun cd => ?_) (fun cd => ?_)
            first | refine And.intro (fun cd => absurd cd (by decide)) (fun _ => ?_) | refine And.intro (fun _ => ?_) (fun cd => absurd cd (by decide)) | refine And.intro (fun cd => ?_) (fun cd => ?_)
            exact new v st _ _
          | some w =>
            have wl2 := (wl w rfl).2
            have tw : (nI w.1).toInt = (w.1 : Int) := nI_toInt (by omega)
            have st : dwS (bw T sh) (b + 1) = if v < w.1 then some (v, b) else some w := st
            refine And.intro (fun cd => ?_) (fun _ => ?_)
            · have cd : (nI w.1).toInt = (-9 : Int) := cd
              rw [tw] at cd
              omega
            refine And.intro (fun c => ?_) (fun c => ?_)
            · have c : (nI w.1).toInt ≤ (nI v).toInt := c
              rw [tv, tw] at c
              first | refine And.intro (fun cd => absurd cd (by decide)) (fun _ => ?_) | refine And.intro (fun _ => ?_) (fun cd => absurd cd (by decide)) | refine And.intro (fun cd => ?_) (fun cd => ?_)
              first | refine And.intro (fun cd => absurd cd (by decide)) (fun _ => ?_) | refine And.intro (fun _ => ?_) (fun cd => absurd cd (by decide)) | refine And.intro (fun cd => ?_) (fun cd => ?_)
              exact same (by rw [st]; exact if_neg (by omega)) _ _
            · have c : (nI v).toInt < (nI w.1).toInt := c
              rw [tv, tw] at c
              first | refine And.intro (fun cd => absurd cd (by decide)) (fun _ => ?_) | refine And.intro (fun _ => ?_) (fun cd => absurd cd (by decide)) | refine And.intro (fun cd => ?_) (fun cd => ?_)
              first | refine And.intro (fun cd => absurd cd (by decide)) (fun _ => ?_) | refine And.intro (fun _ => ?_) (fun cd => absurd cd (by decide)) | refine And.intro (fun cd => ?_) (fun cd => ?_)
              exact new v (by rw [st]; exact if_pos (by omega)) _ _
      have lpK : ∀ d kk y4 (I2 : am_I), 6 * 2 ^ tN T - kk = d → 6 ≤ kk → kk ≤ 6 * 2 ^ tN T → y4 = nI kk → frN [74, 77] I I2 → tbD T sh I2 → gD T (gb T sh b) (kk / 6) (kk % 6) 0 I2 → bm_W G l 155 176 [some (.ref 61), some (.int (eM (fw W))), some (.int y2), some (.int (nI b)), some (.int y4), d5] [] t I2 L Q := by
        intro d
        induction d with
        | zero =>
          intro kk y4 I2 hd2 hk6 hkk e4 f2 tb2 g2
          obtain rfl : kk = 6 * 2 ^ tN T := by omega
          refine fin I2 y4 _ e4 f2 tb2 ?_
          rw [show 6 * 2 ^ tN T / 6 = al T + 1 by omega, show 6 * 2 ^ tN T % 6 = 0 by omega] at g2
          exact g2
        | succ d ih2 =>
          intro kk y4 I2 hd2 hk6 hkk e4 f2 tb2 g2
          subst e4
          have kl : kk < 384 := by omega
          obtain ⟨dv, rm⟩ := dvm kk kl
          have hs : kk / 6 ≤ al T := by omega
          have hs0 : kk / 6 ≠ 0 := by omega
          have hl6 : kk % 6 < 6 := Nat.mod_lt _ (by decide)
          have ek : 6 * (kk / 6) + kk % 6 = kk := Nat.div_add_mod kk 6
          have next : ∀ I3, frN [74, 77] I I3 → tbD T sh I3 → gD T (gb T sh b) (kk / 6) (kk % 6 + 1) 0 I3 → bm_W G l 155 176 [some (.ref 61), some (.int (eM (fw W))), some (.int y2), some (.int (nI b)), some (.int (nI kk + 1)), d5] [] t I3 L Q := by
            intro I3 f3 tb3 g3
            refine ih2 (kk + 1) _ I3 (by omega) (by omega) (by omega) (nI_succ kk).symm f3 tb3 ?_
            by_cases q : kk % 6 = 5
            · rw [show (kk + 1) / 6 = kk / 6 + 1 by omega, show (kk + 1) % 6 = 0 by omega]
              rw [q] at g3
              intro S' l' q1 q2 q3
              have out : ∀ l, 6 ≤ l → Fo (gb T sh b) (kk / 6) l = none := fun l hl => Fo_out hs0 (tb_big (n := 6) (by omega) hl)
              rw [eS_next, eS_skip (out 7 (by decide)), eS_skip (out 6 (by decide))]
              exact g3 S' l' q1 q2 q3
            · rw [show (kk + 1) / 6 = kk / 6 by omega, show (kk + 1) % 6 = kk % 6 + 1 by omega]
              exact g3
          have ev := g2 (kk / 6) (kk % 6) hs hl6 hs0
          rw [eS_now, ek] at ev
          refine bm_go (am_ok_all 155 (by decide)) 90 ?_
          refine And.intro (fun cd => ?_) (fun _ => ?_)
          · rw [six f2, nI_toInt (by omega), nI_toInt (by omega)] at cd
            omega
          refine ⟨kk, nI_toInt (by omega), kl, ?_⟩
          cases eF : Fo (gb T sh b) (kk / 6) (kk % 6) with
          | none =>
            rw [eF] at ev
            refine And.intro (fun _ => ?_) (fun cd => ?_)
            · refine next I2 f2 tb2 (fun S' l' q1 q2 q3 => ?_)
              rw [eS_skip eF]
              exact g2 S' l' q1 q2 q3
            · rw [ev] at cd
              exact absurd rfl cd
          | some f =>
            have hb2 : (kk / 6).testBit (kk % 6) = true := by
              cases w : (kk / 6).testBit (kk % 6) with
              | true => rfl
              | false => rw [Fo_out hs0 w] at eF; cases eF
            have ln : kk % 6 < tN T := by
              by_cases w : kk % 6 < tN T
              · exact w
              · rw [tb_big (n := tN T) (by omega) (by omega)] at hb2
                cases hb2
            rw [eF] at ev
            have fl := Fo_lt49 (fun _ _ _ _ e => gb_lt (T := T) (sh := sh) (b := b) e) _ _ f eF
            refine And.intro (fun cd => ?_) (fun _ => ?_)
            · rw [ev] at cd
              have cd : (nI f).toInt = (-9 : Int) := cd
              rw [nI_toInt (by omega)] at cd
              omega
            refine ⟨by decide, ?_⟩
            refine And.intro (fun cd => ?_) (fun _ => ?_)
            · rw [show (nI kk - nI kk / 6 * 6) = nI (kk % 6) from rm, fr14 f2, nI_toInt (by omega), nI_toInt (by omega)] at cd
              omega
            refine sm_dawns sh b (kk / 6) (kk % 6) f hok (frM f2) (by rw [ek]) hs ln hb2 eF tb2 g2 (fun I3 f3 g3 => ?_)
            exact next I3 (f2.trans (f3.mono (by decide))) (fun s l k q1 q2 q3 q4 => by rw [f3 77 (by decide)]; exact tb2 s l k q1 q2 q3 q4) g3
      have lpZ : ∀ d kk y4 (I2 : am_I), 6 - kk = d → kk ≤ 6 → y4 = nI kk → frN [74, 77] I I2 → tbD T sh I2 → (∀ j, j < 6 → I2 74 j = -9) → gD T (gb T sh b) 1 0 0 I2 → bm_W G l 155 176 [some (.ref 61), some (.int (eM (fw W))), some (.int y2), some (.int (nI b)), some (.int y4), d5] [] t I2 L Q := by
        intro d
        induction d with
        | zero =>
          intro kk y4 I2 hd2 hkk e4 f2 tb2 z2 g2
          obtain rfl : kk = 6 := by omega
          exact lpK _ 6 y4 I2 rfl (Nat.le_refl _) (by omega) e4 f2 tb2 g2
        | succ d ih2 =>
          intro kk y4 I2 hd2 hkk e4 f2 tb2 z2 g2
          subst e4
          refine bm_go (am_ok_all 155 (by decide)) 90 ?_
          refine And.intro (fun cd => ?_) (fun _ => ?_)
          · rw [six f2, nI_toInt (by omega), nI_toInt (by omega)] at cd
            omega
          refine ⟨kk, nI_toInt (by omega), (by omega : kk < 384), ?_⟩
          refine And.intro (fun _ => ?_) (fun cd => ?_)
          · exact ih2 (kk + 1) _ I2 (by omega) (by omega) (nI_succ kk).symm f2 tb2 z2 g2
          · rw [z2 kk (by omega)] at cd
            exact absurd rfl cd
      have lpF : ∀ d j y4 (I2 : am_I), 384 - j = d → j ≤ 384 → y4 = nI j → frN [74, 77] I I2 → tbD T sh I2 → (∀ i, i < j → I2 74 i = -9) → bm_W G l 155 136 [some (.ref 61), some (.int (eM (fw W))), some (.int y2), some (.int (nI b)), some (.int y4), d5] [] t I2 L Q := by
        intro d
        induction d with
        | zero =>
          intro j y4 I2 hd2 hj e4 f2 tb2 z2
          obtain rfl : j = 384 := by omega
          subst e4
          have i8 : (6 : Int32) * ((1 : Int32) <<< (nI b &&& 31)) + nI b = nI (6 * 2 ^ b + b) := by rw [shl1 (by omega), n_one, k6, pk_mul, nI_add]
          refine bm_go (am_ok_all 155 (by decide)) 60 ?_
          first | refine And.intro (fun cd => absurd cd (by decide)) (fun _ => ?_) | refine And.intro (fun _ => ?_) (fun cd => absurd cd (by decide)) | refine And.intro (fun cd => ?_) (fun cd => ?_)
          refine ⟨6 * 2 ^ b + b, by rw [i8]; exact nI_toInt (by omega), (by omega : 6 * 2 ^ b + b < 384), ?_⟩
          refine lpZ _ 0 _ _ rfl (Nat.zero_le _) rfl (f2.u (by decide)) (fun s l k q1 q2 q3 q4 => by rw [u_ne (by decide)]; exact tb2 s l k q1 q2 q3 q4) (fun j hj => by rw [u_nj (by omega)]; exact z2 j (by omega)) (fun S' l' q1 q2 q3 => ?_)
          have e1 : eS (gb T sh b) 1 0 0 S' l' = if S' = 2 ^ b ∧ l' = b then some 0 else none := by
            unfold eS
            rw [if_neg q3]
            by_cases q : S' = 2 ^ b ∧ l' = b
            · obtain ⟨r1, r2⟩ := q
              subst r1 r2
              have tt : (2 ^ l').testBit l' = true := by rw [Nat.testBit_two_pow]; exact decide_eq_true rfl
              have a1 : 2 ^ l' - 2 ^ l' < 1 := by omega
              rw [if_pos (⟨rfl, rfl⟩ : 2 ^ l' = 2 ^ l' ∧ l' = l'), if_pos tt, if_pos a1, Fo_eq, if_neg q3, if_pos tt, Nat.sub_self]
              have : ominN 8 (fun last => oadd (Fo (gb T sh l') 0 last) (gb T sh l' 0 last l')) = ominN 8 (fun last => if last = 7 then some 0 else none) := ominN_c 8 (fun i _ => by
                rw [Fo_eq, if_pos rfl]
                by_cases w : i = 7
                · rw [if_pos w, oadd_0l]
                  unfold gb
                  rw [if_pos rfl, if_pos ⟨w, rfl⟩]
                · rw [if_neg w]
                  rfl)
              rw [this]
              rfl
            · rw [if_neg q]
              by_cases bt : S'.testBit l' = true
              · rw [if_pos bt]
                have le := two_le bt
                have pl := Nat.two_pow_pos l'
                by_cases c : S' - 2 ^ l' < 1
                · rw [if_pos c, Fo_eq, if_neg q3, if_pos bt, show S' - 2 ^ l' = 0 by omega]
                  have lb : l' ≠ b := fun e => q ⟨by rw [← e]; omega, e⟩
                  exact (ominN_none 8).mpr (fun i _ => by
                    have : gb T sh b 0 i l' = none := by
                      unfold gb
                      rw [if_pos rfl, if_neg (fun w => lb w.2)]
                    rw [this, oadd_n])
                · rw [if_neg c]
                  by_cases c2 : S' - 2 ^ l' = 1
                  · rw [if_pos c2]
                    rfl
                  · rw [if_neg c2]
              · rw [if_neg bt]
          rw [e1]
          by_cases q : 6 * S' + l' = 6 * 2 ^ b + b
          · have r1 : S' = 2 ^ b := by omega
            have r2 : l' = b := by omega
            rw [q, u_eq, if_pos ⟨r1, r2⟩]
            rfl
          · rw [u_nj q, z2 _ (by omega), if_neg (fun w => q (by rw [w.1, w.2]))]
            rfl
        | succ d ih2 =>
          intro j y4 I2 hd2 hj e4 f2 tb2 z2
          subst e4
          refine bm_go (am_ok_all 155 (by decide)) 60 ?_
          refine And.intro (fun cd => ?_) (fun _ => ?_)
          · rw [T384', nI_toInt (by omega)] at cd
            omega
          refine ⟨j, nI_toInt (by omega), (by omega : j < 384), ?_⟩
          refine ih2 (j + 1) _ _ (by omega) (by omega) (nI_succ j).symm (f2.u (by decide)) (fun s l k q1 q2 q3 q4 => by rw [u_ne (by decide)]; exact tb2 s l k q1 q2 q3 q4) (fun i hi => ?_)
          by_cases q : i = j
          · subst q
            exact u_eq
          · rw [u_nj q]
            exact z2 i (by omega)
      refine bm_go (am_ok_all 155 (by decide)) 60 ?_
      refine And.intro (fun cd => ?_) (fun _ => ?_)
      · rw [fr14 f1, nI_toInt (by omega), nI_toInt (by omega)] at cd
        omega
      exact lpF _ 0 _ I1 rfl (Nat.zero_le _) rfl f1 tb (fun i hi => by omega)
  have lpT : ∀ d kk y3 d4 d5 (I1 : am_I), 6 * 2 ^ tN T - kk = d → kk ≤ 6 * 2 ^ tN T → y3 = nI kk → frN [74, 77] I I1 → (∀ s l k, s ≤ al T → l < tN T → k < tN T → s.testBit l = true → 6 * s + l < kk → I1 77 (36 * s + 6 * l + k) = eM (gw T sh s l k)) → bm_W G l 155 18 [some (.ref 61), some (.int (-9)), some (.int (-9)), some (.int y3), d4, d5] [] t I1 L Q := by
    intro d
    induction d with
    | zero =>
      intro kk y3 d4 d5 I1 hd hkk e3 f1 g1
      obtain rfl : kk = 6 * 2 ^ tN T := by omega
      subst e3
      refine bm_go (am_ok_all 155 (by decide)) 60 ?_
      refine And.intro (fun _ => ?_) (fun cd => ?_)
      · exact main _ 0 _ _ _ _ _ I1 rfl (Nat.zero_le _) rfl (fun w e => by cases e) rfl f1 (fun s l k q1 q2 q3 q4 => g1 s l k q1 q2 q3 q4 (by omega))
      · rw [six f1] at cd
        omega
    | succ d ih =>
      intro kk y3 d4 d5 I1 hd hkk e3 f1 g1
      subst e3
      have kl : kk < 384 := by omega
      obtain ⟨dv, rm⟩ := dvm kk kl
      have hs : kk / 6 ≤ al T := by omega
      have hl6 : kk % 6 < 6 := Nat.mod_lt _ (by decide)
      have ek : 6 * (kk / 6) + kk % 6 = kk := Nat.div_add_mod kk 6
      have dec : ∀ s l, l < tN T → 6 * s + l = kk → s = kk / 6 ∧ l = kk % 6 := fun s l q1 q2 => by omega
      have up : ∀ I2 d4, frN [74, 77] I I2 → (∀ s l k, s ≤ al T → l < tN T → k < tN T → s.testBit l = true → 6 * s + l < kk + 1 → I2 77 (36 * s + 6 * l + k) = eM (gw T sh s l k)) → bm_W G l 155 18 [some (.ref 61), some (.int (-9)), some (.int (-9)), some (.int (nI kk + 1)), d4, d5] [] t I2 L Q := fun I2 d4 f2 g2 => ih (kk + 1) _ d4 d5 I2 (by omega) (by omega) (nI_succ kk).symm f2 g2
      have nb1 := n_bit (s := kk / 6) (j := kk % 6) (by omega) (by omega)
      have eng : (nI kk / 6) >>> ((nI kk - nI kk / 6 * 6) &&& 31) &&& 1 = nI (if (kk / 6).testBit (kk % 6) then 1 else 0) := by rw [dv]; rw [← dv, rm, dv]; exact nb1
      have lpI : ∀ d to y4 (I2 : am_I), tN T - to = d → to ≤ tN T → y4 = nI to → frN [74, 77] I I2 → (∀ s l k, s ≤ al T → l < tN T → k < tN T → s.testBit l = true → (6 * s + l < kk ∨ (6 * s + l = kk ∧ k < to)) → I2 77 (36 * s + 6 * l + k) = eM (gw T sh s l k)) → bm_W G l 155 32 [some (.ref 61), some (.int (-9)), some (.int (-9)), some (.int (nI kk)), some (.int y4), d5] [] t I2 L Q := by
        intro d
        induction d with
        | zero =>
          intro to y4 I2 hd2 hto e4 f2 g2
          obtain rfl : to = tN T := by omega
          subst e4
          refine bm_go (am_ok_all 155 (by decide)) 60 ?_
          refine And.intro (fun _ => up I2 _ f2 (fun s l k q1 q2 q3 q4 q5 => g2 s l k q1 q2 q3 q4 (by omega))) (fun cd => ?_)
          rw [fr14 f2] at cd
          omega
        | succ d ih2 =>
          intro to y4 I2 hd2 hto e4 f2 g2
          subst e4
          have bad : ¬ (kk % 6 < tN T ∧ (kk / 6).testBit (kk % 6) = true) → ∀ d4, bm_W G l 155 18 [some (.ref 61), some (.int (-9)), some (.int (-9)), some (.int (nI kk + 1)), d4, d5] [] t I2 L Q := fun w d4 => up I2 d4 f2 (fun s l k q1 q2 q3 q4 q5 => by
            by_cases q : 6 * s + l = kk
            · obtain ⟨r1, r2⟩ := dec s l q2 q
              exact absurd ⟨by omega, by rw [← r1, ← r2]; exact q4⟩ w
            · exact g2 s l k q1 q2 q3 q4 (Or.inl (by omega)))
          have nb2 := n_bit (s := kk / 6) (j := to) (by omega) (by omega)
          rw [← dv] at nb2
          refine bm_go (am_ok_all 155 (by decide)) 150 ?_
          refine And.intro (fun cd => ?_) (fun _ => ?_)
          · rw [fr14 f2, nI_toInt (by omega), nI_toInt (by omega)] at cd
            omega
          refine ⟨by decide, ?_⟩
          refine And.intro (fun cd => ?_) (fun cd => ?_)
          · rw [show (nI kk - nI kk / 6 * 6) = nI (kk % 6) from rm, fr14 f2, nI_toInt (by omega), nI_toInt (by omega)] at cd
            exact bad (fun w => by omega) _
          rw [show (nI kk - nI kk / 6 * 6) = nI (kk % 6) from rm, fr14 f2, nI_toInt (by omega), nI_toInt (by omega)] at cd
          have ln : kk % 6 < tN T := by omega
          refine ⟨by decide, ?_⟩
          refine ⟨by decide, ?_⟩
          refine And.intro (fun c1 => ?_) (fun c1 => ?_)
          · refine bad (fun w => ?_) _
            refine c1 ?_
            rw [show (nI kk / 6) >>> ((nI kk - nI kk / 6 * 6) &&& 31) &&& 1 = _ from eng, w.2]
            rfl
          have hb2 : (kk / 6).testBit (kk % 6) = true := by
            cases e : (kk / 6).testBit (kk % 6) with
            | true => rfl
            | false =>
              rw [show (nI kk / 6) >>> ((nI kk - nI kk / 6 * 6) &&& 31) &&& 1 = _ from eng, e] at c1
              exact absurd c1 (by decide)
          have ix : ((6 : Int32) * nI kk + nI to).toInt = ((6 * kk + to : Nat) : Int) := by rw [k6, pk_mul, nI_add]; exact nI_toInt (by omega)
          have next : ∀ z, z = eM (gw T sh (kk / 6) (kk % 6) to) → bm_W G l 155 32 [some (.ref 61), some (.int (-9)), some (.int (-9)), some (.int (nI kk)), some (.int (nI to + 1)), d5] [] t (am_u I2 77 (6 * kk + to) z) L Q := by
            intro z ez
            refine ih2 (to + 1) _ _ (by omega) (by omega) (nI_succ to).symm (f2.u (by decide)) (fun s l k q1 q2 q3 q4 q5 => ?_)
            by_cases q : 36 * s + 6 * l + k = 6 * kk + to
            · have r0 : k = to := by omega
              obtain ⟨r1, r2⟩ := dec s l q2 (by omega)
              rw [q, u_eq, ez, r0, r1, r2]
            · rw [u_nj q]
              refine g2 s l k q1 q2 q3 q4 ?_
              rcases q5 with w | ⟨w, w2⟩
              · exact Or.inl w
              · exact Or.inr ⟨w, by omega⟩
          refine ⟨by decide, ?_⟩
          refine And.intro (fun c2 => ?_) (fun c2 => ?_)
          · have b2 : (kk / 6).testBit to = false := by
              cases e : (kk / 6).testBit to with
              | false => rfl
              | true =>
                refine absurd ?_ c2
                rw [show (nI kk / 6) >>> (nI to &&& 31) &&& 1 = _ from nb2, e]
                rfl
            refine ⟨by decide, ?_⟩
            refine ⟨by decide, ?_⟩
            refine sm_dawnSteps sh (kk % 6) (kk / 6) to hok (frM f2) (by rw [f2 61 (by decide)]; exact a2) hsh rm dv rfl ln hs (by omega) ?_
            refine ⟨6 * kk + to, ix, (by omega : 6 * kk + to < 2310), ?_⟩
            refine next _ ?_
            congr 1
            unfold gw
            rw [if_pos ⟨hs, by omega, b2, ln, hb2⟩]
          · have b2 : (kk / 6).testBit to = true := by
              cases e : (kk / 6).testBit to with
              | true => rfl
              | false =>
                rw [show (nI kk / 6) >>> (nI to &&& 31) &&& 1 = _ from nb2, e] at c2
                exact absurd c2 (by decide)
            refine ⟨6 * kk + to, ix, (by omega : 6 * kk + to < 2310), ?_⟩
            refine next _ ?_
            unfold gw
            rw [if_neg (fun w => by rw [b2] at w; exact absurd w.2.2.1 (by decide))]
            rfl
      refine bm_go (am_ok_all 155 (by decide)) 60 ?_
      refine And.intro (fun cd => ?_) (fun _ => ?_)
      · rw [six f1, nI_toInt (by omega), nI_toInt (by omega)] at cd
        omega
      exact lpI _ 0 _ I1 rfl (Nat.zero_le _) rfl f1 (fun s l k q1 q2 q3 q4 q5 => g1 s l k q1 q2 q3 q4 (by omega))
  refine bm_go (am_ok_all 155 (by decide)) 60 ?_
  refine And.intro (fun _ => ?_) (fun cd => ?_)
  · exact lpT _ 0 _ _ _ I rfl (Nat.zero_le _) rfl (frN.refl _ _) (fun s l k _ _ _ _ q => by omega)
  · rw [hm.2.2.2.1, nI_toInt (by omega)] at cd
    exact absurd cd (by show ¬ ((tN T : Int) = 0); omega)
theorem pair_dawn (h : Inv t I L) : bm_C G l 40 [.ref 0] t I L (pI G l 155 [.ref 61]) := by
  obtain ⟨T, sh, hc, hm, hs, a1, a2, hL, a4, hK, hS, hO, hG⟩ := h.2.2
  have hT := InvX.ok hG
  have n6 := hT.n6
  have p6 := Nat.pow_le_pow_right (n := 2) (by decide) n6
  have a64 := al_lt hT
  by_cases n0 : tN T = 0
  · refine bm_go (am_ok_all 40 (by decide)) 60 ?_
    refine And.intro (fun cd => ?_) (fun _ => ?_)
    · rw [hc.2.2.2.1, n0] at cd
      exact absurd rfl cd
    · refine ⟨_, rfl, ?_⟩
      refine bm_go (am_ok_all 155 (by decide)) 60 ?_
      refine And.intro (fun cd => ?_) (fun _ => ⟨rfl, h⟩)
      rw [hm.2.2.2.1, n0] at cd
      exact absurd rfl cd
  · have hok := hT.ok (k := 0) (by omega)
    have T20 : (1048576 : Int32).toInt = 1048576 := rfl
    have bwl := bw_lt (T := T) (sh := sh) a64
    have base : ∀ I1, frN [34, 35] I I1 → ∀ K, frN [74, 77] I1 K → Inv t K L := by
      intro I1 f1 K fK
      have f : frN [34, 35, 74, 77] I K := (f1.mono (by decide)).trans (fK.mono (by decide))
      exact ⟨h.1.frN f (by decide), h.2.1.frN f (by decide) (by decide) (by decide) (by decide), h.2.2.fr ⟨fun x hx => f x (fun q => hx ((by decide : ∀ x, x ∈ [34, 35, 74, 77] → x ∈ exX) x q)), by rw [f 15 (by decide)], fun j _ => by rw [f 25 (by decide)], fun j _ _ => by rw [f 61 (by decide)]⟩⟩
    refine bm_go (am_ok_all 40 (by decide)) 60 ?_
    refine And.intro (fun _ => ?_) (fun cd => ?_)
    rotate_left
    · rw [hc.2.2.2.1, nI_toInt (by omega)] at cd
      exact absurd cd (by show ¬ ((tN T : Int) = 0); omega)
    refine sp_fewestD sh hok (by omega) hc hL (fun I1 f1 z1 => ?_)
    have hm1 : mT T I1 := hm.frN f1 (by decide) (by decide) (by decide) (by decide)
    cases eW : dwS (bw T sh) (tN T) with
    | none =>
      refine And.intro (fun cd => ?_) (fun _ => ?_)
      · have cd : (nI 1048576).toInt < (1048576 : Int) := cd
        rw [nI_toInt (by decide)] at cd
        omega
      · refine ⟨_, rfl, ?_⟩
        refine sm_dawn sh hok (by omega) hm1 (by rw [f1 61 (by decide)]; exact a2) (by omega) (fun _ I2 f2 => ⟨rfl, base I1 f1 I2 f2⟩) (fun w e => by rw [eW] at e; cases e)
    | some w =>
      obtain ⟨w2, w1⟩ := dwS_lt bwl _ w eW
      have tw : (nI w.1).toInt = (w.1 : Int) := nI_toInt (by omega)
      have z := z1 w eW
      refine And.intro (fun _ => ?_) (fun cd => ?_)
      · refine sp_besides ?_
        refine ⟨_, rfl, ?_⟩
        rw [z]
        generalize hJ : am_u I1 36 0 (nI w.2) = J
        have fJ : frN [36] I1 J := by rw [← hJ]; exact (frN.refl _ _).u (by decide)
        have hmJ : mT T J := hm1.frN fJ (by decide) (by decide) (by decide) (by decide)
        refine sm_dawn sh hok (by omega) hmJ (by rw [fJ 61 (by decide), f1 61 (by decide)]; exact a2) (by omega) (fun e => by rw [eW] at e; cases e) (fun w' e I2 f2 => ?_)
        rw [eW] at e
        have e : w = w' := Option.some.inj e
        subst e
        refine ⟨rfl, ?_⟩
        rw [← hJ] at f2
        exact told_gen (by decide) (base I1 f1) f2
      · have cd : (1048576 : Int) ≤ (nI w.1).toInt := cd
        rw [tw] at cd
        omega
end PD

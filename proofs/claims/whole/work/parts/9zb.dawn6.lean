/-! putting out at dawn: the class, all of it -/
def bw (T : tT) (sh k : Nat) : Option Nat := Bo (gw T sh) (tN T) (al T) (2 ^ k) k
def dwS (P : Nat → Option Nat) : Nat → Option (Nat × Nat)
  | 0 => none
  | i + 1 => match P i with
    | none => dwS P i
    | some v => match dwS P i with
      | none => some (v, i)
      | some w => if v < w.1 then some (v, i) else some w
theorem dwS_lt {P : Nat → Option Nat} {b : Nat} (hP : ∀ i v, P i = some v → v < b) : ∀ (i : Nat) (w : Nat × Nat), dwS P i = some w → w.2 < i ∧ w.1 < b
  | 0, w, e => by cases e
  | i + 1, w, e => by
    unfold dwS at e
    cases h1 : P i with
    | none =>
      rw [h1] at e
      obtain ⟨q1, q2⟩ := dwS_lt hP i w e
      exact ⟨by omega, q2⟩
    | some v =>
      rw [h1] at e
      cases h2 : dwS P i with
      | none =>
        rw [h2] at e
        have e : (v, i) = w := Option.some.inj e
        rw [← e]
        exact ⟨Nat.lt_succ_self i, hP i v h1⟩
      | some u =>
        rw [h2] at e
        have e : (if v < u.1 then some (v, i) else some u) = some w := e
        by_cases q : v < u.1
        · rw [if_pos q] at e
          have e : (v, i) = w := Option.some.inj e
          rw [← e]
          exact ⟨Nat.lt_succ_self i, hP i v h1⟩
        · rw [if_neg q] at e
          have e : u = w := Option.some.inj e
          rw [← e]
          obtain ⟨q1, q2⟩ := dwS_lt hP i u h2
          exact ⟨by omega, q2⟩
theorem bw_lt {T : tT} {sh : Nat} (h64 : al T < 64) : ∀ i v, bw T sh i = some v → v < 4000 := fun i v e => by
  have := Bw_lt (al T) _ (2 ^ i) i v rfl e
  have := Nat.two_pow_pos i
  omega
/-- the class's entry for a set that burns -/
theorem Bw_tm {T : tT} (sh B la : Nat) (h6 : tN T ≤ 6) (hB1 : 1 ≤ B) (hB : B ≤ al T) (hl : la < tN T) (hb : B.testBit la = false) : ominN (tN T) (tmD T (tP T la) (shn T sh la) (lit T sh B) B (fun k => Bo (gw T sh) (tN T) (al T) (al T - B + 2 ^ k) k) 49) = Bo (gw T sh) (tN T) (al T) (al T - B) la := by
  have p := Nat.two_pow_pos (tN T)
  have p6 := Nat.pow_le_pow_right (n := 2) (by decide) h6
  have a64 : al T < 64 := by unfold al; omega
  have sb := fun k hk => sub_bit (tN T) (by omega) B (by omega) (by unfold al at hB; omega) k hk
  have eR : (2 ^ tN T - 1 - B) = al T - B := rfl
  rw [eR] at sb
  rw [Bo_eq (gw T sh) (tN T) (al T) (al T - B) la, if_neg (by omega)]
  refine ominN_c _ (fun k hk => ?_)
  have bk := sb k (by omega)
  rw [decide_eq_true hk, Bool.true_and] at bk
  have bl := sb la (by omega)
  rw [decide_eq_true hl, Bool.true_and, hb] at bl
  unfold tmD
  rw [bk]
  cases hBk : B.testBit k with
  | false => rfl
  | true =>
    have eg : gw T sh (al T - B) la k = dst T sh (al T - B) la k := by
      unfold gw
      rw [if_pos ⟨by omega, hk, by rw [bk, hBk]; rfl, hl, bl⟩]
    show oadd _ _ = oadd (gw T sh (al T - B) la k) _
    rw [eg]
    unfold dst
    rw [show al T - (al T - B) = B by omega]
def tb35 (T : tT) (sh B la : Nat) (I : am_I) : Prop := ∀ B' l', B' ≤ al T → l' < tN T → B'.testBit l' = false → (B' = 0 ∨ B' < B ∨ (B' = B ∧ l' < la)) → I 35 (8 * B' + l') = eN (Bo (gw T sh) (tN T) (al T) (al T - B') l')
section PD
variable {G : am_G} {l : Launch} {t : am_T} {I : am_I} {L : am_J} {Q : bm_P}
theorem sp_fewestD {T : tT} (sh : Nat) (hok : tOk T) (h0n : 0 < tN T) (hc : cT T I) (hL : cL T sh 13 I) (h : ∀ I', frN [34, 35] I I' → (∀ w, dwS (bw T sh) (tN T) = some w → I' 34 0 = nI w.2) → Q (some (.int (eN (fw (dwS (bw T sh) (tN T)))))) t I' L) : bm_C G l 168 [.ref 34, .ref 7, .ref 12] t I L Q := by
  have h6 := hok.2.2.2.1
  have p := Nat.two_pow_pos (tN T)
  have p6 := Nat.pow_le_pow_right (n := 2) (by decide) h6
  have a64 := al_lt (Or.inl hok)
  have p1 := Nat.pow_le_pow_right (n := 2) (by decide) h0n
  have hcf : ∀ {I1 : am_I}, frN [34, 35] I I1 → cT T I1 ∧ cL T sh 13 I1 := by
    intro I1 f
    refine ⟨?_, ?_⟩
    · unfold cT cG cLp at hc ⊢
      rw [f 7 (by decide), f 8 (by decide), f 9 (by decide), f 10 (by decide), f 11 (by decide)]
      exact hc
    · unfold cL at hL ⊢
      rw [f 13 (by decide)]
      exact hL
  have bwl := bw_lt (T := T) (sh := sh) a64
  have lpE : ∀ d k y4 y5 d6 (I1 : am_I), tN T - k = d → k ≤ tN T → y4 = eN (fw (dwS (bw T sh) k)) → y5 = nI k → frN [34, 35] I I1 → (∀ w, dwS (bw T sh) k = some w → I1 34 0 = nI w.2) → tb35 T sh (al T) 0 I1 → bm_W G l 168 85 [some (.ref 34), some (.ref 7), some (.ref 12), some (.int (nI (al T))), some (.int y4), some (.int y5), d6] [] t I1 L Q := by
    intro d
    induction d with
    | zero =>
      intro k y4 y5 d6 I1 hd hk e4 e5 f1 z1 g1
      obtain rfl : k = tN T := by omega
      subst e4 e5
      refine bm_go (am_ok_all 168 (by decide)) 60 ?_
      refine And.intro (fun _ => h I1 f1 z1) (fun cd => ?_)
      rw [(hcf f1).1.2.2.2.1] at cd
      omega
    | succ d ih =>
      intro k y4 y5 d6 I1 hd hk e4 e5 f1 z1 g1
      subst e4 e5
      have ak : nI (al T) &&& ((1 : Int32) <<< (nI k &&& 31) ^^^ (-1)) = nI (al T - 2 ^ k) := by
        have := and_cm1 (al T) a64 k (by omega) (by rw [tb_al]; exact decide_eq_true (by omega))
        rw [shl1 (by omega), km1, n_cm, n_and, this]
      have kb : (al T).testBit k = true := by rw [tb_al]; exact decide_eq_true (by omega)
      have le := two_le kb
      have pk2 := Nat.two_pow_pos k
      have ev := g1 (al T - 2 ^ k) k (Nat.sub_le _ _) (by omega) (bit_dn (al T) a64 k (by omega) kb).1 (Or.inr (Or.inl (by have := Nat.two_pow_pos k; omega)))
      rw [show al T - (al T - 2 ^ k) = 2 ^ k by omega] at ev
      have ev : I1 35 (8 * (al T - 2 ^ k) + k) = eN (bw T sh k) := ev
      have st : dwS (bw T sh) (k + 1) = match bw T sh k with
        | none => dwS (bw T sh) k
        | some v => match dwS (bw T sh) k with
          | none => some (v, k)
          | some w => if v < w.1 then some (v, k) else some w := rfl
      have wl := dwS_lt bwl k
      have bk := bwl k
      have Vl : al T - 2 ^ k < 64 := Nat.lt_of_le_of_lt (Nat.sub_le _ _) a64
      generalize hW : dwS (bw T sh) k = W at *
      have same : dwS (bw T sh) (k + 1) = W → ∀ d6, bm_W G l 168 85 [some (.ref 34), some (.ref 7), some (.ref 12), some (.int (nI (al T))), some (.int (eN (fw W))), some (.int (nI k + 1)), d6] [] t I1 L Q := fun e d6 => ih (k + 1) _ _ d6 I1 (by omega) (by omega) (by rw [e]) (nI_succ k).symm f1 (by rw [e]; exact z1) g1
      have new : ∀ v, dwS (bw T sh) (k + 1) = some (v, k) → ∀ d6, bm_W G l 168 85 [some (.ref 34), some (.ref 7), some (.ref 12), some (.int (nI (al T))), some (.int (eN (some v))), some (.int (nI k + 1)), d6] [] t (am_u I1 34 0 (nI k)) L Q := fun v e d6 => ih (k + 1) _ _ d6 _ (by omega) (by omega) (by rw [e]; rfl) (nI_succ k).symm (f1.u (by decide)) (fun w q => by
        rw [e] at q
        have q : (v, k) = w := Option.some.inj q
        rw [← q, u_eq]) (fun B' l' q1 q2 q3 q4 => by rw [u_ne (by decide)]; exact g1 B' l' q1 q2 q3 q4)
      refine bm_go (am_ok_all 168 (by decide)) 60 ?_
      refine And.intro (fun cd => ?_) (fun _ => ?_)
      · rw [(hcf f1).1.2.2.2.1, nI_toInt (by omega), nI_toInt (by omega)] at cd
        omega
      refine sp_keyD (al T - 2 ^ k) k ak rfl Vl (by omega) ?_
      refine ⟨8 * (al T - 2 ^ k) + k, nI_toInt (by omega), (by omega : 8 * (al T - 2 ^ k) + k < 512), ?_⟩
      rw [ev]
      cases eb : bw T sh k with
      | none =>
        rw [eb] at st
        refine And.intro (fun _ => same st _) (fun cd => ?_)
        have cd : (nI 1048576).toInt < (eN (fw W)).toInt := cd
        rw [nI_toInt (by decide)] at cd
        cases W with
        | none =>
          have cd : (1048576 : Int) < (nI 1048576).toInt := cd
          rw [nI_toInt (by decide)] at cd
          omega
        | some w =>
          have cd : (1048576 : Int) < (nI w.1).toInt := cd
          have := (wl w rfl).2
          rw [nI_toInt (by omega)] at cd
          omega
      | some v =>
        have vl := bk v eb
        rw [eb] at st
        have tv : (eN (some v)).toInt = (v : Int) := nI_toInt (by omega)
        cases W with
        | none =>
          refine And.intro (fun cd => ?_) (fun _ => new v st _)
          rw [tv] at cd
          have cd : (nI 1048576).toInt ≤ (v : Int) := cd
          rw [nI_toInt (by decide)] at cd
          omega
        | some w =>
          have wl2 := (wl w rfl).2
          have tw : (eN (fw (some w))).toInt = (w.1 : Int) := nI_toInt (by omega)
          have st : dwS (bw T sh) (k + 1) = if v < w.1 then some (v, k) else some w := st
          refine And.intro (fun cd => ?_) (fun cd => ?_)
          · rw [tv, tw] at cd
            exact same (by rw [st]; exact if_neg (by omega)) _
          · rw [tv, tw] at cd
            exact new v (by rw [st]; exact if_pos (by omega)) _
  have lp : ∀ d B y4 d5 d6 (I1 : am_I), al T - B = d → 1 ≤ B → B ≤ al T → y4 = nI B → frN [34, 35] I I1 → tb35 T sh B 0 I1 → bm_W G l 168 16 [some (.ref 34), some (.ref 7), some (.ref 12), some (.int (nI (al T))), some (.int y4), d5, d6] [] t I1 L Q := by
    intro d
    induction d with
    | zero =>
      intro B y4 d5 d6 I1 hd hB1 hB e4 f1 g1
      obtain rfl : B = al T := by omega
      subst e4
      refine bm_go (am_ok_all 168 (by decide)) 60 ?_
      refine And.intro (fun _ => ?_) (fun cd => by omega)
      exact lpE _ 0 _ _ _ I1 rfl (Nat.zero_le _) rfl rfl f1 (fun w e => by cases e) g1
    | succ d ih =>
      intro B y4 d5 d6 I1 hd hB1 hB e4 f1 g1
      subst e4
      have lpI : ∀ d la y5 d6 (I2 : am_I), tN T - la = d → la ≤ tN T → y5 = nI la → frN [34, 35] I I2 → tb35 T sh B la I2 → bm_W G l 168 25 [some (.ref 34), some (.ref 7), some (.ref 12), some (.int (nI (al T))), some (.int (nI B)), some (.int y5), d6] [] t I2 L Q := by
        intro d
        induction d with
        | zero =>
          intro la y5 d6 I2 hd2 hla e5 f2 g2
          obtain rfl : la = tN T := by omega
          subst e5
          refine bm_go (am_ok_all 168 (by decide)) 60 ?_
          refine And.intro (fun _ => ?_) (fun cd => ?_)
          · refine ih (B + 1) _ _ _ I2 (by omega) (by omega) (by omega) (nI_succ B).symm f2 (fun B' l' q1 q2 q3 q4 => g2 B' l' q1 q2 q3 ?_)
            rcases q4 with q | q | q
            · exact Or.inl q
            · by_cases w : B' = B
              · exact Or.inr (Or.inr ⟨w, q2⟩)
              · exact Or.inr (Or.inl (by omega))
            · omega
          · rw [(hcf f2).1.2.2.2.1] at cd
            omega
        | succ d ih2 =>
          intro la y5 d6 I2 hd2 hla e5 f2 g2
          subst e5
          obtain ⟨hc2, hL2⟩ := hcf f2
          refine bm_go (am_ok_all 168 (by decide)) 60 ?_
          refine And.intro (fun cd => ?_) (fun _ => ?_)
          · rw [hc2.2.2.2.1, nI_toInt (by omega), nI_toInt (by omega)] at cd
            omega
          refine sp_isIn B la rfl rfl (by omega) (by omega) (fun b => ?_) (fun b => ?_)
          · first | refine And.intro (fun cd => absurd cd (by decide)) (fun _ => ?_) | refine And.intro (fun _ => ?_) (fun cd => absurd cd (by decide)) | refine And.intro (fun cd => ?_) (fun cd => ?_)
            refine ih2 (la + 1) _ _ I2 (by omega) (by omega) (nI_succ la).symm f2 (fun B' l' q1 q2 q3 q4 => g2 B' l' q1 q2 q3 ?_)
            rcases q4 with q | q | q
            · exact Or.inl q
            · exact Or.inr (Or.inl q)
            · by_cases w : l' = la
              · rw [q.1, w, b] at q3
                cases q3
              · exact Or.inr (Or.inr ⟨q.1, by omega⟩)
          · first | refine And.intro (fun cd => absurd cd (by decide)) (fun _ => ?_) | refine And.intro (fun _ => ?_) (fun cd => absurd cd (by decide)) | refine And.intro (fun cd => ?_) (fun cd => ?_)
            refine sp_keyD B la rfl rfl (by omega) (by omega) ?_
            refine sp_stepsFrom sh B la (fun k => Bo (gw T sh) (tN T) (al T) (al T - B + 2 ^ k) k) hok hc2 hL2 rfl rfl (by omega) (by omega) (fun k v e => by
              have := Bw_lt (al T) _ _ k v rfl e
              have := Nat.two_pow_pos k
              omega) (fun k hk hbk => ?_) ?_
            · have le := two_le hbk
              have pk := Nat.two_pow_pos k
              have := g2 (B - 2 ^ k) k (by omega) hk (bit_dn B (by omega) k (by omega) hbk).1 (Or.inr (Or.inl (by omega)))
              rw [this, show al T - (B - 2 ^ k) = al T - B + 2 ^ k by omega]
            · rw [Bw_tm sh B la h6 hB1 hB (by omega) b]
              refine ⟨8 * B + la, nI_toInt (by omega), (by omega : 8 * B + la < 512), ?_⟩
              refine ih2 (la + 1) _ _ _ (by omega) (by omega) (nI_succ la).symm (f2.u (by decide)) (fun B' l' q1 q2 q3 q4 => ?_)
              by_cases q : 8 * B' + l' = 8 * B + la
              · have r1 : B' = B := by omega
                have r2 : l' = la := by omega
                subst r1 r2
                exact u_eq
              · rw [u_nj q]
                refine g2 B' l' q1 q2 q3 ?_
                rcases q4 with w | w | w
                · exact Or.inl w
                · exact Or.inr (Or.inl w)
                · exact Or.inr (Or.inr ⟨w.1, by omega⟩)
      refine bm_go (am_ok_all 168 (by decide)) 60 ?_
      refine And.intro (fun cd => ?_) (fun _ => ?_)
      · rw [nI_toInt (by omega), nI_toInt (by omega)] at cd
        omega
      exact lpI _ 0 _ _ I1 rfl (Nat.zero_le _) rfl f1 g1
  refine bm_go (am_ok_all 168 (by decide)) 60 ?_
  refine sp_all (Or.inl hok) hc.2.2.2.1 ?_
  refine sp_fill_35 ?_
  refine lp _ 1 _ _ _ _ rfl (Nat.le_refl _) (by unfold al; omega) rfl ((frN.refl _ _).f (by decide)) (fun B' l' q1 q2 q3 q4 => ?_)
  have : B' = 0 := by omega
  subst this
  rw [show (am_SH 35).2 = 512 from rfl, f_eq (by omega), Bo_eq, if_pos (by omega)]
  rfl
end PD

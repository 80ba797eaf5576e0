/-! the class: how many orders -/
def okD (D : Nat → Nat) (s k : Nat) : Bool := decide (D k &&& cm s = 0)
def cW (g : Nat → Nat → Nat → Option Nat) (ok : Nat → Nat → Bool) (s la k : Nat) (I : am_I) : Prop := ∀ S' l', S' < 64 → l' < 8 → I 31 (8 * S' + l') = nI (eW g ok s la k S' l')
def dmd (a b : Nat → Nat) : Nat → Nat → Nat
  | 0, _ => 0
  | i + 1, k => if k = b i then dmd a b i k ||| 1 <<< a i else dmd a b i k
theorem dmd_lt {a b : Nat → Nat} (h : ∀ i, a i < 6) : ∀ m k, dmd a b m k < 64
  | 0, _ => (by decide : 0 < 64)
  | m + 1, k => by
    have ih := dmd_lt (b := b) h m k
    show (if k = b m then dmd a b m k ||| 1 <<< a m else dmd a b m k) < 64
    split
    · exact or_lt (n := 6) ih (one_lt (h m))
    · exact ih
section PH
variable {G : am_G} {l : Launch} {t : am_T} {I : am_I} {L : am_J} {Q : bm_P}
theorem sp_demandNothing (h : ∀ I', frN [32] I I' → (∀ k, k < 8 → I' 32 k = nI 0) → Q none t I' L) : bm_C G l 191 [.ref 25] t I L Q := by
  refine bm_go (am_ok_all 191 (by decide)) 30 ?_
  refine sp_fill_32 ?_
  refine h _ ((frN.refl _ _).f (by decide)) (fun k hk => ?_)
  rw [show (am_SH 32).2 = 8 from rfl, f_eq hk]
  rfl
theorem sp_demand {x y : Int32} (a b d : Nat) (hx : x = nI a) (hy : y = nI b) (ha : a < 32) (hb : b < 8) (hd : I 32 b = nI d) (h : Q none t (am_u I 32 b (nI (d ||| 1 <<< a))) L) : bm_C G l 192 [.ref 25, .int x, .int y] t I L Q := by
  subst hx hy
  refine bm_go (am_ok_all 192 (by decide)) 30 ?_
  refine ⟨b, and7 hb, hb, ?_⟩
  refine ⟨b, and7 hb, hb, ?_⟩
  have e : I 32 b ||| (1 : Int32) <<< (nI a &&& 31) = nI (d ||| 1 <<< a) := by rw [hd, k1, n_shl _ ha, n_or]
  rw [← e] at h
  exact h
theorem sp_demandOf (m : Nat) (a b : Nat → Nat) (hm : m ≤ 8) (e0 : I 22 0 = nI m) (hab : ∀ i, i < m → a i < 6 ∧ b i < 6 ∧ I 23 i = nI (a i) ∧ I 24 i = nI (b i)) (hz : ∀ k, k < 8 → I 32 k = nI 0) (h : ∀ I', frN [32] I I' → (∀ k, k < 8 → I' 32 k = nI (dmd a b m k)) → Q none t I' L) : bm_C G l 221 [.ref 22, .ref 25] t I L Q := by
  have lp : ∀ d i y (I1 : am_I), m - i = d → i ≤ m → y = nI i → frN [32] I I1 → (∀ k, k < 8 → I1 32 k = nI (dmd a b i k)) → bm_W G l 221 2 [some (.ref 22), some (.ref 25), some (.int y)] [] t I1 L Q := by
    intro d
    induction d with
    | zero =>
      intro i y I1 hd hi hy f1 g1
      obtain rfl : i = m := by omega
      subst hy
      refine bm_go (am_ok_all 221 (by decide)) 30 ?_
      refine And.intro (fun _ => h I1 f1 g1) (fun cd => ?_)
      rw [f1 22 (by decide), e0] at cd
      omega
    | succ d ih =>
      intro i y I1 hd hi hy f1 g1
      subst hy
      obtain ⟨q1, q2, q3, q4⟩ := hab i (by omega)
      refine bm_go (am_ok_all 221 (by decide)) 30 ?_
      refine And.intro (fun cd => ?_) (fun _ => ?_)
      · rw [f1 22 (by decide), e0, nI_toInt (by omega), nI_toInt (by omega)] at cd
        omega
      refine And.intro (fun cd => ?_) (fun _ => ?_)
      · rw [T8, nI_toInt (by omega)] at cd
        omega
      refine ⟨i, nI_toInt (by omega), (by omega : i < 8), ?_⟩
      refine ⟨i, nI_toInt (by omega), (by omega : i < 8), ?_⟩
      refine sp_demand (a i) (b i) _ (by rw [f1 23 (by decide)]; exact q3) (by rw [f1 24 (by decide)]; exact q4) (by omega) (by omega) (g1 _ (by omega)) ?_
      refine ih (i + 1) _ _ (by omega) (by omega) (nI_succ i).symm (f1.u (by decide)) (fun k hk => ?_)
      show _ = nI (if k = b i then dmd a b i k ||| 1 <<< a i else dmd a b i k)
      by_cases q : k = b i
      · rw [if_pos q, ← q, u_eq]
      · rw [if_neg q, u_nj q]
        exact g1 k hk
  refine bm_go (am_ok_all 221 (by decide)) 30 ?_
  exact lp _ 0 0 I rfl (Nat.zero_le _) rfl (frN.refl _ _) (fun k hk => hz k hk)
theorem sp_addWays {T : tT} {x y : Int32} (sh s la : Nat) (D : Nat → Nat) (h6 : tN T ≤ 6) (hD : ∀ k, D k < 64) (hx : x = nI s) (hy : y = nI la) (hs : s < al T) (hl : la < 8) (h3 : I 25 3 = nI (tN T)) (hg : ∀ s l k, s < 64 → l < 8 → k < 8 → I 27 (64 * s + 8 * l + k) = eN (gap T sh s l k)) (hd : ∀ k, k < 8 → I 32 k = nI (D k)) (h0 : cW (gap T sh) (okD D) s la 0 I) (h : ∀ I', frN [31] I I' → cW (gap T sh) (okD D) s (la + 1) 0 I' → Q none t I' L) : bm_C G l 194 [.ref 25, .int x, .int y] t I L Q := by
  subst hx hy
  have p := Nat.two_pow_pos (tN T)
  have p6 := Nat.pow_le_pow_right (n := 2) (by decide) h6
  have s64 : s < 64 := by unfold al at hs; omega
  have og : ∀ k, ob (gap T sh s la k) := fun k v e => by have := gap_lt e; omega
  have T20 : (1048576 : Int32).toInt = 1048576 := rfl
  have wl := Wo_lt (gap T sh) (okD D) (s := s) la s64
  have eW0 : (nI (Wo (gap T sh) (okD D) s la)).toInt = ((Wo (gap T sh) (okD D) s la : Nat) : Int) := nI_toInt (by omega)
  have lp : ∀ d k y d5 (I1 : am_I), tN T - k = d → k ≤ tN T → y = nI k → frN [31] I I1 → cW (gap T sh) (okD D) s la k I1 → (k ≠ 0 → Wo (gap T sh) (okD D) s la ≠ 0) → bm_W G l 194 14 [some (.ref 25), some (.int (nI s)), some (.int (nI la)), some (.int (nI (Wo (gap T sh) (okD D) s la))), some (.int y), d5] [] t I1 L Q := by
    intro d
    induction d with
    | zero =>
      intro k y d5 I1 hd1 hk hy f1 g1 _
      obtain rfl : k = tN T := by omega
      subst hy
      refine bm_go (am_ok_all 194 (by decide)) 60 ?_
      refine And.intro (fun _ => ?_) (fun cd => ?_)
      · refine h I1 f1 (fun S' l' q1 q2 => ?_)
        rw [eW_row (n := tN T) (fun k hk => by unfold gap; rw [if_neg (fun w => by have := w.2.1; omega)])]
        exact g1 S' l' q1 q2
      · rw [f1 25 (by decide), h3] at cd
        omega
    | succ d ih =>
      intro k y d5 I1 hd1 hk hy f1 g1 hnz
      subst hy
      have hg1 : ∀ s l k, s < 64 → l < 8 → k < 8 → I1 27 (64 * s + 8 * l + k) = eN (gap T sh s l k) := by rw [f1 27 (by decide)]; exact hg
      refine bm_go (am_ok_all 194 (by decide)) 90 ?_
      refine And.intro (fun cd => ?_) (fun _ => ?_)
      · rw [f1 25 (by decide), h3, nI_toInt (by omega), nI_toInt (by omega)] at cd
        omega
      refine And.intro (fun cd => ?_) (fun cd => ?_)
      · rw [eW0] at cd
        have cd : ((Wo (gap T sh) (okD D) s la : Nat) : Int) ≤ 0 := cd
        have z : Wo (gap T sh) (okD D) s la = 0 := by omega
        have k0 : k = 0 := by
          by_cases q : k = 0
          · exact q
          · exact absurd z (hnz q)
        subst k0
        refine h I1 f1 (fun S' l' q1 q2 => ?_)
        rw [eW_skip z]
        exact g1 S' l' q1 q2
      · rw [eW0] at cd
        have cd : (0 : Int) < ((Wo (gap T sh) (okD D) s la : Nat) : Int) := cd
        have nz : Wo (gap T sh) (okD D) s la ≠ 0 := by omega
        have ek : I1 32 k = nI (D k) := by rw [f1 32 (by decide)]; exact hd k (by omega)
        have ed : I1 32 k &&& (nI s ^^^ (-1)) = nI (D k &&& cm s) := by rw [ek, km1, n_cm, n_and]
        have dl : D k &&& cm s < 64 := Nat.lt_of_le_of_lt Nat.and_le_left (hD k)
        have skip : ((gap T sh s la k).isSome && okD D s k) = false → ∀ d5, bm_W G l 194 14 [some (.ref 25), some (.int (nI s)), some (.int (nI la)), some (.int (nI (Wo (gap T sh) (okD D) s la))), some (.int (nI k + 1)), d5] [] t I1 L Q := fun e d5 => ih (k + 1) _ d5 I1 (by omega) (by omega) (nI_succ k).symm f1 (fun S' l' q1 q2 => by rw [eW_none e]; exact g1 S' l' q1 q2) (fun _ => nz)
        refine ⟨k, and7 (by omega), (by omega : k < 8), ?_⟩
        refine And.intro (fun c1 => ?_) (fun c1 => ?_)
        · rw [ed, nI_toInt (by omega)] at c1
          have c1 : ¬ (((D k &&& cm s : Nat) : Int) = 0) := c1
          first | refine And.intro (fun cd => absurd cd (by decide)) (fun _ => ?_) | refine And.intro (fun _ => ?_) (fun cd => absurd cd (by decide)) | refine And.intro (fun cd => ?_) (fun cd => ?_)
          refine skip ?_ _
          have : okD D s k = false := decide_eq_false (fun e => c1 (by omega))
          rw [this, Bool.and_false]
        · rw [ed, nI_toInt (by omega)] at c1
          have c1 : ((D k &&& cm s : Nat) : Int) = 0 := c1
          have okt : okD D s k = true := decide_eq_true (by omega)
          first | refine And.intro (fun cd => absurd cd (by decide)) (fun _ => ?_) | refine And.intro (fun _ => ?_) (fun cd => absurd cd (by decide)) | refine And.intro (fun cd => ?_) (fun cd => ?_)
          refine sp_gap sh s la k rfl rfl rfl s64 hl (by omega) hg1 ?_
          refine And.intro (fun c2 => ?_) (fun c2 => ?_)
          · rw [T20] at c2
            refine skip ?_ _
            rw [(eN_nv (og k)).mp c2]
            rfl
          · rw [T20] at c2
            have gn : gap T sh s la k ≠ none := fun e => by have := (eN_nv (og k)).mpr e; omega
            cases hbt : s.testBit k with
            | true => exact absurd (gap_in sh hbt s64) gn
            | false =>
              obtain ⟨b1, b2, b3⟩ := bit_up s s64 k (by omega) hbt
              have i1 : nI s ||| (1 : Int32) <<< (nI k &&& 31) = nI (s + 2 ^ k) := by rw [k1, n_shl _ (by omega), n_or, b1]
              have st := eW_step (g := gap T sh) (ok := okD D) (l := la) s64 (by omega) hbt
              have gs : (gap T sh s la k).isSome = true := by
                cases e : gap T sh s la k with
                | none => exact absurd e gn
                | some v => rfl
              rw [gs, okt] at st
              have same : ∀ S' l', S' < 64 → l' < 8 → ¬ (8 * S' + l' = 8 * (s + 2 ^ k) + k) → eW (gap T sh) (okD D) s la (k + 1) S' l' = eW (gap T sh) (okD D) s la k S' l' := fun S' l' q1 q2 q => eW_same (fun w => by
                have := two_le w.2.1
                rw [w.1] at q
                omega)
              generalize hU : s + 2 ^ k = U at *
              have g := g1 U k b2 (by omega)
              refine sp_key U k i1 rfl b2 (by omega) ?_
              refine ⟨8 * U + k, nI_toInt (by omega), (by omega : 8 * U + k < 512), ?_⟩
              refine ⟨8 * U + k, nI_toInt (by omega), (by omega : 8 * U + k < 512), ?_⟩
              refine ih (k + 1) _ _ _ (by omega) (by omega) (nI_succ k).symm (f1.u (by decide)) (fun S' l' q1 q2 => ?_) (fun _ => nz)
              by_cases q : 8 * S' + l' = 8 * U + k
              · have r1 : S' = U := by omega
                have r2 : l' = k := by omega
                subst r1 r2
                rw [u_eq, st, g, nI_add]
                rfl
              · rw [u_nj q, same S' l' q1 q2 q]
                exact g1 S' l' q1 q2
  refine bm_go (am_ok_all 194 (by decide)) 60 ?_
  refine sp_key s la rfl rfl s64 hl ?_
  refine ⟨8 * s + la, nI_toInt (by omega), (by omega : 8 * s + la < 512), ?_⟩
  have g := h0 s la s64 hl
  rw [eW_now] at g
  rw [g]
  exact lp _ 0 0 _ I rfl (Nat.zero_le _) rfl (frN.refl _ _) h0 (fun q => absurd rfl q)
theorem sp_howManyO {T : tT} (sh : Nat) (D : Nat → Nat) (h6 : tN T ≤ 6) (hD : ∀ k, D k < 64) (h3 : I 25 3 = nI (tN T)) (h4 : I 25 4 = nI (al T)) (hg : ∀ s l k, s < 64 → l < 8 → k < 8 → I 27 (64 * s + 8 * l + k) = eN (gap T sh s l k)) (hdD : ∀ k, k < 8 → I 32 k = nI (D k)) (h : ∀ I', frN [31] I I' → Q (some (.int (nI (Ws (gap T sh) (okD D) (al T))))) t I' L) : bm_C G l 193 [.ref 25] t I L Q := by
  have p := Nat.two_pow_pos (tN T)
  have p6 := Nat.pow_le_pow_right (n := 2) (by decide) h6
  have a64 : al T < 64 := by unfold al; omega
  have T7 : (7 : Int32).toInt = 7 := rfl
  have endW : ∀ l', eW (gap T sh) (okD D) (al T) 0 0 (al T) l' = Wo (gap T sh) (okD D) (al T) l' := by
    intro l'
    rw [Wo_eq]
    unfold eW
    by_cases z : al T = 0
    · rw [if_pos z, if_pos z]
    · rw [if_neg z, if_neg z]
      by_cases b : (al T).testBit l' = true
      · have := two_le b
        have := Nat.two_pow_pos l'
        rw [if_pos b, if_pos b, if_pos (by omega), Wo_eq, if_neg z, if_pos b]
      · rw [if_neg b, if_neg b]
  have lpE : ∀ d la z b (I1 : am_I), 8 - la = d → la ≤ 8 → z = nI la → frN [31] I I1 → cW (gap T sh) (okD D) (al T) 0 0 I1 → b = nI (sumN la (Wo (gap T sh) (okD D) (al T))) → bm_W G l 193 60 [some (.ref 25), some (.int b), some (.int z)] [] t I1 L Q := by
    intro d
    induction d with
    | zero =>
      intro la z b I1 hd hla hz f1 g1 hb
      obtain rfl : la = 8 := by omega
      subst hz hb
      refine bm_go (am_ok_all 193 (by decide)) 60 ?_
      refine And.intro (fun _ => h I1 f1) (fun cd => absurd cd (by decide))
    | succ d ih =>
      intro la z b I1 hd hla hz f1 g1 hb
      subst hz hb
      refine bm_go (am_ok_all 193 (by decide)) 60 ?_
      refine And.intro (fun cd => ?_) (fun _ => ?_)
      · rw [T7, nI_toInt (by omega)] at cd
        omega
      refine sp_key (al T) la (by rw [f1 25 (by decide)]; exact h4) rfl a64 (by omega) ?_
      refine ⟨8 * al T + la, nI_toInt (by omega), (by omega : 8 * al T + la < 512), ?_⟩
      refine ih (la + 1) _ _ I1 (by omega) (by omega) (nI_succ la).symm f1 g1 ?_
      rw [g1 (al T) la a64 (by omega), endW, nI_add]
      rfl
  have lp : ∀ d s y d2 (I1 : am_I), al T - s = d → s ≤ al T → y = nI s → frN [31] I I1 → cW (gap T sh) (okD D) s 0 0 I1 → bm_W G l 193 22 [some (.ref 25), some (.int y), d2] [] t I1 L Q := by
    intro d
    induction d with
    | zero =>
      intro s y d2 I1 hd hs hy f1 g1
      obtain rfl : s = al T := by omega
      subst hy
      refine bm_go (am_ok_all 193 (by decide)) 60 ?_
      refine And.intro (fun _ => ?_) (fun cd => ?_)
      · exact lpE _ 0 0 0 I1 rfl (by decide) rfl f1 g1 rfl
      · rw [f1 25 (by decide), h4] at cd
        omega
    | succ d ih =>
      intro s y d2 I1 hd hs hy f1 g1
      subst hy
      have lpM : ∀ d la z (I2 : am_I), 8 - la = d → la ≤ 8 → z = nI la → frN [31] I I2 → cW (gap T sh) (okD D) s la 0 I2 → bm_W G l 193 32 [some (.ref 25), some (.int (nI s)), some (.int z)] [] t I2 L Q := by
        intro d
        induction d with
        | zero =>
          intro la z I2 hd2 hla hz f2 g2
          obtain rfl : la = 8 := by omega
          subst hz
          refine bm_go (am_ok_all 193 (by decide)) 60 ?_
          refine And.intro (fun _ => ?_) (fun cd => absurd cd (by decide))
          refine ih (s + 1) _ _ I2 (by omega) (by omega) (nI_succ s).symm f2 (fun S' l' q1 q2 => ?_)
          rw [eW_next]
          exact g2 S' l' q1 q2
        | succ d ih2 =>
          intro la z I2 hd2 hla hz f2 g2
          subst hz
          refine bm_go (am_ok_all 193 (by decide)) 60 ?_
          refine And.intro (fun cd => ?_) (fun _ => ?_)
          · rw [T7, nI_toInt (by omega)] at cd
            omega
          refine sp_addWays sh s la D h6 hD rfl rfl (by omega) (by omega) (by rw [f2 25 (by decide)]; exact h3) (by rw [f2 27 (by decide)]; exact hg) (by rw [f2 32 (by decide)]; exact hdD) g2 (fun I3 f3 g3 => ?_)
          exact ih2 (la + 1) _ I3 (by omega) (by omega) (nI_succ la).symm (f2.trans f3) g3
      refine bm_go (am_ok_all 193 (by decide)) 60 ?_
      refine And.intro (fun cd => ?_) (fun _ => ?_)
      · rw [f1 25 (by decide), h4, nI_toInt (by omega), nI_toInt (by omega)] at cd
        omega
      exact lpM 8 0 0 I1 rfl (by decide) rfl f1 g1
  refine bm_go (am_ok_all 193 (by decide)) 60 ?_
  refine sp_fill_31 ?_
  refine sp_key 0 7 rfl rfl (by decide) (by decide) ?_
  refine ⟨7, rfl, (by omega : 7 < 512), ?_⟩
  refine lp _ 0 0 _ _ rfl (Nat.zero_le _) rfl (((frN.refl _ _).f (by decide)).u (by decide)) (fun S' l' q1 q2 => ?_)
  by_cases q : 8 * S' + l' = 7
  · have r1 : S' = 0 := by omega
    have r2 : l' = 7 := by omega
    subst r1 r2
    rw [show 8 * 0 + 7 = 7 from rfl, u_eq]
    rfl
  · rw [u_nj q, show (am_SH 31).2 = 512 from rfl, f_eq (by omega)]
    unfold eW
    by_cases z : S' = 0
    · rw [if_pos z, if_neg (by omega)]
      rfl
    · rw [if_neg z, if_neg (Nat.not_lt_zero _), if_neg (Nat.not_lt_zero _)]
      by_cases b : S'.testBit l' = true
      · rw [if_pos b]
        by_cases c : S' - 2 ^ l' = 0
        · rw [if_pos c]; rfl
        · rw [if_neg c]; rfl
      · rw [if_neg b]; rfl
end PH

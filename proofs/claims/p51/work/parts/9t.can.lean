/-! the class: whether all can be lit by other lights -/
def eNd (g : Nat → Nat → Nat → Option Nat) (s la k S' : Nat) : Nat := bO 8 (fun l' => eW g aw s la k S' l' != 0)
def cE (g : Nat → Nat → Nat → Option Nat) (s la k : Nat) (I : am_I) : Prop := ∀ S', S' < 64 → I 33 S' = nI (eNd g s la k S')
theorem eNd_lt (g : Nat → Nat → Nat → Option Nat) (s la k S' : Nat) : eNd g s la k S' < 2 ^ 8 := bO_lt _ _
theorem tb_eNd {g : Nat → Nat → Nat → Option Nat} {s la k S' l' : Nat} (h : l' < 8) : (eNd g s la k S').testBit l' = (eW g aw s la k S' l' != 0) := by
  unfold eNd
  rw [tb_bO, decide_eq_true h, Bool.true_and]
section PG
variable {G : am_G} {l : Launch} {t1 : Option Nat} {t : am_T} {I : am_I} {L : am_J} {Q : bm_P}
theorem sp_paceOn_14 {T : tT} {x y : Int32} (sh s la : Nat) (hT : tOk T) (hc : cT T I) (hL : cL T sh 15 I) (hx : x = nI s) (hy : y = nI la) (hs : s ≤ al T) (hla : if s = 0 then la = 7 else s.testBit la = true) (hl8 : la < 8) (h : ∀ I', frN [26] I I' → (∀ k, k < 8 → I' 26 k = eN (gap T sh s la k)) → Q none t I' L) : bm_C G l 184 [.ref 25, .ref 7, .ref 14, .int x, .int y] t I L Q := by
  subst hx hy
  have hG := hT.1
  have n6 := hT.2.2.2.1
  have c24 := hG.c24
  have a64 : al T < 64 := by
    unfold al
    have := Nat.pow_le_pow_right (n := 2) (by decide) n6
    omega
  have fin : ∀ (f own br : Nat) I', (∀ k, k < tN T → pace T f own br (tP T k) = gap0 T sh (tD T) 0 s la k) → frN [26] I I' → (∀ k, k < 8 → I' 26 k = eN (if k < tN T then pace T f own br (tP T k) else none)) → Q none t I' L := by
    intro f own br I' hp f1 e
    refine h I' f1 (fun k hk => ?_)
    rw [e k hk]
    congr 1
    unfold gap
    by_cases q : k < tN T
    · rw [if_pos q, if_pos ⟨hs, q, hla⟩, hp k q]
    · rw [if_neg q, if_neg (fun w => q w.2.1)]
  by_cases q : s = 0
  · subst q
    refine bm_go (am_ok_all 184 (by decide)) 60 ?_
    refine And.intro (fun cd => absurd rfl cd) (fun _ => ?_)
    refine sp_paceOut (1 <<< tD T) 0 0 hT hc ?_ rfl rfl (one_lt (by have := hT.2.1; omega)) (by rw [Nat.one_shiftLeft]; have := Nat.two_pow_pos (tD T); omega) (by decide) (by decide) (fun I1 f1 e1 => ?_)
    · show (1 : Int32) <<< (I 7 2 &&& 31) = _
      rw [hc.2.2.1, k1, n_shl _ (by have := hT.2.1; omega)]
    · refine fin _ 0 0 I1 (fun k hk => ?_) f1 e1
      unfold gap0
      rw [if_pos rfl]
  · rw [if_neg q] at hla
    have hla2 : la < tN T := by
      by_cases w : la < tN T
      · exact w
      · have : s < 2 ^ tN T := by unfold al at hs; have := Nat.two_pow_pos (tN T); omega
        rw [tb_big this (by omega)] at hla
        cases hla
    have lp := hT.2.2.2.2.1 la hla2
    have i1 : (1 : Int32) <<< (nI la &&& 31) = nI (1 <<< la) := by rw [k1, n_shl _ (by omega)]
    have l64 : 1 <<< la < 64 := Nat.lt_of_lt_of_le (one_lt hla2) (Nat.pow_le_pow_right (n := 2) (by decide) n6)
    have s64 : s < 64 := by omega
    have sl : s - 2 ^ la < 64 := Nat.lt_of_le_of_lt (Nat.sub_le _ _) s64
    have p24 := Nat.pow_le_pow_right (n := 2) (by decide) c24
    have am := and_cm1 s s64 la (by omega) hla
    have i2 : nI s &&& ((1 : Int32) <<< (nI la &&& 31) ^^^ (-1)) = nI (s - 2 ^ la) := by rw [i1, km1, n_cm, n_and, am]
    refine bm_go (am_ok_all 184 (by decide)) 60 ?_
    refine And.intro (fun _ => ?_) (fun cd => ?_)
    · refine sp_of 14 (Or.inr rfl) (1 <<< la) i1 l64 ?_
      refine sp_spotOf la (tP T la) rfl (by omega) (hc.2.2.2.2.2.1 la hla2).2.1 (by have := lp.2.1; omega) ?_
      refine sp_of 14 (Or.inr rfl) (s - 2 ^ la) i2 sl ?_
      refine sp_paceOut (1 <<< tP T la) (shn T sh la) (lit T sh (s - 2 ^ la)) hT hc rfl ?_ ?_ (one_lt (by have := lp.2.1; omega)) (by rw [Nat.one_shiftLeft]; have := Nat.two_pow_pos (tP T la); omega) (Nat.lt_of_lt_of_le (shn_lt hG lp.2.1) p24) (Nat.lt_of_lt_of_le (lit_lt hT sh _) p24) (fun I1 f1 e1 => ?_)
      · show I 15 (1 <<< la) = _
        rw [hL _ l64, lit_1 sh hla2]
      · exact hL _ sl
      · refine fin _ _ _ I1 (fun k hk => ?_) f1 e1
        unfold gap0
        rw [if_neg q, Nat.or_zero]
    · rw [nI_toInt (by omega)] at cd
      have cd : (s : Int) = 0 := cd
      omega
theorem sp_addEnds {T : tT} {x y : Int32} (sh s la : Nat) (h6 : tN T ≤ 6) (hx : x = nI (tN T)) (hy : y = nI s) (hs : s < al T) (hw : Wo (gap T sh) aw s la ≠ 0) (hp : ∀ k, k < 8 → I 26 k = eN (gap T sh s la k)) (h0 : cE (gap T sh) s la 0 I) (h : ∀ I', frN [33] I I' → cE (gap T sh) s (la + 1) 0 I' → Q none t I' L) : bm_C G l 188 [.ref 25, .int x, .int y] t I L Q := by
  subst hx hy
  have p := Nat.two_pow_pos (tN T)
  have p6 := Nat.pow_le_pow_right (n := 2) (by decide) h6
  have s64 : s < 64 := by unfold al at hs; omega
  have og : ∀ k, ob (gap T sh s la k) := fun k v e => by have := gap_lt e; omega
  have T20 : (1048576 : Int32).toInt = 1048576 := rfl
  have lp : ∀ d k y (I1 : am_I), tN T - k = d → k ≤ tN T → y = nI k → frN [33] I I1 → cE (gap T sh) s la k I1 → bm_W G l 188 2 [some (.ref 25), some (.int (nI (tN T))), some (.int (nI s)), some (.int y)] [] t I1 L Q := by
    intro d
    induction d with
    | zero =>
      intro k y I1 hd hk hy f1 g1
      obtain rfl : k = tN T := by omega
      subst hy
      refine bm_go (am_ok_all 188 (by decide)) 60 ?_
      refine And.intro (fun _ => ?_) (fun cd => ?_)
      · refine h I1 f1 (fun S' hS => ?_)
        rw [g1 S' hS]
        congr 1
        refine bO_cong (fun l' _ => ?_)
        rw [eW_row (n := tN T) (fun k hk => by unfold gap; rw [if_neg (fun w => by have := w.2.1; omega)])]
      · omega
    | succ d ih =>
      intro k y I1 hd hk hy f1 g1
      subst hy
      have ep : I1 26 k = eN (gap T sh s la k) := by rw [f1 26 (by decide)]; exact hp k (by omega)
      refine bm_go (am_ok_all 188 (by decide)) 90 ?_
      refine And.intro (fun cd => ?_) (fun _ => ?_)
      · rw [nI_toInt (by omega), nI_toInt (by omega)] at cd
        omega
      refine ⟨k, and7 (by omega), (by omega : k < 8), ?_⟩
      refine And.intro (fun cd => ?_) (fun cd => ?_)
      · rw [T20, ep] at cd
        have e := (eN_nv (og k)).mp cd
        refine ih (k + 1) _ I1 (by omega) (by omega) (nI_succ k).symm f1 (fun S' hS => ?_)
        rw [g1 S' hS]
        congr 1
        refine bO_cong (fun l' _ => ?_)
        rw [eW_none (by rw [e]; rfl)]
      · rw [T20, ep] at cd
        have gn : gap T sh s la k ≠ none := fun e => by have := (eN_nv (og k)).mpr e; omega
        cases hbt : s.testBit k with
        | true => exact absurd (gap_in sh hbt s64) gn
        | false =>
          obtain ⟨b1, b2, b3⟩ := bit_up s s64 k (by omega) hbt
          have i1 : (nI s ||| (1 : Int32) <<< (nI k &&& 31)) &&& 63 = nI (s + 2 ^ k) := by rw [k1, n_shl _ (by omega), n_or, b1]; exact and63n b2
          have i1t : ((nI s ||| (1 : Int32) <<< (nI k &&& 31)) &&& 63).toInt = ((s + 2 ^ k : Nat) : Int) := by rw [i1]; exact nI_toInt (by omega)
          have i8 : (1 : Int32) <<< (nI k &&& 31) = nI (1 <<< k) := by rw [k1, n_shl _ (by omega)]
          have gs : (gap T sh s la k).isSome = true := by
            cases e : gap T sh s la k with
            | none => exact absurd e gn
            | some v => rfl
          refine ⟨s + 2 ^ k, i1t, b2, ?_⟩
          refine ⟨s + 2 ^ k, i1t, b2, ?_⟩
          refine ih (k + 1) _ _ (by omega) (by omega) (nI_succ k).symm (f1.u (by decide)) (fun S' hS => ?_)
          by_cases q : S' = s + 2 ^ k
          · subst q
            rw [u_eq, g1 _ b2, i8, n_or]
            congr 1
            refine tb_ext (n := 8) (or_lt (eNd_lt _ _ _ _ _) (one_lt (by omega))) (eNd_lt _ _ _ _ _) (fun l' hl' => ?_)
            rw [Nat.testBit_or, tb_eNd hl', tb_eNd hl', tb_one]
            by_cases w : k = l'
            · subst w
              rw [eW_step s64 (by omega) hbt, gs]
              have : (eW (gap T sh) aw s la k (s + 2 ^ k) k + Wo (gap T sh) aw s la != 0) = true := by
                rw [bne_iff_ne]
                omega
              show _ = (eW (gap T sh) aw s la k (s + 2 ^ k) k + Wo (gap T sh) aw s la != 0)
              rw [this, decide_eq_true rfl, Bool.or_true]
            · rw [decide_eq_false w, Bool.or_false, eW_same (fun z => w z.1.symm)]
          · rw [u_nj q, g1 S' hS]
            congr 1
            refine bO_cong (fun l' _ => ?_)
            rw [eW_same (fun z => by
              apply q
              have := two_le z.2.1
              have := z.2.2
              omega)]
  refine bm_go (am_ok_all 188 (by decide)) 60 ?_
  exact lp _ 0 0 I rfl (Nat.zero_le _) rfl (frN.refl _ _) h0
theorem sp_canLight {T : tT} (sh : Nat) (hok : tOk T) (hc : cT T I) (hL : cL T sh 15 I) (h : ∀ I', frN [26, 33] I I' → (Fm (gap T sh) (al T) ≠ none → Q (some (.int 1)) t I' L) ∧ (Fm (gap T sh) (al T) = none → Q (some (.int 0)) t I' L)) : bm_C G l 187 [.ref 25, .ref 7, .ref 14] t I L Q := by
  have h6 := hok.2.2.2.1
  have p := Nat.two_pow_pos (tN T)
  have p6 := Nat.pow_le_pow_right (n := 2) (by decide) h6
  have a64 := al_lt (Or.inl hok)
  have T7 : (7 : Int32).toInt = 7 := rfl
  have hcf : ∀ {I1 : am_I}, frN [26, 33] I I1 → cT T I1 ∧ cL T sh 15 I1 := by
    intro I1 f
    refine ⟨?_, ?_⟩
    · unfold cT cG cLp at hc ⊢
      rw [f 7 (by decide), f 8 (by decide), f 9 (by decide), f 10 (by decide), f 11 (by decide)]
      exact hc
    · unfold cL at hL ⊢
      rw [f 15 (by decide)]
      exact hL
  have lp : ∀ d s y d5 (I1 : am_I), al T - s = d → s ≤ al T → y = nI s → frN [26, 33] I I1 → cE (gap T sh) s 0 0 I1 → bm_W G l 187 25 [some (.ref 25), some (.ref 7), some (.ref 14), some (.int (nI (al T))), some (.int y), d5] [] t I1 L Q := by
    intro d
    induction d with
    | zero =>
      intro s y d5 I1 hd hs hy f1 g1
      obtain rfl : s = al T := by omega
      subst hy
      have hh := h I1 f1
      have ge := g1 (al T) a64
      have el := eNd_lt (gap T sh) (al T) 0 0 (al T)
      have ew : ∀ l', eW (gap T sh) aw (al T) 0 0 (al T) l' = Wo (gap T sh) aw (al T) l' := by
        intro l'
        rw [Wo_eq]
        unfold eW
        by_cases z : al T = 0
        · rw [if_pos z, if_pos z]
        · rw [if_neg z, if_neg z]
          by_cases b : (al T).testBit l' = true
          · have := two_le b
            have := Nat.two_pow_pos l'
            rw [if_pos b, if_pos b, if_pos (by omega), Wo_eq, if_neg z, if_pos b]
          · rw [if_neg b, if_neg b]
      have key : eNd (gap T sh) (al T) 0 0 (al T) = 0 ↔ Fm (gap T sh) (al T) = none := by
        unfold Fm
        rw [ominN_none]
        constructor
        · intro e i hi
          have := tb_eNd (g := gap T sh) (s := al T) (la := 0) (k := 0) (S' := al T) hi
          rw [e, Nat.zero_testBit, ew] at this
          have : Wo (gap T sh) aw (al T) i = 0 := by
            by_cases w : Wo (gap T sh) aw (al T) i = 0
            · exact w
            · rw [bne_iff_ne.mpr w] at this
              cases this
          exact (Wo_Fo _ _ _).mp this
        · intro e
          refine tb_ext el (Nat.two_pow_pos _) (fun i hi => ?_)
          rw [tb_eNd hi, ew, (Wo_Fo _ _ _).mpr (e i hi), Nat.zero_testBit]
          rfl
      refine bm_go (am_ok_all 187 (by decide)) 60 ?_
      refine And.intro (fun _ => ?_) (fun cd => by omega)
      refine ⟨al T, by rw [and63n a64]; exact nI_toInt (by omega), a64, ?_⟩
      refine And.intro (fun cd => ?_) (fun cd => ?_)
      · rw [ge, nI_toInt (by omega)] at cd
        have cd : ((eNd (gap T sh) (al T) 0 0 (al T) : Nat) : Int) = 0 := cd
        exact ⟨Or.inl rfl, hh.2 (key.mp (by omega))⟩
      · rw [ge, nI_toInt (by omega)] at cd
        have cd : ¬ (((eNd (gap T sh) (al T) 0 0 (al T) : Nat) : Int) = 0) := cd
        exact ⟨Or.inr rfl, hh.1 (fun e => cd (by have := key.mpr e; omega))⟩
    | succ d ih =>
      intro s y d5 I1 hd hs hy f1 g1
      subst hy
      have s64 : s < 64 := by omega
      have lpI : ∀ d la z (I2 : am_I), 8 - la = d → la ≤ 8 → z = nI la → frN [26, 33] I I2 → cE (gap T sh) s la 0 I2 → bm_W G l 187 34 [some (.ref 25), some (.ref 7), some (.ref 14), some (.int (nI (al T))), some (.int (nI s)), some (.int z)] [] t I2 L Q := by
        intro d
        induction d with
        | zero =>
          intro la z I2 hd2 hla hz f2 g2
          obtain rfl : la = 8 := by omega
          subst hz
          refine bm_go (am_ok_all 187 (by decide)) 60 ?_
          refine And.intro (fun _ => ?_) (fun cd => absurd cd (by decide))
          refine ih (s + 1) _ _ I2 (by omega) (by omega) (nI_succ s).symm f2 (fun S' hS => ?_)
          rw [g2 S' hS]
          congr 1
          refine bO_cong (fun l' _ => ?_)
          rw [eW_next]
        | succ d ih2 =>
          intro la z I2 hd2 hla hz f2 g2
          subst hz
          have hf := hcf f2
          have gs := g2 s s64
          have el := eNd_lt (gap T sh) s la 0 s
          have tb := tb_eNd (g := gap T sh) (s := s) (la := la) (k := 0) (S' := s) (l' := la) (by omega)
          rw [eW_now] at tb
          refine bm_go (am_ok_all 187 (by decide)) 60 ?_
          refine And.intro (fun cd => ?_) (fun _ => ?_)
          · rw [T7, nI_toInt (by omega)] at cd
            omega
          refine ⟨s, and63 s64, s64, ?_⟩
          refine sp_isIn (eNd (gap T sh) s la 0 s) la gs rfl (by omega) (by omega) (fun b => ?_) (fun b => ?_)
          · first | refine And.intro (fun cd => absurd cd (by decide)) (fun _ => ?_) | refine And.intro (fun _ => ?_) (fun cd => absurd cd (by decide)) | refine And.intro (fun cd => ?_) (fun cd => ?_)
            rw [b] at tb
            have wn : Wo (gap T sh) aw s la ≠ 0 := bne_iff_ne.mp tb.symm
            have hla2 : (if s = 0 then la = 7 else s.testBit la = true) := by
              rw [Wo_eq] at wn
              by_cases s0 : s = 0
              · rw [if_pos s0] at wn ⊢
                by_cases l7 : la = 7
                · exact l7
                · rw [if_neg l7] at wn
                  exact absurd rfl wn
              · rw [if_neg s0] at wn ⊢
                by_cases b : s.testBit la = true
                · exact b
                · rw [if_neg b] at wn
                  exact absurd rfl wn
            refine sp_paceOn_14 sh s la hok hf.1 hf.2 rfl rfl (by omega) hla2 (by omega) (fun I3 f3 e3 => ?_)
            have f23 : frN [26, 33] I I3 := f2.trans (f3.mono (by decide))
            refine sp_addEnds sh s la h6 (hcf f23).1.2.2.2.1 rfl (by omega) wn e3 (fun S' hS => by rw [f3 33 (by decide)]; exact g2 S' hS) (fun I4 f4 g4 => ?_)
            exact ih2 (la + 1) _ I4 (by omega) (by omega) (nI_succ la).symm (f23.trans (f4.mono (by decide))) g4
          · first | refine And.intro (fun cd => absurd cd (by decide)) (fun _ => ?_) | refine And.intro (fun _ => ?_) (fun cd => absurd cd (by decide)) | refine And.intro (fun cd => ?_) (fun cd => ?_)
            rw [b] at tb
            have w0 : Wo (gap T sh) aw s la = 0 := by
              by_cases w : Wo (gap T sh) aw s la = 0
              · exact w
              · rw [bne_iff_ne.mpr w] at tb
                cases tb
            refine ih2 (la + 1) _ I2 (by omega) (by omega) (nI_succ la).symm f2 (fun S' hS => ?_)
            rw [g2 S' hS]
            congr 1
            refine bO_cong (fun l' _ => ?_)
            rw [eW_skip w0]
      refine bm_go (am_ok_all 187 (by decide)) 60 ?_
      refine And.intro (fun cd => ?_) (fun _ => ?_)
      · rw [nI_toInt (by omega), nI_toInt (by omega)] at cd
        omega
      exact lpI 8 0 0 I1 rfl (by decide) rfl f1 g1
  refine bm_go (am_ok_all 187 (by decide)) 60 ?_
  refine sp_all (Or.inl hok) hc.2.2.2.1 ?_
  refine sp_fill_33 ?_
  refine ⟨0, rfl, (by omega : 0 < 64), ?_⟩
  refine lp _ 0 0 _ _ rfl (Nat.zero_le _) rfl (((frN.refl _ _).f (by decide)).u (by decide)) (fun S' hS => ?_)
  by_cases q : S' = 0
  · subst q
    rw [u_eq]
    have e : eNd (gap T sh) 0 0 0 0 = bO 8 (fun l' => (if l' = 7 then 1 else 0) != 0) := bO_cong (fun l' _ => by unfold eW; rw [if_pos rfl])
    rw [e]
    rfl
  · rw [u_nj q, show (am_SH 33).2 = 64 from rfl, f_eq (by omega)]
    have : eNd (gap T sh) 0 0 0 S' = 0 := by
      refine tb_ext (eNd_lt _ _ _ _ _) (Nat.two_pow_pos _) (fun i hi => ?_)
      rw [tb_eNd hi, Nat.zero_testBit]
      unfold eW
      rw [if_neg q, if_neg (Nat.not_lt_zero _), if_neg (Nat.not_lt_zero _)]
      by_cases b : S'.testBit i = true
      · rw [if_pos b]
        by_cases c : S' - 2 ^ i = 0
        · rw [if_pos c]; rfl
        · rw [if_neg c]; rfl
      · rw [if_neg b]; rfl
    rw [this]
    rfl
theorem sp_canShaded {T : tT} {x : Int32} (sh : Nat) (hok : tOk T) (hc : cT T I) (hx : x = nI sh) (hsh : sh < 64) (h0 : I 15 0 = nI 0) (h : ∀ I', frN [15, 26, 33] I I' → I' 15 0 = nI 0 → (Fm (gap T sh) (al T) ≠ none → Q (some (.int 1)) t I' L) ∧ (Fm (gap T sh) (al T) = none → Q (some (.int 0)) t I' L)) : bm_C G l 63 [.ref 0, .int x] t I L Q := by
  refine bm_go (am_ok_all 63 (by decide)) 40 ?_
  refine sp_settle_14 sh (Or.inl hok) hc hx hsh h0 (fun I1 f1 l1 => ?_)
  have hc1 : cT T I1 := by
    unfold cT cG cLp at hc ⊢
    rw [f1 7 (by decide), f1 8 (by decide), f1 9 (by decide), f1 10 (by decide), f1 11 (by decide)]
    exact hc
  have e0 : I1 15 0 = nI 0 := by
    have := l1 0 (by decide)
    rw [lit_0] at this
    exact this
  refine sp_canLight sh hok hc1 l1 (fun I2 f2 => ?_)
  have := h I2 ((f1.mono (by decide)).trans (f2.mono (by decide))) (by rw [f2 15 (by decide)]; exact e0)
  exact ⟨fun e => ⟨Or.inr rfl, this.1 e⟩, fun e => ⟨Or.inl rfl, this.2 e⟩⟩
end PG

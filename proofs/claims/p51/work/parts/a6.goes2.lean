/-! goes: a way is gone, all ways on from a place are tried -/
section GO
variable {G : am_G} {l : Launch} {t : am_T} {L : am_J} {Q : nm_P} {T : tT} {sh f own br bg nn : Nat} {s : sT} {far : Nat → Option Nat} {cm : Nat → Nat} {n : Nat} {x y fd nv : Int32}
theorem gC.le {n : Nat} (h : gC n) : n + 3 ≤ 81 := h.2.1
theorem g_replay (hC : gC n) {wy : Nat → Nat} {q : Nat} {kv mv bv dv : Int32} {d14 d15 : Option Value} : ∀ (j cur dd : Nat) (a : Nat → Nat) (I : am_I) (yv : Int32), yv = nI j + -1 → cB T sh t I → cR T sh dd a I → runS T sh (rd0 T) a dd = nd s cur → dd + j ≤ 200 → j ≤ 47 → gW n j wy I → pf T sh s wy q j cur →
    (∀ (a' : Nat → Nat) (I' : am_I), frN [16, 17, 19] I I' → cB T sh t I' → cR T sh (dd + j) a' I' → (∀ i, i < dd → a' i = a i) → runS T sh (rd0 T) a' (dd + j) = nd s q → nm_W G l 78 205 (gL x y n (nI bg) fd nv [some (.int kv), some (.int mv), some (.int bv), some (.int dv), some (.int (nI 0 + -1)), d14, d15]) [] (n + 3) 3 144 t I' L Q) →
    nm_W G l 78 184 (gL x y n (nI bg) fd nv [some (.int kv), some (.int mv), some (.int bv), some (.int dv), some (.int yv), d14, d15]) [] (n + 3) 3 144 t I L Q := by
  intro j
  induction j with
  | zero =>
    intro cur dd a I yv ey hB hR hs hd hj hW hp kont
    subst ey
    refine nm_go (am_ok_all 78 (by decide)) 1 ?_
    refine And.intro (fun _ => ?_) (fun cd => absurd cd (by decide))
    have e : cur = q := hp
    subst e
    exact kont a I (frN.refl _ _) hB hR (fun _ _ => rfl) hs
  | succ j ih =>
    intro cur dd a I yv ey hB hR hs hd hj hW hp kont
    rw [pk_m1] at ey
    subst ey
    obtain ⟨r, he, hp⟩ := hp
    obtain ⟨w1, w2⟩ := hW j (by omega)
    refine nm_go (am_ok_all 78 (by decide)) 1 ?_
    refine And.intro (fun cd => ?_) (fun cd => ?_)
    · rw [nI_toInt (by omega)] at cd
      omega
    refine nm_go (am_ok_all 78 (by decide)) 60 ?_
    refine ⟨48, ⟨by have := hC.2.1; omega, hC.2.2.2.2⟩, j, nI_toInt (by omega), by omega, ?_⟩
    refine nm_b hC.le (cc_act_yes hB hR (wy j) (by omega) w1 (by rw [hs]; exact he.2.1) (by omega) (fun I1 f1 r1 => ?_))
    have er : runS T sh (rd0 T) (fun i => if i = dd then wy j else a i) (dd + 1) = nd s r := by
      show do1 T sh (runS T sh (rd0 T) (fun i => if i = dd then wy j else a i) dd) (if dd = dd then wy j else a dd) = _
      rw [runS_c (a := a) dd (fun i hi => if_neg (by omega)), if_pos rfl, hs]
      exact he.2.2
    refine ih r (dd + 1) _ I1 _ rfl (hB.n f1 (by decide)) r1 er (by omega) (by omega) (fun i hi => ?_) hp (fun a' I' f' b' r' e' s' => ?_)
    · rw [f1 (n + 2) (by have := hC.1; simp; omega)]
      exact hW i (by omega)
    · rw [show dd + 1 + j = dd + (j + 1) by omega] at r' s'
      refine kont a' I' (f1.trans f') b' r' (fun i hi => ?_) s'
      rw [e' i (by omega)]
      exact if_neg (by omega)
theorem g_replay2 (hC : gC n) {wy : Nat → Nat} {q : Nat} {kv mv : Int32} {d11 d12 d13 d14 d15 : Option Value} : ∀ (j cur dd : Nat) (a : Nat → Nat) (I : am_I) (yv : Int32), yv = nI j + -1 → cB T sh t I → cR T sh dd a I → runS T sh (rd0 T) a dd = nd s cur → dd + j ≤ 200 → j ≤ 47 → gW n j wy I → pf T sh s wy q j cur →
    (∀ (a' : Nat → Nat) (I' : am_I), frN [16, 17, 19] I I' → cB T sh t I' → cR T sh (dd + j) a' I' → (∀ i, i < dd → a' i = a i) → runS T sh (rd0 T) a' (dd + j) = nd s q → nm_W G l 78 407 (gL x y n (nI bg) fd mv [some (.int kv), some (.int (nI 0 + -1)), d11, d12, d13, d14, d15]) [] (n + 3) 3 144 t I' L Q) →
    nm_W G l 78 386 (gL x y n (nI bg) fd mv [some (.int kv), some (.int yv), d11, d12, d13, d14, d15]) [] (n + 3) 3 144 t I L Q := by
  intro j
  induction j with
  | zero =>
    intro cur dd a I yv ey hB hR hs hd hj hW hp kont
    subst ey
    refine nm_go (am_ok_all 78 (by decide)) 1 ?_
    refine And.intro (fun _ => ?_) (fun cd => absurd cd (by decide))
    have e : cur = q := hp
    subst e
    exact kont a I (frN.refl _ _) hB hR (fun _ _ => rfl) hs
  | succ j ih =>
    intro cur dd a I yv ey hB hR hs hd hj hW hp kont
    rw [pk_m1] at ey
    subst ey
    obtain ⟨r, he, hp⟩ := hp
    obtain ⟨w1, w2⟩ := hW j (by omega)
    refine nm_go (am_ok_all 78 (by decide)) 1 ?_
    refine And.intro (fun cd => ?_) (fun cd => ?_)
    · rw [nI_toInt (by omega)] at cd
      omega
    refine nm_go (am_ok_all 78 (by decide)) 60 ?_
    refine ⟨48, ⟨by have := hC.2.1; omega, hC.2.2.2.2⟩, j, nI_toInt (by omega), by omega, ?_⟩
    refine nm_b hC.le (cc_act_yes hB hR (wy j) (by omega) w1 (by rw [hs]; exact he.2.1) (by omega) (fun I1 f1 r1 => ?_))
    have er : runS T sh (rd0 T) (fun i => if i = dd then wy j else a i) (dd + 1) = nd s r := by
      show do1 T sh (runS T sh (rd0 T) (fun i => if i = dd then wy j else a i) dd) (if dd = dd then wy j else a dd) = _
      rw [runS_c (a := a) dd (fun i hi => if_neg (by omega)), if_pos rfl, hs]
      exact he.2.2
    refine ih r (dd + 1) _ I1 _ rfl (hB.n f1 (by decide)) r1 er (by omega) (by omega) (fun i hi => ?_) hp (fun a' I' f' b' r' e' s' => ?_)
    · rw [f1 (n + 2) (by have := hC.1; simp; omega)]
      exact hW i (by omega)
    · rw [show dd + 1 + j = dd + (j + 1) by omega] at r' s'
      refine kont a' I' (f1.trans f') b' r' (fun i hi => ?_) s'
      rw [e' i (by omega)]
      exact if_neg (by omega)
/-- what holds while all ways on are tried -/
def gV (T : tT) (sh : Nat) (s : sT) (f own br bg n nn : Nat) (t : am_T) (far : Nat → Option Nat) (cm : Nat → Nat) (I : am_I) : Prop := BF T sh s f own br bg (nn + 1) far cm ∧ BC T f own br nn far ∧ gA n far cm I ∧ cB T sh t I
def fdI (far : Nat → Option Nat) (tg : Nat) : Int32 := if far tg = none then -1 else nI tg
theorem fdI_lt {far : Nat → Option Nat} {tg : Nat} (h : tg < 1000) : (fdI far tg).toInt < 0 ↔ far tg = none := by
  unfold fdI
  split
  · rename_i q
    exact ⟨fun _ => q, fun _ => by decide⟩
  · rename_i q
    rw [nI_toInt (by omega)]
    constructor
    · intro z; omega
    · intro z; exact absurd z q
theorem par_eq (a : Nat) (h : a < 1000) : nI a - nI a / 2 * 2 = nI (a % 2) := by
  rw [k2, pk_rem (by omega) (by decide) (by decide)]
theorem g_ways (hok : tOk T) (hf : f < 2 ^ tC T) (hg : gIn T sh s own br) (hC : gC n) {d k m : Nat} (a0 : Nat → Nat) {to : Nat} (hto : to < tC T) (hx : x = nI to) (hd : d + m < 200) (hm : m ≤ 47) (hnn : nn < 100) {bv : Int32} :
    ∀ (j w : Nat) (far : Nat → Option Nat) (cm : Nat → Nat) (a : Nat → Nat) (I : am_I) (yw : Int32) (d14 d15 : Option Value), 4 - w = j → w ≤ 4 → yw = nI w → far k = some nn → gV T sh s f own br bg n nn t far cm I → BD T sh s nn k w far → cR T sh (d + m) a I → (∀ i, i < d → a i = a0 i) → runS T sh (rd0 T) a (d + m) = nd s k →
    (∀ (far' : Nat → Option Nat) (cm' : Nat → Nat) (a' : Nat → Nat) (I' : am_I) (d14 d15 : Option Value), (∀ z, z ∉ [16, 17, 19, 36, n, n + 1] → I' z = I z) → gV T sh s f own br bg n nn t far' cm' I' → BD T sh s nn k 4 far' → cR T sh (d + m) a' I' → (∀ i, i < d → a' i = a0 i) → nm_W G l 78 313 (gL x y n (nI bg) (fdI far' (2 * to)) (nI nn) [some (.int (nI k)), some (.int (nI m)), some (.int bv), some (.int (nI d)), some (.int (nI 4)), d14, d15]) [] (n + 3) 3 144 t I' L Q) →
    nm_W G l 78 208 (gL x y n (nI bg) (fdI far (2 * to)) (nI nn) [some (.int (nI k)), some (.int (nI m)), some (.int bv), some (.int (nI d)), some (.int yw), d14, d15]) [] (n + 3) 3 144 t I L Q := by
  have hT := hok.1
  have h24 := hT.c24
  have n63 := hC.1
  have n81 := hC.2.1
  intro j
  induction j with
  | zero =>
    intro w far cm a I yw d14 d15 hj hw ew hk hV hD hR ha hs kont
    obtain rfl : w = 4 := by omega
    subst ew
    refine nm_go (am_ok_all 78 (by decide)) 2 ?_
    refine And.intro (fun _ => ?_) (fun cd => absurd cd (by decide))
    exact kont far cm a I d14 d15 (fun _ _ => rfl) hV hD hR ha
  | succ j ih =>
    intro w far cm a I yw d14 d15 hj hw ew hk hV hD hR ha hs kont
    subst ew
    obtain ⟨hF, hc, hA, hB⟩ := id hV
    have hw4 : w < 4 := by omega
    have kl := (hF.1 k nn hk).1
    have kok := runS_ok hok sh (rd0_ok hok) a (d + m)
    have s17 : sC (nd s k) 17 I := by rw [← hs]; exact hR.2.2.1
    rw [hs] at kok
    refine nm_go (am_ok_all 78 (by decide)) 2 ?_
    refine And.intro (fun cd => ?_) (fun cd => ?_)
    · rw [nI_toInt (by omega)] at cd
      have cd : (4 : Int) ≤ (w : Int) := cd
      omega
    refine nm_go (am_ok_all 78 (by decide)) 15 ?_
    cases em : may1 T sh (nd s k) w with
    | false =>
      refine nm_b hC.le (cc_act_no hB s17 kok w (by omega) rfl em ?_)
      refine And.intro (fun _ => ?_) (fun cd => absurd cd (by decide))
      refine ih (w + 1) far cm a I _ _ d15 (by omega) (by omega) (nI_1 w) hk hV (hD.same (fun q he => ?_)) hR ha hs kont
      have := he.2.1
      rw [em] at this
      cases this
    | true =>
      refine nm_b hC.le (cc_act_yes hB hR w (by omega) rfl (by rw [hs]; exact em) (by omega) (fun I1 f1 r1 => ?_))
      rw [hs]
      have er : runS T sh (rd0 T) (fun i => if i = d + m then w else a i) (d + m + 1) = do1 T sh (nd s k) w := by
        show do1 T sh (runS T sh (rd0 T) (fun i => if i = d + m then w else a i) (d + m)) (if d + m = d + m then w else a (d + m)) = _
        rw [runS_c (a := a) (d + m) (fun i hi => if_neg (by omega)), if_pos rfl, hs]
      have r1s := r1.2.2.1
      rw [er] at r1s
      have k1 := do1_ok hok (sh := sh) kok w
      -- where he comes to
      obtain ⟨q, hq⟩ : ∃ q, do1 T sh (nd s k) w = nd s q := by
        have hgo := may_gOk (T := T) (sh := sh) (s := nd s k) (by omega) em
        unfold gOk at hgo
        rw [if_neg (by omega)] at hgo
        obtain ⟨jj, ej⟩ := Option.isSome_iff_exists.mp hgo.2
        have ej : nx T (k / 2) w = some jj := ej
        rcases Nat.mod_two_eq_zero_or_one k with hp | hp
        · exact ⟨2 * jj, by rw [do_out hp hw4 ej]; exact (nd_mk jj).2⟩
        · rw [do_in hp hw4 ej]
          cases (shn T sh (un s.2.2.1)).testBit jj with
          | true => exact ⟨_, (nd_mk jj).1⟩
          | false => exact ⟨_, (nd_mk jj).2⟩
      have he : edg T sh s k w q := ⟨hw4, em, hq⟩
      rw [hq] at r1s k1 ⊢
      have ql := lv_C hT hf (lv_edge hT hf hg (hF.1 k nn hk).2.2 he)
      have c1 : (nd s q).1 = q / 2 := rfl
      rw [c1]
      have B1 := hB.n f1 (by decide)
      refine And.intro (fun cd => ?_) (fun _ => ?_)
      · rw [nI_toInt (by omega)] at cd
        omega
      refine nm_b hC.le (cc_may B1 r1s k1 ?_)
      have f2 : frN [16, 17, 19, 36] I (am_u I1 36 0 (bI (nd s q).2.2.2)) := (f1.mono (by decide)).u (by decide)
      generalize hI2 : am_u I1 36 0 (bI (nd s q).2.2.2) = I2 at f2
      have f12 : frN [36] I1 I2 := by rw [← hI2]; exact (frN.refl _ _).u (by decide)
      have e36 : I2 36 0 = nI (q % 2) := by
        rw [← hI2, u_eq]
        unfold nd
        rcases Nat.mod_two_eq_zero_or_one q with hp | hp
        · rw [hp]; rfl
        · rw [hp]; rfl
      refine nm_b hC.le (cc_asked ?_)
      have B2 := B1.n f12 (by decide)
      have R2 := r1.n f12 (by decide)
      have A2 : gA n far cm I2 := hA.fr (f2 n (by simp; omega)) (f2 (n + 1) (by simp; omega))
      have ekv := A2.1 q (by omega)
      have fl : ∀ v, far q = some v → v < 1000 := fun v e => by have := (hF.1 q v e).2.1; omega
      -- behind the look, he goes back
      have back : ∀ (far' : Nat → Option Nat) (cm' : Nat → Nat) (I3 : am_I) (d15 : Option Value), frN [n, n + 1] I2 I3 → far' k = some nn → BF T sh s f own br bg (nn + 1) far' cm' → BC T f own br nn far' → gA n far' cm' I3 → BD T sh s nn k (w + 1) far' → nm_W G l 78 297 (gL x y n (nI bg) (fdI far' (2 * to)) (nI nn) [some (.int (nI k)), some (.int (nI m)), some (.int bv), some (.int (nI d)), some (.int (nI w)), some (.int (nI (q / 2))), some (.int (nI q))]) [] (n + 3) 3 144 t I3 L Q := by
        intro far' cm' I3 d15 f3 hk' hF' hc' hA' hD'
        have B3 : cB T sh t I3 := B2.n f3 (by intro z hz; simp [cKeep] at hz; simp; omega)
        have R3 := R2.n f3 (by intro z hz; simp at hz; simp; omega)
        refine nm_go (am_ok_all 78 (by decide)) 60 ?_
        refine nm_b hC.le (cc_undo B3 R3 (d + m) (by omega) (nI_add _ _) (fun I4 f4 r4 => ?_))
        have f24 : ∀ z, z ∉ [16, 17, 19, 36, n, n + 1] → I4 z = I z := fun z hz => by
          rw [f4 z (by simp at hz ⊢; omega), f3 z (by simp at hz ⊢; omega), f2 z (by simp at hz ⊢; omega)]
        have ra : ∀ i, i < d + m → (fun i => if i = d + m then w else a i) i = a i := fun i hi => if_neg (by omega)
        refine ih (w + 1) far' cm' a I4 _ _ _ (by omega) (by omega) (nI_1 w) hk' ⟨hF', hc', hA'.fr (f4 n (by simp; omega)) (f4 (n + 1) (by simp; omega)), B3.n f4 (by decide)⟩ hD' (r4.c (fun i hi => (ra i hi).symm)) ha hs (fun far'' cm'' a'' I5 d14' d15' f5 V5 D5 R5 a5 => ?_)
        refine kont far'' cm'' a'' I5 d14' d15' (fun z hz => ?_) V5 D5 R5 a5
        rw [f5 z hz, f24 z hz]
      have step : ∀ z : Int32, z = nI q → nm_W G l 78 243 (gL x y n (nI bg) (fdI far (2 * to)) (nI nn) [some (.int (nI k)), some (.int (nI m)), some (.int bv), some (.int (nI d)), some (.int (nI w)), some (.int (nI (q / 2))), some (.int z)]) [] (n + 3) 3 144 t I2 L Q := by
        intro z hz
        subst hz
        refine nm_go (am_ok_all 78 (by decide)) 3 ?_
        refine ⟨48, ⟨by omega, hC.2.2.1⟩, q, nI_toInt (by omega), by omega, ?_⟩
        rw [ekv]
        cases efq : far q with
        | some v =>
          have hv := fl v efq
          refine And.intro (fun _ => ?_) (fun cd => ?_)
          · refine back far cm I2 d15 (frN.refl _ _) hk hF hc A2 (hD.same (fun r hr => ?_))
            rw [edg_det hr he, efq]
            exact fun z => by cases z
          · have cd : (nI v).toInt < 0 := cd
            rw [nI_toInt (by omega)] at cd
            omega
        | none =>
          refine And.intro (fun cd => absurd cd (by decide)) (fun _ => ?_)
          refine nm_go (am_ok_all 78 (by decide)) 13 ?_
          refine ⟨48, ⟨by omega, hC.2.2.1⟩, q, nI_toInt (by omega), by omega, ?_⟩
          refine ⟨48, ⟨by omega, hC.2.2.2.1⟩, q, nI_toInt (by omega), by omega, ?_⟩
          have qk : k ≠ q := fun e => by rw [e, efq] at hk; cases hk
          have v1 : nI nn + 1 = nI (nn + 1) := nI_1 nn
          have v2 : (4 : Int32) * nI k + nI w = nI (4 * k + w) := by rw [k4, pk_mul, nI_add]
          rw [v1, v2]
          generalize hI3 : am_u (am_u I2 n q (nI (nn + 1))) (n + 1) q (nI (4 * k + w)) = I3
          have f3 : frN [n, n + 1] I2 I3 := by rw [← hI3]; exact ((frN.refl _ _).u (by simp)).u (by simp)
          have A3 : gA n (fup far q (nn + 1)) (cup cm q (4 * k + w)) I3 := by
            rw [← hI3]
            refine ⟨fun z hz => ?_, fun z m' e => ?_⟩
            · rw [u_ne (show n ≠ n + 1 by omega)]
              by_cases ez : z = q
              · subst ez
                rw [u_eq, fup_eq]
                rfl
              · rw [u_nj ez, fup_ne ez]
                exact A2.1 z hz
            · by_cases ez : z = q
              · subst ez
                rw [u_eq, cup_eq]
              · rw [u_nj ez, cup_ne ez, u_ne (show n + 1 ≠ n by omega)]
                rw [fup_ne ez] at e
                exact A2.2 z m' e
          have go := back (fup far q (nn + 1)) (cup cm q (4 * k + w)) I3 d15 f3 (by rw [fup_ne qk]; exact hk) (hF.new hT hf hg hk he efq) (hc.new efq _) A3 (hD.new efq he)
          have q0 : q ≠ 2 * to → fdI (fup far q (nn + 1)) (2 * to) = fdI far (2 * to) := fun e => by
            unfold fdI
            rw [fup_ne (Ne.symm e)]
          have tx : x.toInt = (to : Int) := by rw [hx]; exact nI_toInt (by omega)
          have tq : (nI (q / 2)).toInt = ((q / 2 : Nat) : Int) := nI_toInt (by omega)
          have w293 : q ≠ 2 * to → nm_W G l 78 293 (gL x y n (nI bg) (fdI far (2 * to)) (nI nn) [some (.int (nI k)), some (.int (nI m)), some (.int bv), some (.int (nI d)), some (.int (nI w)), some (.int (nI (q / 2))), some (.int (nI q))]) [] (n + 3) 3 144 t I3 L Q := by
            intro e
            rw [q0 e] at go
            refine nm_go (am_ok_all 78 (by decide)) 1 ?_
            exact go
          have w270 : nm_W G l 78 270 (gL x y n (nI bg) (fdI far (2 * to)) (nI nn) [some (.int (nI k)), some (.int (nI m)), some (.int bv), some (.int (nI d)), some (.int (nI w)), some (.int (nI (q / 2))), some (.int (nI q))]) [] (n + 3) 3 144 t I3 L Q := by
            refine nm_go (am_ok_all 78 (by decide)) 2 ?_
            refine And.intro (fun c1 => ?_) (fun c1 => ?_)
            · exact w293 (fun e => c1 (by rw [tq, tx]; omega))
            · rw [tq, tx] at c1
              refine nm_go (am_ok_all 78 (by decide)) 3 ?_
              refine ⟨by decide, ?_⟩
              rw [par_eq q (by omega)]
              refine And.intro (fun c2 => ?_) (fun c2 => ?_)
              · exact w293 (fun e => c2 (by rw [e, show 2 * to % 2 = 0 by omega]; rfl))
              · have q2 : q % 2 = 0 := by
                  rw [nI_toInt (by omega)] at c2
                  have c2 : ((q % 2 : Nat) : Int) = 0 := c2
                  omega
                have eq : q = 2 * to := by omega
                refine nm_go (am_ok_all 78 (by decide)) 1 ?_
                refine And.intro (fun c3 => ?_) (fun c3 => ?_)
                · exfalso
                  have := (fdI_lt (far := far) (tg := 2 * to) (by omega)).mpr (by rw [← eq]; exact efq)
                  omega
                · have e1 : fdI (fup far q (nn + 1)) (2 * to) = nI q := by
                    unfold fdI
                    rw [← eq, fup_eq, if_neg (fun z => by cases z)]
                  rw [e1] at go
                  refine nm_go (am_ok_all 78 (by decide)) 2 ?_
                  exact go
          exact w270
      exact step _ (by rw [e36, k2, pk_mul, nI_add, show 2 * (q / 2) + q % 2 = q by omega])
end GO

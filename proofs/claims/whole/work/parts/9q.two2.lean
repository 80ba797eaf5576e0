/-! two lamplighters: the class -/
def frF (I I' : am_I) : Prop := frN [25, 26] I I' ∧ ∀ j, 1 ≤ j → I' 25 j = I 25 j
theorem frF.refl (I : am_I) : frF I I := ⟨frN.refl _ _, fun _ _ => rfl⟩
theorem frF.trans {I I' I'' : am_I} (h : frF I I') (g : frF I' I'') : frF I I'' := ⟨h.1.trans g.1, fun j hj => (g.2 j hj).trans (h.2 j hj)⟩
theorem frF.of {I I' : am_I} (h : frN [26] I I') : frF I I' := ⟨h.mono (by decide), fun _ _ => by rw [h 25 (by decide)]⟩
theorem frF.u {I I' : am_I} (h : frF I I') (v : Int32) : frF I (am_u I' 25 0 v) := ⟨h.1.u (by decide), fun j hj => by rw [u_nj (by omega)]; exact h.2 j hj⟩
def fw (o : Option (Nat × Nat)) : Option Nat := match o with
  | none => none
  | some w => some w.1
def sw (o : Option (Nat × Nat)) : Nat := match o with
  | none => 0
  | some w => w.2
section PT
variable {G : am_G} {l : Launch} {t : am_T} {I : am_I} {L : am_J} {Q : bm_P}
theorem sp_byTwo {T : tT} {x : Int32} (sh c : Nat) (hok : tOk T) (ht : t.2 = (some 7, some 12)) (hc : cT T I) (hL : cL T sh 13 I) (h3 : I 25 3 = nI (tN T)) (h4 : I 25 4 = nI (al T)) (tb : tabs T sh I) (hx : x = nI c) (hcc : c < tC T) (h : ∀ I', frF I I' → I' 25 0 = nI (sw (twS (totS T sh c) (al T + 1))) → Q (some (.int (eN (fw (twS (totS T sh c) (al T + 1)))))) t I' L) : bm_C G l 199 [.ref 25, .int x] t I L Q := by
  subst hx
  have h6 := hok.2.2.2.1
  have p := Nat.two_pow_pos (tN T)
  have p6 := Nat.pow_le_pow_right (n := 2) (by decide) h6
  have a64 : al T < 64 := by unfold al; omega
  have T20 : (1048576 : Int32).toInt = 1048576 := rfl
  have TNN : (nI 1048576).toInt = 1048576 := nI_toInt (by decide)
  have obFm : ∀ s, s < 64 → ob (Fm (gap T sh) s) := fun s hs => Fm_ob (fun _ _ _ _ e => gap_lt e) hs
  have obS : ∀ s, ob (secS T sh c s) := fun s v e => by have := secS_lt a64 e; omega
  have lp : ∀ d i y2 y3 d4 (I1 : am_I), al T + 1 - i = d → i ≤ al T + 1 → y2 = eN (fw (twS (totS T sh c) i)) → y3 = nI i → frF I I1 → I1 25 0 = nI (sw (twS (totS T sh c) i)) → bm_W G l 199 10 [some (.ref 25), some (.int (nI c)), some (.int y2), some (.int y3), d4] [] t I1 L Q := by
    intro d
    induction d with
    | zero =>
      intro i y2 y3 d4 I1 hd hi e2 e3 f1 z1
      obtain rfl : i = al T + 1 := by omega
      subst e2 e3
      refine bm_go (am_ok_all 199 (by decide)) 60 ?_
      refine And.intro (fun _ => h I1 f1 z1) (fun cd => ?_)
      rw [f1.2 4 (by decide), h4, nI_toInt (by omega), nI_toInt (by omega)] at cd
      omega
    | succ d ih =>
      intro i y2 y3 d4 I1 hd hi e2 e3 f1 z1
      subst e2 e3
      have eF : I1 30 i = eN (Fm (gap T sh) i) := by rw [f1.1 30 (by decide)]; exact tb.2.2.2 i (by omega)
      have st : twS (totS T sh c) (i + 1) = match totS T sh c i with
        | none => twS (totS T sh c) i
        | some v => match twS (totS T sh c) i with
          | none => some (v, i)
          | some w => if v < w.1 ∨ (v = w.1 ∧ pc i < pc w.2) then some (v, i) else some w := rfl
      have wl := twS_le (totS T sh c) i
      have tl : ∀ j v, j < 64 → totS T sh c j = some v → v < 10000 := fun j v hj e => totS_lt a64 hj e
      generalize hW : twS (totS T sh c) i = W at *
      have obW : ob (fw W) := by
        cases W with
        | none => intro v e; cases e
        | some w =>
          obtain ⟨_, j, q1, q2⟩ := wl w rfl
          have := tl j _ (by omega) q2
          intro v e
          cases e
          omega
      have same : ∀ I2 d4, totS T sh c i = none ∨ (∃ v w, totS T sh c i = some v ∧ W = some w ∧ ¬ (v < w.1 ∨ (v = w.1 ∧ pc i < pc w.2))) → frF I I2 → I2 25 0 = nI (sw W) → bm_W G l 199 10 [some (.ref 25), some (.int (nI c)), some (.int (eN (fw W))), some (.int (nI i + 1)), d4] [] t I2 L Q := by
        intro I2 d4 q f2 z2
        have e : twS (totS T sh c) (i + 1) = W := by
          rw [st]
          rcases q with q | ⟨v, w, q1, q2, q3⟩
          · rw [q]
          · rw [q1, q2]
            exact if_neg q3
        exact ih (i + 1) _ _ d4 I2 (by omega) (by omega) (by rw [e]) (nI_succ i).symm f2 (by rw [e]; exact z2)
      have new : ∀ I2 d4 v, totS T sh c i = some v → (W = none ∨ ∃ w, W = some w ∧ (v < w.1 ∨ (v = w.1 ∧ pc i < pc w.2))) → frF I I2 → bm_W G l 199 10 [some (.ref 25), some (.int (nI c)), some (.int (eN (some v))), some (.int (nI i + 1)), d4] [] t (am_u I2 25 0 (nI i)) L Q := by
        intro I2 d4 v q1 q2 f2
        have e : twS (totS T sh c) (i + 1) = some (v, i) := by
          rw [st, q1]
          rcases q2 with q2 | ⟨w, q2, q3⟩
          · rw [q2]
          · rw [q2]
            exact if_pos q3
        exact ih (i + 1) _ _ d4 _ (by omega) (by omega) (by rw [e]; rfl) (nI_succ i).symm (f2.u _) (by rw [e]; exact u_eq)
      have eWi := eN_i obW
      have skipN : ∀ I2, totS T sh c i = none → frF I I2 → I2 25 0 = nI (sw W) → bm_cmp .lt (nI 1048576).toInt (eN (fw W)).toInt False (bm_cmp .ne (nI 1048576).toInt (eN (fw W)).toInt True (bm_cmp .ge (nI 1048576).toInt (Int32.toInt 1048576) True False)) := by
        intro I2 q f2 z2
        refine And.intro (fun cd => ?_) (fun _ => And.intro (fun _ => trivial) (fun _ => And.intro (fun _ => trivial) (fun cd => ?_)))
        · rw [TNN, eWi] at cd
          cases W with
          | none =>
            have cd : (1048576 : Int) < 1048576 := cd
            omega
          | some w =>
            have := obW w.1 rfl
            have cd : (1048576 : Int) < (w.1 : Int) := cd
            omega
        · rw [TNN] at cd
          exact absurd cd (by decide)
      refine bm_go (am_ok_all 199 (by decide)) 90 ?_
      refine And.intro (fun cd => ?_) (fun _ => ?_)
      · rw [f1.2 4 (by decide), h4, nI_toInt (by omega), nI_toInt (by omega)] at cd
        omega
      refine ⟨i, and63 (by omega), (by omega : i < 64), ?_⟩
      refine And.intro (fun cd => ?_) (fun cd => ?_)
      · rw [T20, eF] at cd
        have en := (eN_nv (obFm i (by omega))).mp cd
        have tn : totS T sh c i = none := by unfold totS; rw [en]; rfl
        have e30 : I1 30 i = nI 1048576 := by rw [eF, en]; rfl
        have s1 := skipN I1 tn f1 z1
        refine And.intro (fun c1 => ?_) (fun c1 => ?_)
        · rw [e30] at c1
          exact (s1.1 c1).elim
        · refine And.intro (fun _ => same I1 _ (Or.inl tn) f1 z1) (fun c2 => ?_)
          refine And.intro (fun _ => same I1 _ (Or.inl tn) f1 z1) (fun c3 => ?_)
          rw [e30, TNN, T20] at c3
          omega
      · rw [T20, eF] at cd
        have hc1 : cT T I1 := by
          unfold cT cG cLp at hc ⊢
          rw [f1.1 7 (by decide), f1.1 8 (by decide), f1.1 9 (by decide), f1.1 10 (by decide), f1.1 11 (by decide)]
          exact hc
        have hL1 : cL T sh 13 I1 := by unfold cL at hL ⊢; rw [f1.1 13 (by decide)]; exact hL
        have tb1 : tabs T sh I1 := by
          unfold tabs at tb ⊢
          rw [f1.1 27 (by decide), f1.1 28 (by decide), f1.1 29 (by decide), f1.1 30 (by decide)]
          exact tb
        refine sp_second sh c i hok ht hc1 hL1 (by rw [f1.2 3 (by decide)]; exact h3) (by rw [f1.2 4 (by decide)]; exact h4) tb1 rfl rfl hcc (by omega) (fun I2 f2 => ?_)
        have f12 := f1.trans (frF.of f2)
        have z2 : I2 25 0 = nI (sw W) := by rw [f2 25 (by decide)]; exact z1
        refine sp_sumO _ _ eF rfl (obFm i (by omega)) (obS i) ?_
        have eT : totS T sh c i = oadd (Fm (gap T sh) i) (secS T sh c i) := rfl
        generalize oadd (Fm (gap T sh) i) (secS T sh c i) = E at eT ⊢
        cases E with
        | none =>
          have s1 := skipN I2 eT f12 z2
          refine And.intro (fun c1 => ?_) (fun c1 => ?_)
          · exact (s1.1 c1).elim
          · refine And.intro (fun _ => ?_) (fun c2 => ?_)
            · exact same I2 _ (Or.inl eT) f12 z2
            · refine And.intro (fun _ => ?_) (fun c3 => ?_)
              · exact same I2 _ (Or.inl eT) f12 z2
              · have c3 : (nI 1048576).toInt < (1048576 : Int) := c3
                rw [TNN] at c3
                omega
        | some v =>
          have vl := tl i v (by omega) eT
          have tv : (eN (some v)).toInt = (v : Int) := nI_toInt (by omega)
          cases W with
          | none =>
            refine And.intro (fun _ => new I2 _ v eT (Or.inl rfl) f12) (fun c1 => ?_)
            rw [tv] at c1
            have c1 : (nI 1048576).toInt ≤ (v : Int) := c1
            rw [TNN] at c1
            omega
          | some w =>
            have w1 := obW w.1 rfl
            have w2 := (wl w rfl).1
            have tw : (eN (fw (some w))).toInt = (w.1 : Int) := nI_toInt (by omega)
            refine And.intro (fun c1 => ?_) (fun c1 => ?_)
            · rw [tv, tw] at c1
              exact new I2 _ v eT (Or.inr ⟨w, rfl, Or.inl (by omega)⟩) f12
            · rw [tv, tw] at c1
              refine And.intro (fun c2 => ?_) (fun c2 => ?_)
              · rw [tv, tw] at c2
                exact same I2 _ (Or.inr ⟨v, w, eT, rfl, fun q => by omega⟩) f12 z2
              · rw [tv, tw] at c2
                refine And.intro (fun c3 => ?_) (fun c3 => ?_)
                · rw [tv, T20] at c3
                  omega
                · refine sp_isBefore i w.2 rfl z2 (by omega) (by omega) (fun q => ?_) (fun q => ?_)
                  · first | refine And.intro (fun cd => absurd cd (by decide)) (fun _ => ?_) | refine And.intro (fun _ => ?_) (fun cd => absurd cd (by decide)) | refine And.intro (fun cd => ?_) (fun cd => ?_)
                    unfold bef at q
                    exact new I2 _ v eT (Or.inr ⟨w, rfl, Or.inr ⟨by omega, by omega⟩⟩) f12
                  · first | refine And.intro (fun cd => absurd cd (by decide)) (fun _ => ?_) | refine And.intro (fun _ => ?_) (fun cd => absurd cd (by decide)) | refine And.intro (fun cd => ?_) (fun cd => ?_)
                    unfold bef at q
                    exact same I2 _ (Or.inr ⟨v, w, eT, rfl, fun q2 => by omega⟩) f12 z2
  refine bm_go (am_ok_all 199 (by decide)) 60 ?_
  exact lp _ 0 _ _ _ _ rfl (Nat.zero_le _) rfl rfl ((frF.refl I).u _) u_eq
end PT

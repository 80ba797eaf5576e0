/-! the fewest steps that are left: the class's table -/
section PS
variable {G : am_G} {l : Launch} {t : am_T} {I : am_I} {L : am_J} {Q : bm_P}
theorem sp_learnStepsTill {T : tT} (sh : Nat) (h6 : tN T ≤ 6) (h3 : I 25 3 = nI (tN T)) (h4 : I 25 4 = nI (al T)) (hg : ∀ s l k, s < 64 → l < 8 → k < 8 → I 27 (64 * s + 8 * l + k) = eN (gap T sh s l k)) (h : ∀ I', frN [29] I I' → (∀ s l, s ≤ al T → l < 8 → I' 29 (8 * s + l) = eN (Bo (gap T sh) (tN T) (al T) s l)) → Q none t I' L) : bm_C G l 182 [.ref 25] t I L Q := by
  have a64 : al T < 64 := by
    unfold al
    have := Nat.pow_le_pow_right (n := 2) (by decide) h6
    omega
  have T7 : (7 : Int32).toInt = 7 := rfl
  have c3 : ∀ {I1 : am_I}, frN [29] I I1 → I1 25 3 = nI (tN T) ∧ ∀ s l k, s < 64 → l < 8 → k < 8 → I1 27 (64 * s + 8 * l + k) = eN (gap T sh s l k) := fun f => by
    rw [f 25 (by decide), f 27 (by decide)]
    exact ⟨h3, hg⟩
  have oB : ∀ s l, ob (Bo (gap T sh) (tN T) (al T) s l) := fun s l v e => by
    have := Bo_lt (g := gap T sh) (fun s l k v e => gap_lt e) (tN T) (al T) _ s l v rfl e
    omega
  have oX : ∀ s l k, ob (if s.testBit k then none else oadd (gap T sh s l k) (Bo (gap T sh) (tN T) (al T) (s + 2 ^ k) k)) := fun s l k v e => by
    by_cases q : s.testBit k = true
    · rw [if_pos q] at e
      cases e
    · rw [if_neg q] at e
      obtain ⟨x, y, e3, e4, rfl⟩ := oadd_some e
      have := gap_lt e3
      have := Nat.two_pow_pos k
      have := Bo_lt (g := gap T sh) (fun s l k v e => gap_lt e) (tN T) (al T) _ _ k y rfl e4
      omega
  have oN : ∀ n s l, ob (ominN n (fun k => if s.testBit k then none else oadd (gap T sh s l k) (Bo (gap T sh) (tN T) (al T) (s + 2 ^ k) k))) := fun n s l v e => by
    obtain ⟨i, _, e2⟩ := ominN_some _ _ e
    exact oX s l i v e2
  have lp : ∀ s y d2 d3 d4 (I1 : am_I), s ≤ al T → y = nI s - 1 → frN [29] I I1 → (∀ s', s ≤ s' → s' ≤ al T → ∀ l, l < 8 → I1 29 (8 * s' + l) = eN (Bo (gap T sh) (tN T) (al T) s' l)) → bm_W G l 182 15 [some (.ref 25), some (.int y), d2, d3, d4] [] t I1 L Q := by
    intro s
    induction s with
    | zero =>
      intro y d2 d3 d4 I1 hs hy f1 g1
      subst hy
      refine bm_go (am_ok_all 182 (by decide)) 40 ?_
      refine And.intro (fun _ => h I1 f1 (fun s l h1 h2 => g1 s (by omega) h1 l h2)) (fun cd => absurd cd (by decide))
    | succ s ih =>
      intro y d2 d3 d4 I1 hs hy f1 g1
      have hy : y = nI s := by rw [hy, k1, pk_sub (by omega)]; rfl
      subst hy
      have s64 : s < 64 := by omega
      have lpM : ∀ d la z d3 d4 (I2 : am_I), 8 - la = d → la ≤ 8 → z = nI la → frN [29] I I2 → (∀ s', s < s' → s' ≤ al T → ∀ l, l < 8 → I2 29 (8 * s' + l) = eN (Bo (gap T sh) (tN T) (al T) s' l)) → (∀ l, l < la → I2 29 (8 * s + l) = eN (Bo (gap T sh) (tN T) (al T) s l)) → bm_W G l 182 21 [some (.ref 25), some (.int (nI s)), some (.int z), d3, d4] [] t I2 L Q := by
        intro d
        induction d with
        | zero =>
          intro la z d3 d4 I2 hd2 hla hz f2 g2 m2
          obtain rfl : la = 8 := by omega
          subst hz
          refine bm_go (am_ok_all 182 (by decide)) 60 ?_
          refine And.intro (fun _ => ?_) (fun cd => absurd cd (by decide))
          refine ih _ _ _ _ I2 (by omega) (Int32.sub_eq_add_neg (nI s) 1).symm f2 (fun s' h1 h2 l' h3 => ?_)
          by_cases e : s' = s
          · subst e
            exact m2 l' h3
          · exact g2 s' (by omega) h2 l' h3
        | succ d ih2 =>
          intro la z d3 d4 I2 hd2 hla hz f2 g2 m2
          subst hz
          have lpK : ∀ d k w b, tN T - k = d → k ≤ tN T → w = nI k → b = eN (ominN k (fun k => if s.testBit k then none else oadd (gap T sh s la k) (Bo (gap T sh) (tN T) (al T) (s + 2 ^ k) k))) → bm_W G l 182 33 [some (.ref 25), some (.int (nI s)), some (.int (nI la)), some (.int b), some (.int w)] [] t I2 L Q := by
            intro d
            induction d with
            | zero =>
              intro k w b hd3 hk hw hb
              obtain rfl : k = tN T := by omega
              subst hw hb
              refine bm_go (am_ok_all 182 (by decide)) 60 ?_
              refine And.intro (fun _ => ?_) (fun cd => ?_)
              · refine sp_key s la rfl rfl s64 (by omega) ?_
                refine ⟨8 * s + la, nI_toInt (by omega), (by omega : 8 * s + la < 512), ?_⟩
                refine ih2 (la + 1) _ _ _ _ (by omega) (by omega) (nI_succ la).symm (f2.u (by decide)) (fun s' h1 h2 l' h3 => ?_) (fun l' h3 => ?_)
                · rw [u_nj (by omega)]
                  exact g2 s' h1 h2 l' h3
                · by_cases e : l' = la
                  · subst e
                    rw [u_eq, Bo_eq _ _ _ s, if_neg (by omega)]
                  · rw [u_nj (by omega)]
                    exact m2 l' (by omega)
              · rw [(c3 f2).1] at cd
                omega
            | succ d ih3 =>
              intro k w b hd3 hk hw hb
              subst hw hb
              refine bm_go (am_ok_all 182 (by decide)) 60 ?_
              refine And.intro (fun cd => ?_) (fun _ => ?_)
              · rw [(c3 f2).1, nI_toInt (by omega), nI_toInt (by omega)] at cd
                omega
              refine sp_stepsBy sh s la k h6 rfl rfl rfl (by omega) (by omega) (by omega) (c3 f2).2 g2 ?_
              intro z hz
              exact ih3 (k + 1) _ _ (by omega) (by omega) (nI_succ k).symm (eN_min (oN k s la) (oX s la k) hz)
          refine bm_go (am_ok_all 182 (by decide)) 60 ?_
          refine And.intro (fun cd => ?_) (fun _ => ?_)
          · rw [T7, nI_toInt (by omega)] at cd
            omega
          exact lpK _ 0 _ _ rfl (Nat.zero_le _) rfl rfl
      refine bm_go (am_ok_all 182 (by decide)) 60 ?_
      refine And.intro (fun cd => ?_) (fun _ => ?_)
      · rw [nI_toInt (by omega)] at cd
        omega
      exact lpM 8 0 _ _ _ I1 rfl (by decide) rfl f1 (fun s' h1 h2 => g1 s' (by omega) h2) (fun l' h3 => by omega)
  refine bm_go (am_ok_all 182 (by decide)) 60 ?_
  refine sp_fill_29 ?_
  refine lp (al T) _ _ _ _ _ (Nat.le_refl _) ?_ ((frN.refl _ _).f (by decide)) (fun s' h1 h2 l' h3 => ?_)
  · show I 25 4 - 1 = _
    rw [h4]
  · rw [show (am_SH 29).2 = 512 from rfl, f_eq (by omega), Bo_eq, if_pos h1]
    rfl
end PS

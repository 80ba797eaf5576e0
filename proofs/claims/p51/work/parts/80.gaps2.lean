/-! steps from lamp to lamp: the class's table, all of it -/
def gT (T : tT) (sh n : Nat) (I : am_I) : Prop := ∀ s l k, s < 64 → l < 8 → k < 8 → I 27 (64 * s + 8 * l + k) = eN (if 8 * s + l < n then gap T sh s l k else none)
theorem gT.skip {T : tT} {sh s l : Nat} {I : am_I} (h : gT T sh (8 * s + l) I) (hl : l < 8) (g : ∀ k, gap T sh s l k = none) : gT T sh (8 * s + (l + 1)) I := by
  intro s' l' k h1 h2 h3
  rw [h s' l' k h1 h2 h3]
  congr 1
  by_cases q : s' = s ∧ l' = l
  · rw [q.1, q.2, g k, ite_self, ite_self]
  · by_cases q2 : 8 * s' + l' < 8 * s + l
    · rw [if_pos q2, if_pos (by omega)]
    · rw [if_neg q2, if_neg (by omega)]
section PG
variable {G : am_G} {l : Launch} {t1 : Option Nat} {I : am_I} {L : am_J} {Q : bm_P}
theorem sp_learnGaps {T : tT} (sh : Nat) (hT : tOk T) (hc : cT T I) (hL : cL T sh 13 I) (h4 : I 25 4 = nI (al T)) (h : ∀ I', frN [26, 27] I I' → (∀ s l k, s < 64 → l < 8 → k < 8 → I' 27 (64 * s + 8 * l + k) = eN (gap T sh s l k)) → Q none (t1, some 7, some 12) I' L) : bm_C G l 180 [.ref 25] (t1, some 7, some 12) I L Q := by
  have n6 := hT.2.2.2.1
  have a64 : al T < 64 := by
    unfold al
    have := Nat.pow_le_pow_right (n := 2) (by decide) n6
    omega
  have hcf : ∀ {I1 : am_I}, frN [26, 27] I I1 → cT T I1 ∧ cL T sh 13 I1 ∧ I1 25 4 = nI (al T) := by
    intro I1 f
    refine ⟨?_, ?_, by rw [f 25 (by decide)]; exact h4⟩
    · unfold cT cG cLp at hc ⊢
      rw [f 7 (by decide), f 8 (by decide), f 9 (by decide), f 10 (by decide), f 11 (by decide)]
      exact hc
    · unfold cL at hL ⊢
      rw [f 13 (by decide)]
      exact hL
  have lp : ∀ d s y d2 (I1 : am_I), al T + 1 - s = d → s ≤ al T + 1 → y = nI s → frN [26, 27] I I1 → gT T sh (8 * s) I1 → bm_W G l 180 11 [some (.ref 25), some (.int y), d2] [] (t1, some 7, some 12) I1 L Q := by
    intro d
    induction d with
    | zero =>
      intro s y d2 I1 hd hs hy f1 g1
      obtain rfl : s = al T + 1 := by omega
      subst hy
      refine bm_go (am_ok_all 180 (by decide)) 40 ?_
      refine And.intro (fun _ => h I1 f1 (fun s l k h1 h2 h3 => ?_)) (fun cd => ?_)
      · rw [g1 s l k h1 h2 h3]
        congr 1
        by_cases q : 8 * s + l < 8 * (al T + 1)
        · rw [if_pos q]
        · rw [if_neg q]
          unfold gap
          rw [if_neg (fun w => by have := w.1; omega)]
      · rw [(hcf f1).2.2, nI_toInt (by omega), nI_toInt (by omega)] at cd
        omega
    | succ d ih =>
      intro s y d2 I1 hd hs hy f1 g1
      subst hy
      have lpI : ∀ d la z (I2 : am_I), 8 - la = d → la ≤ 8 → z = nI la → frN [26, 27] I I2 → gT T sh (8 * s + la) I2 → bm_W G l 180 21 [some (.ref 25), some (.int (nI s)), some (.int z)] [] (t1, some 7, some 12) I2 L Q := by
        intro d
        induction d with
        | zero =>
          intro la z I2 hd2 hla hz f2 g2
          obtain rfl : la = 8 := by omega
          subst hz
          refine bm_go (am_ok_all 180 (by decide)) 40 ?_
          refine And.intro (fun _ => ?_) (fun cd => absurd cd (by decide))
          exact ih (s + 1) _ _ I2 (by omega) (by omega) (nI_succ s).symm f2 g2
        | succ d ih2 =>
          intro la z I2 hd2 hla hz f2 g2
          subst hz
          have es : (nI s).toInt = (s : Int) := nI_toInt (by omega)
          have el : (nI la).toInt = (la : Int) := nI_toInt (by omega)
          have T7 : (7 : Int32).toInt = 7 := rfl
          have skip : (¬ (if s = 0 then la = 7 else s.testBit la = true)) → bm_W G l 180 21 [some (.ref 25), some (.int (nI s)), some (.int (nI la + 1))] [] (t1, some 7, some 12) I2 L Q := by
            intro q
            refine ih2 (la + 1) _ I2 (by omega) (by omega) (nI_succ la).symm f2 (g2.skip (by omega) (fun k => ?_))
            unfold gap
            rw [if_neg (fun w => q w.2.2)]
          have go : (if s = 0 then la = 7 else s.testBit la = true) → ∀ I3, frN [26] I2 I3 → (∀ k, k < 8 → I3 26 k = eN (gap T sh s la k)) → bm_W G l 180 21 [some (.ref 25), some (.int (nI s)), some (.int (nI la + 1))] [] (t1, some 7, some 12) (bm_cpy I3 26 27 0 (64 * s + 8 * la) 8) L Q := by
            intro q I3 f3 e3
            have c1 : ∀ x, x ≠ 27 → bm_cpy I3 26 27 0 (64 * s + 8 * la) 8 x = I3 x := fun x hx => by
              funext y
              unfold bm_cpy
              rw [if_neg hx]
            have c2 : bm_cpy I3 26 27 0 (64 * s + 8 * la) 8 27 = va_cpy (I3 26) (I3 27) 0 (64 * s + 8 * la) 8 := by
              funext y
              unfold bm_cpy
              rw [if_pos rfl]
            refine ih2 (la + 1) _ _ (by omega) (by omega) (nI_succ la).symm (fun x hx => ?_) ?_
            · rw [c1 x (fun e => hx (by rw [e]; decide)), f3 x (fun e => hx (by simp at e; rw [e]; decide)), f2 x hx]
            · intro s' l' k h1 h2 h3
              rw [c2]
              by_cases q3 : s' = s ∧ l' = la
              · rw [q3.1, q3.2, pk_cpy_in (by omega) (by omega), if_pos (by omega), show 0 + (64 * s + 8 * la + k - (64 * s + 8 * la)) = k by omega]
                exact e3 k h3
              · rw [pk_cpy_out (by omega), f3 27 (by decide), g2 s' l' k h1 h2 h3]
                congr 1
                by_cases q2 : 8 * s' + l' < 8 * s + la
                · rw [if_pos q2, if_pos (by omega)]
                · rw [if_neg q2, if_neg (by omega)]
          have hc2 := hcf f2
          refine bm_go (am_ok_all 180 (by decide)) 60 ?_
          refine And.intro (fun cd => by omega) (fun _ => ?_)
          refine And.intro (fun cd => ?_) (fun cd => ?_)
          · have s0 : ¬ s = 0 := fun e => cd (by rw [es, e]; rfl)
            refine sp_isIn s la rfl rfl (by omega) (by omega) (fun b => ?_) (fun b => ?_)
            · first | refine And.intro (fun cd => absurd cd (by decide)) (fun _ => ?_) | refine And.intro (fun _ => ?_) (fun cd => absurd cd (by decide)) | refine And.intro (fun cd => ?_) (fun cd => ?_)
              have q : (if s = 0 then la = 7 else s.testBit la = true) := by rw [if_neg s0]; exact b
              refine sp_paceOn sh s la hT hc2.1 hc2.2.1 rfl rfl (by omega) q (by omega) (fun I3 f3 e3 => ?_)
              refine sp_gapKey s la 0 rfl rfl rfl (by omega) (by omega) (by decide) ?_
              refine ⟨0, 64 * s + 8 * la, 8, rfl, nI_toInt (by omega), rfl, (by omega : 0 + 8 ≤ 8), (by omega : 64 * s + 8 * la + 8 ≤ 4096), ?_⟩
              exact go q I3 f3 e3
            · first | refine And.intro (fun cd => absurd cd (by decide)) (fun _ => ?_) | refine And.intro (fun _ => ?_) (fun cd => absurd cd (by decide)) | refine And.intro (fun cd => ?_) (fun cd => ?_)
              exact skip (by rw [if_neg s0, b]; decide)
          · have s0 : s = 0 := by rw [es] at cd; have cd : (s : Int) = 0 := cd; omega
            refine And.intro (fun c7 => ?_) (fun c7 => ?_)
            · rw [el, T7] at c7
              exact skip (by rw [if_pos s0]; omega)
            · rw [el, T7] at c7
              have q : (if s = 0 then la = 7 else s.testBit la = true) := by rw [if_pos s0]; omega
              refine sp_paceOn sh s la hT hc2.1 hc2.2.1 rfl rfl (by omega) q (by omega) (fun I3 f3 e3 => ?_)
              refine sp_gapKey s la 0 rfl rfl rfl (by omega) (by omega) (by decide) ?_
              refine ⟨0, 64 * s + 8 * la, 8, rfl, nI_toInt (by omega), rfl, (by omega : 0 + 8 ≤ 8), (by omega : 64 * s + 8 * la + 8 ≤ 4096), ?_⟩
              exact go q I3 f3 e3
      refine bm_go (am_ok_all 180 (by decide)) 40 ?_
      refine And.intro (fun cd => ?_) (fun _ => ?_)
      · rw [(hcf f1).2.2, nI_toInt (by omega), nI_toInt (by omega)] at cd
        omega
      exact lpI 8 0 _ I1 rfl (by decide) rfl f1 g1
  refine bm_go (am_ok_all 180 (by decide)) 40 ?_
  refine sp_fill_27 ?_
  refine lp _ 0 _ _ _ rfl (Nat.zero_le _) rfl ((frN.refl _ _).f (by decide)) (fun s l k h1 h2 h3 => ?_)
  rw [show (am_SH 27).2 = 4096 from rfl, f_eq (by omega), if_neg (by omega)]
  rfl
end PG

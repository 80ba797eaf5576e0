/-! pair: shades -/
def shP (T : tT) (sh s : Nat) : Prop := s &&& sh = 0 ∧ Fm (gap T (sh ||| s)) (al T) ≠ none
theorem sh_rest : ∀ n, n < 7 → ∀ s, s < 64 → s < 2 ^ n → ((2 ^ n - 1) &&& cm s) &&& s = 0 ∧ s ||| ((2 ^ n - 1) &&& cm s) = 2 ^ n - 1 ∧ ((2 ^ n - 1) &&& cm s) ≤ 2 ^ n - 1 := by decide +kernel
section PH
variable {G : am_G} {l : Launch} {t : am_T} {I : am_I} {L : am_J} {Q : bm_P}
theorem sp_shades {T : tT} (sh : Nat) (hok : tOk T) (hc : cT T I) (a1 : I 0 14 = nI sh) (hs : sh < 2 ^ tN T) (a4 : I 15 0 = nI 0) (h0 : Fm (gap T (al T)) (al T) = none → ∀ I', frN [15, 26, 33] I I' → I' 15 0 = nI 0 → Q (some (.int (-9))) t I' L) (h1 : ∀ b, mnm (shP T sh) (al T) b → ∀ I', frN [15, 26, 33] I I' → I' 15 0 = nI 0 → Q (some (.int (nI (pc b)))) t (am_u I' 36 0 (nI b)) L) : bm_C G l 33 [.ref 0] t I L Q := by
  have h6 := hok.2.2.2.1
  have p := Nat.two_pow_pos (tN T)
  have p6 := Nat.pow_le_pow_right (n := 2) (by decide) h6
  have a64 := al_lt (Or.inl hok)
  have c2 := hok.1.c2
  have c24 := hok.1.c24
  have hcf : ∀ {I1 : am_I}, frN [15, 26, 33] I I1 → cT T I1 ∧ I1 0 14 = nI sh := by
    intro I1 f
    refine ⟨?_, by rw [f 0 (by decide)]; exact a1⟩
    unfold cT cG cLp at hc ⊢
    rw [f 7 (by decide), f 8 (by decide), f 9 (by decide), f 10 (by decide), f 11 (by decide)]
    exact hc
  have lp : ∀ d i b y2 y3 (I1 : am_I), al T + 1 - i = d → i ≤ al T + 1 → y2 = nI b → y3 = nI i → frN [15, 26, 33] I I1 → I1 15 0 = nI 0 → b ≤ al T → shP T sh b → (∀ j, j < i → shP T sh j → pc b < pc j ∨ (pc b = pc j ∧ b ≤ j)) → bm_W G l 33 43 [some (.ref 0), some (.int (nI (al T))), some (.int y2), some (.int y3)] [] t I1 L Q := by
    intro d
    induction d with
    | zero =>
      intro i b y2 y3 I1 hd hi e2 e3 f1 z1 hb hp hmin
      subst e2 e3
      refine bm_go (am_ok_all 33 (by decide)) 60 ?_
      refine And.intro (fun _ => ?_) (fun cd => ?_)
      · refine sp_bitCount b rfl (by omega) ?_
        refine sp_besides ?_
        exact h1 b ⟨hb, hp, fun j hj => hmin j (by omega)⟩ I1 f1 z1
      · rw [nI_toInt (by omega), nI_toInt (by omega)] at cd
        omega
    | succ d ih =>
      intro i b y2 y3 I1 hd hi e2 e3 f1 z1 hb hp hmin
      subst e2 e3
      obtain ⟨hc1, e14⟩ := hcf f1
      have ia : nI i &&& I1 0 14 = nI (i &&& sh) := by rw [e14, n_and]
      have io : I1 0 14 ||| nI i = nI (sh ||| i) := by rw [e14, n_or]
      have iu : sh ||| i < 64 := or_lt (n := 6) (by omega) (by omega)
      have il : i &&& sh < 64 := Nat.lt_of_le_of_lt Nat.and_le_left (by omega)
      refine bm_go (am_ok_all 33 (by decide)) 60 ?_
      refine And.intro (fun cd => ?_) (fun _ => ?_)
      · rw [nI_toInt (by omega), nI_toInt (by omega)] at cd
        omega
      have skip : ¬ shP T sh i ∨ ¬ bef i b → ∀ I2, frN [15, 26, 33] I I2 → I2 15 0 = nI 0 → bm_W G l 33 43 [some (.ref 0), some (.int (nI (al T))), some (.int (nI b)), some (.int (nI i + 1))] [] t I2 L Q := by
        intro q I2 f2 z2
        refine ih (i + 1) b _ _ I2 (by omega) (by omega) rfl (nI_succ i).symm f2 z2 hb hp (fun j hj hpj => ?_)
        by_cases w : j = i
        · subst w
          rcases q with q | q
          · exact absurd hpj q
          · unfold bef at q
            omega
        · exact hmin j (by omega) hpj
      refine And.intro (fun cd => ?_) (fun cd => ?_)
      · rw [ia, nI_toInt (by omega)] at cd
        have cd : ¬ (((i &&& sh : Nat) : Int) = 0) := cd
        exact skip (Or.inl (fun w => cd (by have := w.1; omega))) I1 f1 z1
      · rw [ia, nI_toInt (by omega)] at cd
        have cd : ((i &&& sh : Nat) : Int) = 0 := cd
        refine sp_isBefore i b rfl rfl (by omega) (by omega) (fun q => ?_) (fun q => ?_)
        · first | refine And.intro (fun cd => absurd cd (by decide)) (fun _ => ?_) | refine And.intro (fun _ => ?_) (fun cd => absurd cd (by decide)) | refine And.intro (fun cd => ?_) (fun cd => ?_)
          refine sp_canShaded (sh ||| i) hok hc1 io iu z1 (fun I2 f2 z2 => ⟨fun e => ?_, fun e => ?_⟩)
          · first | refine And.intro (fun cd => absurd cd (by decide)) (fun _ => ?_) | refine And.intro (fun _ => ?_) (fun cd => absurd cd (by decide)) | refine And.intro (fun cd => ?_) (fun cd => ?_)
            refine ih (i + 1) i _ _ I2 (by omega) (by omega) rfl (nI_succ i).symm (f1.trans f2) z2 (by omega) ⟨by omega, e⟩ (fun j hj hpj => ?_)
            by_cases w : j = i
            · subst w; exact Or.inr ⟨rfl, Nat.le_refl _⟩
            · have := hmin j (by omega) hpj
              unfold bef at q
              omega
          · first | refine And.intro (fun cd => absurd cd (by decide)) (fun _ => ?_) | refine And.intro (fun _ => ?_) (fun cd => absurd cd (by decide)) | refine And.intro (fun cd => ?_) (fun cd => ?_)
            exact skip (Or.inl (fun w => w.2 e)) I2 (f1.trans f2) z2
        · first | refine And.intro (fun cd => absurd cd (by decide)) (fun _ => ?_) | refine And.intro (fun _ => ?_) (fun cd => absurd cd (by decide)) | refine And.intro (fun cd => ?_) (fun cd => ?_)
          exact skip (Or.inr q) I1 f1 z1
  obtain ⟨r1, r2, r3⟩ := sh_rest (tN T) (by omega) sh (by omega) hs
  refine bm_go (am_ok_all 33 (by decide)) 60 ?_
  refine And.intro (fun _ => ?_) (fun cd => ?_)
  rotate_left
  · rw [hc.2.1, nI_toInt (by omega)] at cd
    exact absurd cd (by show ¬ ((tC T : Int) = 0); omega)
  refine sp_all (Or.inl hok) hc.2.2.2.1 ?_
  refine sp_canShaded (al T) hok hc rfl a64 a4 (fun I1 f1 z1 => ⟨fun e => ?_, fun e => ?_⟩)
  · first | refine And.intro (fun cd => absurd cd (by decide)) (fun _ => ?_) | refine And.intro (fun _ => ?_) (fun cd => absurd cd (by decide)) | refine And.intro (fun cd => ?_) (fun cd => ?_)
    have eb : nI (al T) &&& (I1 0 14 ^^^ (-1)) = nI (al T &&& cm sh) := by rw [(hcf f1).2, km1, n_cm, n_and]
    refine lp _ 0 (al T &&& cm sh) _ _ I1 rfl (Nat.zero_le _) eb rfl f1 z1 r3 ⟨r1, ?_⟩ (fun j hj => by omega)
    have : sh ||| (al T &&& cm sh) = al T := r2
    rw [this]
    exact e
  · first | refine And.intro (fun cd => absurd cd (by decide)) (fun _ => ?_) | refine And.intro (fun _ => ?_) (fun cd => absurd cd (by decide)) | refine And.intro (fun cd => ?_) (fun cd => ?_)
    exact h0 e I1 f1 z1
end PH

/-! pair: shades -/
def shP (T : tT) (sh s : Nat) : Prop := s &&& sh = 0 ∧ Fm (gap T (sh ||| s)) (al T) ≠ none
theorem told_gen {t : am_T} {I1 I4 : am_I} {L : am_J} {v : Int32} {cs : List Nat} (h36 : 36 ∉ cs) (hb : ∀ K, frN cs I1 K → Inv t K L) (f4 : frN cs (am_u I1 36 0 v) I4) : Inv t (am_u I4 61 0 v) L := by
  have f4' : frN cs I1 (fun x y => if x = 36 then I1 36 y else I4 x y) := by
    intro x hx
    funext y
    by_cases e : x = 36
    · show (if x = 36 then I1 36 y else I4 x y) = _
      rw [if_pos e, e]
    · show (if x = 36 then I1 36 y else I4 x y) = _
      rw [if_neg e, f4 x hx, u_ne e]
  have this := (hb _ f4').tell v
  have eq : am_u (am_u (fun x y => if x = 36 then I1 36 y else I4 x y) 36 0 v) 61 0 v = am_u I4 61 0 v := by
    congr 1
    funext x y
    unfold am_u
    by_cases e : x = 36
    · subst e
      by_cases e2 : y = 0
      · subst e2
        rw [if_pos ⟨rfl, rfl⟩, f4 36 h36, u_eq]
      · rw [if_neg (fun w => e2 w.2)]
        show (if 36 = 36 then I1 36 y else I4 36 y) = _
        rw [if_pos rfl, f4 36 h36, u_nj e2]
    · rw [if_neg (fun w => e w.1)]
      show (if x = 36 then I1 36 y else I4 x y) = _
      rw [if_neg e]
  rw [eq] at this
  exact this
theorem sh_rest : ∀ n, n < 7 → ∀ s, s < 64 → s < 2 ^ n → ((2 ^ n - 1) &&& cm s) &&& s = 0 ∧ s ||| ((2 ^ n - 1) &&& cm s) = 2 ^ n - 1 ∧ ((2 ^ n - 1) &&& cm s) ≤ 2 ^ n - 1 := by decide +kernel
section PH
variable {G : am_G} {l : Launch} {t : am_T} {I : am_I} {L : am_J} {Q : bm_P}
theorem sp_shades {T : tT} (sh : Nat) (hok : tOk T) (hc : cT T I) (a1 : I 0 14 = nI sh) (hs : sh < 2 ^ tN T) (a4 : I 15 0 = nI 0) (h0 : Fm (gap T (al T)) (al T) = none → ∀ I', frN [15, 26, 33] I I' → I' 15 0 = nI 0 → Q (some (.int (-9))) t I' L) (h1 : ∀ b, mnm (shP T sh) (al T) b → ∀ I', frN [15, 26, 33] I I' → I' 15 0 = nI 0 → Q (some (.int (nI (pc b)))) t (am_u I' 36 0 (nI b)) L) : bm_C G l 33 [.ref 0] t I L Q := by
  have h6 := hok.2.2.2.1
  have p := Nat.two_pow_pos (tN T)
  have p6 := Nat.pow_le_pow_right (n := 2) (by decide) h6
  have a64 := al_lt (Or.inl hok)
  have c2 := hok.1.c2
  have c24 := hok.1.c24
  have hcf : ∀ {I1 : am_I}, frN [15, 26, 33] I I1 → cT T I1 ∧ I1 0 14 = nI sh := by
    intro I1 f
    refine ⟨?_, by rw [f 0 (by decide)]; exact a1⟩
    unfold cT cG cLp at hc ⊢
    rw [f 7 (by decide), f 8 (by decide), f 9 (by decide), f 10 (by decide), f 11 (by decide)]
    exact hc
  have lp : ∀ d i b y2 y3 (I1 : am_I), al T + 1 - i = d → i ≤ al T + 1 → y2 = nI b → y3 = nI i → frN [15, 26, 33] I I1 → I1 15 0 = nI 0 → b ≤ al T → shP T sh b → (∀ j, j < i → shP T sh j → pc b < pc j ∨ (pc b = pc j ∧ b ≤ j)) → bm_W G l 33 43 [some (.ref 0), some (.int (nI (al T))), some (.int y2), some (.int y3)] [] t I1 L Q := by
    intro d
    induction d with
    | zero =>
      intro i b y2 y3 I1 hd hi e2 e3 f1 z1 hb hp hmin
      subst e2 e3
      refine bm_go (am_ok_all 33 (by decide)) 60 ?_
      refine And.intro (fun _ => ?_) (fun cd => ?_)
      · refine sp_bitCount b rfl (by omega) ?_
        refine sp_besides ?_
        exact h1 b ⟨hb, hp, fun j hj => hmin j (by omega)⟩ I1 f1 z1
      · rw [nI_toInt (by omega), nI_toInt (by omega)] at cd
        omega
    | succ d ih =>
      intro i b y2 y3 I1 hd hi e2 e3 f1 z1 hb hp hmin
      subst e2 e3
      obtain ⟨hc1, e14⟩ := hcf f1
      have ia : nI i &&& I1 0 14 = nI (i &&& sh) := by rw [e14, n_and]
      have io : I1 0 14 ||| nI i = nI (sh ||| i) := by rw [e14, n_or]
      have iu : sh ||| i < 64 := or_lt (n := 6) (by omega) (by omega)
      have il : i &&& sh < 64 := Nat.lt_of_le_of_lt Nat.and_le_left (by omega)
      refine bm_go (am_ok_all 33 (by decide)) 60 ?_
      refine And.intro (fun cd => ?_) (fun _ => ?_)
      · rw [nI_toInt (by omega), nI_toInt (by omega)] at cd
        omega
      have skip : ¬ shP T sh i ∨ ¬ bef i b → ∀ I2, frN [15, 26, 33] I I2 → I2 15 0 = nI 0 → bm_W G l 33 43 [some (.ref 0), some (.int (nI (al T))), some (.int (nI b)), some (.int (nI i + 1))] [] t I2 L Q := by
        intro q I2 f2 z2
        refine ih (i + 1) b _ _ I2 (by omega) (by omega) rfl (nI_succ i).symm f2 z2 hb hp (fun j hj hpj => ?_)
        by_cases w : j = i
        · subst w
          rcases q with q | q
          · exact absurd hpj q
          · unfold bef at q
            omega
        · exact hmin j (by omega) hpj
      refine And.intro (fun cd => ?_) (fun cd => ?_)
      · rw [ia, nI_toInt (by omega)] at cd
        have cd : ¬ (((i &&& sh : Nat) : Int) = 0) := cd
        exact skip (Or.inl (fun w => cd (by have := w.1; omega))) I1 f1 z1
      · rw [ia, nI_toInt (by omega)] at cd
        have cd : ((i &&& sh : Nat) : Int) = 0 := cd
        refine sp_isBefore i b rfl rfl (by omega) (by omega) (fun q => ?_) (fun q => ?_)
        · first | refine And.intro (fun cd => absurd cd (by decide)) (fun _ => ?_) | refine And.intro (fun _ => ?_) (fun cd => absurd cd (by decide)) | refine And.intro (fun cd => ?_) (fun cd => ?_)
          refine sp_canShaded (sh ||| i) hok hc1 io iu z1 (fun I2 f2 z2 => ⟨fun e => ?_, fun e => ?_⟩)
          · first | refine And.intro (fun cd => absurd cd (by decide)) (fun _ => ?_) | refine And.intro (fun _ => ?_) (fun cd => absurd cd (by decide)) | refine And.intro (fun cd => ?_) (fun cd => ?_)
            refine ih (i + 1) i _ _ I2 (by omega) (by omega) rfl (nI_succ i).symm (f1.trans f2) z2 (by omega) ⟨by omega, e⟩ (fun j hj hpj => ?_)
            by_cases w : j = i
            · subst w; exact Or.inr ⟨rfl, Nat.le_refl _⟩
            · have := hmin j (by omega) hpj
              unfold bef at q
              omega
          · first | refine And.intro (fun cd => absurd cd (by decide)) (fun _ => ?_) | refine And.intro (fun _ => ?_) (fun cd => absurd cd (by decide)) | refine And.intro (fun cd => ?_) (fun cd => ?_)
            exact skip (Or.inl (fun w => w.2 e)) I2 (f1.trans f2) z2
        · first | refine And.intro (fun cd => absurd cd (by decide)) (fun _ => ?_) | refine And.intro (fun _ => ?_) (fun cd => absurd cd (by decide)) | refine And.intro (fun cd => ?_) (fun cd => ?_)
          exact skip (Or.inr q) I1 f1 z1
  obtain ⟨r1, r2, r3⟩ := sh_rest (tN T) (by omega) sh (by omega) hs
  refine bm_go (am_ok_all 33 (by decide)) 60 ?_
  refine And.intro (fun _ => ?_) (fun cd => ?_)
  rotate_left
  · rw [hc.2.1, nI_toInt (by omega)] at cd
    exact absurd cd (by show ¬ ((tC T : Int) = 0); omega)
  refine sp_all (Or.inl hok) hc.2.2.2.1 ?_
  refine sp_canShaded (al T) hok hc rfl a64 a4 (fun I1 f1 z1 => ⟨fun e => ?_, fun e => ?_⟩)
  · first | refine And.intro (fun cd => absurd cd (by decide)) (fun _ => ?_) | refine And.intro (fun _ => ?_) (fun cd => absurd cd (by decide)) | refine And.intro (fun cd => ?_) (fun cd => ?_)
    have eb : nI (al T) &&& (I1 0 14 ^^^ (-1)) = nI (al T &&& cm sh) := by rw [(hcf f1).2, km1, n_cm, n_and]
    refine lp _ 0 (al T &&& cm sh) _ _ I1 rfl (Nat.zero_le _) eb rfl f1 z1 r3 ⟨r1, ?_⟩ (fun j hj => by omega)
    have : sh ||| (al T &&& cm sh) = al T := r2
    rw [this]
    exact e
  · first | refine And.intro (fun cd => absurd cd (by decide)) (fun _ => ?_) | refine And.intro (fun _ => ?_) (fun cd => absurd cd (by decide)) | refine And.intro (fun cd => ?_) (fun cd => ?_)
    exact h0 e I1 f1 z1
def frS2 (I I' : am_I) : Prop := (∀ x, x ∉ [61, 74, 75] → I' x = I x) ∧ ∀ j, j ≠ 19 → I' 61 j = I 61 j
theorem sm_shades {T : tT} (sh : Nat) (hok : tOk T) (hm : mT T I) (a2 : I 61 19 = nI sh) (hs : sh < 2 ^ tN T) (h0 : (∀ j, j ≤ al T → ¬ shP T sh j) → ∀ I', frN [74, 75] I I' → Q (some (.int (-9))) t I' L) (h1 : ∀ b, mnm (shP T sh) (al T) b → ∀ I', frN [74, 75] I I' → Q (some (.int (nI (pc b)))) t (am_u I' 61 0 (nI b)) L) : bm_C G l 144 [.ref 61] t I L Q := by
  have h6 := hok.2.2.2.1
  have p := Nat.two_pow_pos (tN T)
  have p6 := Nat.pow_le_pow_right (n := 2) (by decide) h6
  have hT : tOK T := Or.inl hok
  have a64 := al_lt hT
  have c2 := hok.1.c2
  have c24 := hok.1.c24
  have frM : ∀ {I1 : am_I}, frS2 I I1 → mT T I1 := fun f => hm.fr (fun j q1 q2 => f.2 j (by intro e; subst e; omega)) (f.1 66 (by decide)) (f.1 67 (by decide)) (f.1 68 (by decide))
  have back : ∀ {I1 : am_I}, frS2 I I1 → frN [74, 75] I (am_u I1 61 19 (nI sh)) := by
    intro I1 f x hx
    by_cases e : x = 61
    · subst e
      funext j
      by_cases q : j = 19
      · subst q
        rw [u_eq, a2]
      · rw [u_nj q]
        exact f.2 j q
    · rw [u_ne e]
      exact f.1 x (fun q => by simp at q hx; omega)
  have lp : ∀ d i (o : Option Nat) y2 y3 (I1 : am_I), al T + 1 - i = d → i ≤ al T + 1 → y2 = eM o → y3 = nI i → frS2 I I1 → (o = none → ∀ j, j < i → ¬ shP T sh j) → (∀ b, o = some b → b < i ∧ shP T sh b ∧ ∀ j, j < i → shP T sh j → pc b < pc j ∨ (pc b = pc j ∧ b ≤ j)) → bm_W G l 144 20 [some (.ref 61), some (.int (I 61 19)), some (.int y2), some (.int y3)] [] t I1 L Q := by
    intro d
    induction d with
    | zero =>
      intro i o y2 y3 I1 hd hi e2 e3 f1 hn hb
      obtain rfl : i = al T + 1 := by omega
      subst e2 e3
      refine bm_go (am_ok_all 144 (by decide)) 60 ?_
      refine sm_every hT (frM f1) ?_
      refine And.intro (fun _ => ?_) (fun cd => ?_)
      · have bk := back f1
        rw [← a2] at bk
        cases o with
        | none =>
          refine And.intro (fun cd => absurd rfl cd) (fun _ => ?_)
          exact h0 (fun j hj => hn rfl j (by omega)) _ bk
        | some b =>
          obtain ⟨q1, q2, q3⟩ := hb b rfl
          refine And.intro (fun _ => ?_) (fun cd => ?_)
          · refine sm_size b rfl (by omega) ?_
            refine sm_tells ?_
            exact h1 b ⟨by omega, q2, fun j hj => q3 j (by omega)⟩ _ bk
          · have cd : (nI b).toInt = (-9 : Int) := cd
            rw [nI_toInt (by omega)] at cd
            omega
      · rw [nI_toInt (by omega), nI_toInt (by omega)] at cd
        omega
    | succ d ih =>
      intro i o y2 y3 I1 hd hi e2 e3 f1 hn hb
      subst e2 e3
      have ia : nI i &&& I 61 19 = nI (i &&& sh) := by rw [a2, n_and]
      have io : I 61 19 ||| nI i = nI (sh ||| i) := by rw [a2, n_or]
      have iu : sh ||| i < 64 := or_lt (n := 6) (by omega) (by omega)
      have il : i &&& sh < 64 := Nat.lt_of_le_of_lt Nat.and_le_left (by omega)
      have skip : ¬ shP T sh i ∨ (∃ b, o = some b ∧ pc b ≤ pc i) → ∀ I2, frS2 I I2 → bm_W G l 144 20 [some (.ref 61), some (.int (I 61 19)), some (.int (eM o)), some (.int (nI i + 1))] [] t I2 L Q := by
        intro q I2 f2
        refine ih (i + 1) o _ _ I2 (by omega) (by omega) rfl (nI_succ i).symm f2 (fun e j hj => ?_) (fun b e => ?_)
        · by_cases w : j = i
          · subst w
            rcases q with q | ⟨b, q, _⟩
            · exact q
            · rw [e] at q
              cases q
          · exact hn e j (by omega)
        · obtain ⟨q1, q2, q3⟩ := hb b e
          refine ⟨by omega, q2, fun j hj hp => ?_⟩
          by_cases w : j = i
          · subst w
            rcases q with q | ⟨b', q, q4⟩
            · exact absurd hp q
            · rw [e] at q
              have : b = b' := Option.some.inj q
              subst this
              omega
          · exact q3 j (by omega) hp
      have obF := Fm_ob (g := gap T (sh ||| i)) (fun _ _ _ _ e => gap_lt e) a64
      have new : (i &&& sh = 0) → (o = none ∨ ∃ b, o = some b ∧ pc i < pc b) → Fm (gap T (sh ||| i)) (al T) ≠ none → ∀ I2, frS2 I I2 → bm_W G l 144 20 [some (.ref 61), some (.int (I 61 19)), some (.int (nI i)), some (.int (nI i + 1))] [] t I2 L Q := by
        intro q1 q2 q3 I2 f2
        refine ih (i + 1) (some i) _ _ I2 (by omega) (by omega) rfl (nI_succ i).symm f2 (fun e => by cases e) (fun b e => ?_)
        have : i = b := Option.some.inj e
        subst this
        refine ⟨by omega, ⟨q1, q3⟩, fun j hj hp => ?_⟩
        by_cases w : j = i
        · subst w; exact Or.inr ⟨rfl, Nat.le_refl _⟩
        · rcases q2 with q2 | ⟨b, q2, q4⟩
          · exact absurd hp (hn q2 j (by omega))
          · have := (hb b q2).2.2 j (by omega) hp
            omega
      have cont : (i &&& sh = 0) → (o = none ∨ ∃ b, o = some b ∧ pc i < pc b) → ∀ I3, frS2 I I3 → (Fm (gap T (sh ||| i)) (al T) = none → bm_W G l 144 20 [some (.ref 61), some (.int (I 61 19)), some (.int (eM o)), some (.int (nI i + 1))] [] t I3 L Q) ∧ (Fm (gap T (sh ||| i)) (al T) ≠ none → bm_W G l 144 20 [some (.ref 61), some (.int (I 61 19)), some (.int (nI i)), some (.int (nI i + 1))] [] t I3 L Q) := fun q1 q2 I3 f3 => ⟨fun e => skip (Or.inl (fun w => w.2 e)) I3 f3, fun e => new q1 q2 e I3 f3⟩
      refine bm_go (am_ok_all 144 (by decide)) 90 ?_
      refine sm_every hT (frM f1) ?_
      refine And.intro (fun cd => ?_) (fun _ => ?_)
      · rw [nI_toInt (by omega), nI_toInt (by omega)] at cd
        omega
      have f2 : frS2 I (am_u I1 61 19 (I 61 19 ||| nI i)) := ⟨fun x hx => by rw [u_ne (fun e => hx (by rw [e]; decide))]; exact f1.1 x hx, fun j hj => by rw [u_nj hj]; exact f1.2 j hj⟩
      have hm2 := frM f2
      refine And.intro (fun cd => ?_) (fun cd => ?_)
      · rw [ia, nI_toInt (by omega)] at cd
        have cd : ¬ (((i &&& sh : Nat) : Int) = 0) := cd
        exact skip (Or.inl (fun w => cd (by have := w.1; omega))) I1 f1
      rw [ia, nI_toInt (by omega)] at cd
      have cd : ((i &&& sh : Nat) : Int) = 0 := cd
      have i0 : i &&& sh = 0 := by omega
      cases o with
      | none =>
        refine And.intro (fun _ => ?_) (fun cd => absurd rfl cd)
        have ct := cont i0 (Or.inl rfl)
        refine sm_every hT hm2 ?_
        refine sm_goes (sh ||| i) (tD T) 0 (al T) hok hm2 (by rw [u_eq]; exact io) (by omega) hm2.2.2.2.2.1 rfl rfl hok.2.1 (by omega) (by decide) (fun I3 f3 g3 => ?_)
        rw [gr_gap (sh ||| i) h6] at g3
        have f23 : frS2 I I3 := ⟨fun x hx => by rw [f3 x (fun q => hx (by simp at q ⊢; omega))]; exact f2.1 x hx, fun j hj => by rw [f3 61 (by decide)]; exact f2.2 j hj⟩
        refine sm_every hT (frM f23) ?_
        refine sm_fewestOf (al T) (gap T (sh ||| i)) (fun _ _ _ _ e => gap_lt e) h6 (frM f23).2.2.2.1 rfl (Nat.le_refl _) (fun l hl => (g3 _ l (Nat.le_refl _) hl).1) ?_
        refine And.intro (fun ce => ?_) (fun ce => ?_)
        · exact (ct I3 f23).2 (fun e => ce ((eM_n obF).mpr e))
        · exact (ct I3 f23).1 ((eM_n obF).mp ce)
      | some b =>
        obtain ⟨q1, q2, q3⟩ := hb b rfl
        have pi := pc_le i
        have pb := pc_le b
        refine And.intro (fun cd => ?_) (fun _ => ?_)
        · have cd : (nI b).toInt = (-9 : Int) := cd
          rw [nI_toInt (by omega)] at cd
          omega
        refine sm_size i rfl (by omega) ?_
        refine sm_size b rfl (by omega) ?_
        refine And.intro (fun c3 => ?_) (fun c3 => ?_)
        · rw [nI_toInt (by omega), nI_toInt (by omega)] at c3
          exact skip (Or.inr ⟨b, rfl, by omega⟩) I1 f1
        · rw [nI_toInt (by omega), nI_toInt (by omega)] at c3
          have ct := cont i0 (Or.inr ⟨b, rfl, by omega⟩)
          refine sm_every hT hm2 ?_
          refine sm_goes (sh ||| i) (tD T) 0 (al T) hok hm2 (by rw [u_eq]; exact io) (by omega) hm2.2.2.2.2.1 rfl rfl hok.2.1 (by omega) (by decide) (fun I3 f3 g3 => ?_)
          rw [gr_gap (sh ||| i) h6] at g3
          have f23 : frS2 I I3 := ⟨fun x hx => by rw [f3 x (fun q => hx (by simp at q ⊢; omega))]; exact f2.1 x hx, fun j hj => by rw [f3 61 (by decide)]; exact f2.2 j hj⟩
          refine sm_every hT (frM f23) ?_
          refine sm_fewestOf (al T) (gap T (sh ||| i)) (fun _ _ _ _ e => gap_lt e) h6 (frM f23).2.2.2.1 rfl (Nat.le_refl _) (fun l hl => (g3 _ l (Nat.le_refl _) hl).1) ?_
          refine And.intro (fun ce => ?_) (fun ce => ?_)
          · exact (ct I3 f23).2 (fun e => ce ((eM_n obF).mpr e))
          · exact (ct I3 f23).1 ((eM_n obF).mp ce)
  refine bm_go (am_ok_all 144 (by decide)) 60 ?_
  refine And.intro (fun _ => ?_) (fun cd => ?_)
  · exact lp _ 0 none _ _ I rfl (Nat.zero_le _) rfl rfl ⟨fun _ _ => rfl, fun _ _ => rfl⟩ (fun _ j hj => by omega) (fun b e => by cases e)
  · rw [hm.2.2.1, nI_toInt (by omega)] at cd
    exact absurd cd (by show ¬ ((tC T : Int) = 0); omega)
theorem pair_shades (h : Inv t I L) : bm_C G l 33 [.ref 0] t I L (pI G l 144 [.ref 61]) := by
  obtain ⟨T, sh, hc, hm, hs, a1, a2, hL, a4, hK, hS, hO, hG⟩ := h.2.2
  have hT := InvX.ok hG
  have n6 := hT.n6
  have p6 := Nat.pow_le_pow_right (n := 2) (by decide) n6
  rcases hG with ⟨hok, hg⟩ | ⟨he, hg⟩
  · have base : ∀ I1, frN [15, 26, 33] I I1 → I1 15 0 = nI 0 → ∀ K, frN [74, 75] I1 K → Inv t K L := by
      intro I1 f1 z1 K fK
      have f : frN [15, 26, 33, 74, 75] I K := (f1.mono (by decide)).trans (fK.mono (by decide))
      refine ⟨h.1.frN f (by decide), h.2.1.frN f (by decide) (by decide) (by decide) (by decide), h.2.2.fr ⟨fun x hx => f x (fun q => hx ((by decide : ∀ x, x ∈ [15, 26, 33, 74, 75] → x ∈ exX) x q)), by rw [fK 15 (by decide), z1, a4], fun j _ => by rw [f 25 (by decide)], fun j _ _ => by rw [f 61 (by decide)]⟩⟩
    refine sp_shades sh hok hc a1 hs a4 (fun e I1 f1 z1 => ?_) (fun b hb I1 f1 z1 => ?_)
    · refine ⟨_, rfl, ?_⟩
      have hm1 : mT T I1 := hm.frN f1 (by decide) (by decide) (by decide) (by decide)
      refine sm_shades sh hok hm1 (by rw [f1 61 (by decide)]; exact a2) hs (fun _ I2 f2 => ⟨rfl, base I1 f1 z1 I2 f2⟩) (fun b hb I2 f2 => ?_)
      exact absurd e (Fm_mono hok _ hb.2.1.2)
    · refine ⟨_, rfl, ?_⟩
      generalize hJ : am_u I1 36 0 (nI b) = J
      have fJ : frN [36] I1 J := by rw [← hJ]; exact (frN.refl _ _).u (by decide)
      have hm1 : mT T I1 := hm.frN f1 (by decide) (by decide) (by decide) (by decide)
      have hmJ : mT T J := hm1.frN fJ (by decide) (by decide) (by decide) (by decide)
      refine sm_shades sh hok hmJ (by rw [fJ 61 (by decide), f1 61 (by decide)]; exact a2) hs (fun e I2 f2 => ?_) (fun b' hb' I2 f2 => ?_)
      · exact absurd hb.2.1 (e b hb.1)
      · have : b' = b := mnm_u hb' hb
        subst this
        refine ⟨rfl, ?_⟩
        rw [← hJ] at f2
        exact told_gen (by decide) (base I1 f1 z1) f2
  · refine bm_go (am_ok_all 33 (by decide)) 60 ?_
    refine And.intro (fun cd => ?_) (fun _ => ?_)
    · rw [hc.2.1, he.c0] at cd
      exact absurd rfl cd
    · refine ⟨_, rfl, ?_⟩
      refine bm_go (am_ok_all 144 (by decide)) 60 ?_
      refine And.intro (fun cd => ?_) (fun _ => ⟨rfl, h⟩)
      rw [hm.2.2.1, he.c0] at cd
      exact absurd rfl cd
end PH

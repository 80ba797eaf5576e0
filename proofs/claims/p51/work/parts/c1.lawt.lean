/-! the law: thieves -/
section LW
variable {G : am_G} {l : Launch} {t : am_T} {I : am_I} {L : am_J} {T : tT} {D : Int64} {n : Nat} {alv sp : Int32}
theorem isT.C {G : am_G} {T : tT} (h : isT G T) : tC T = sN G := by
  unfold tC sN
  rw [h.1, h.2.1]
theorem lw_1217 (hG : G.2.2.1 ≤ 260) {ft : Int32} {U : Int64} {τ c s : Nat} {l17 : Int32} (hc : c < tC T) (hs : s < 2 ^ tN T) (out : ∀ (t : am_T) (I : am_I) (d19 : Option Value), lS G T D n t I → nm_W G l 264 1265 (wL (nI (tN T)) (nI (al T)) (nI (tS T)) alv D sp [some (.long U), none, some (.int ft), some (.int (nI τ)), some (.int (nI c)), some (.int (nI s)), some (.int l17), some (.int (nI (dk T (lit T 0 s) (1 <<< c) (tC T)))), d19]) [] n 81 40064 t I L lwQ) :
    ∀ (j a : Nat) (av : Int32) (t : am_T) (I : am_I), tC T - a = j → a ≤ tC T → av = nI a → lS G T D n t I → nm_W G l 264 1217 (wL (nI (tN T)) (nI (al T)) (nI (tS T)) alv D sp [some (.long U), none, some (.int ft), some (.int (nI τ)), some (.int (nI c)), some (.int (nI s)), some (.int l17), some (.int (nI (dk T (lit T 0 s) (1 <<< c) (tC T)))), some (.int av)]) [] n 81 40064 t I L lwQ := by
  intro j
  induction j with
  | zero =>
    intro a av t I hj ha ea h
    have hC := h.1.C
    have sb := sN_b G
    obtain rfl : a = tC T := by omega
    subst ea
    refine nm_go (am_ok_all 264 (by decide)) 3 ?_
    refine nm_b h.2.2.2.2.2.2.2 (sp_cells hG ?_)
    rw [← hC]
    refine And.intro (fun _ => out t I _ h) (fun cd => absurd cd (by omega))
  | succ j ih =>
    intro a av t I hj ha ea h
    subst ea
    have hC := h.1.C
    have sb := sN_b G
    have hT := h.2.1.1.1
    have n81 := h.2.2.2.2.2.2.2
    have dl := up24 hT (dk_lt hT (lit T 0 s) (1 <<< c) (tC T))
    have bit := n_bit (s := dk T (lit T 0 s) (1 <<< c) (tC T)) (j := a) (Nat.lt_trans dl (by decide)) (by omega)
    have nx : ∀ (t : am_T) (I : am_I), lS G T D n t I → nm_W G l 264 1253 (wL (nI (tN T)) (nI (al T)) (nI (tS T)) alv D sp [some (.long U), none, some (.int ft), some (.int (nI τ)), some (.int (nI c)), some (.int (nI s)), some (.int l17), some (.int (nI (dk T (lit T 0 s) (1 <<< c) (tC T)))), some (.int (nI a))]) [] n 81 40064 t I L lwQ := by
      intro t I h'
      refine nm_go (am_ok_all 264 (by decide)) 20 ?_
      exact ih (a + 1) _ t I (by omega) (by omega) (nI_1 a) h'
    refine nm_go (am_ok_all 264 (by decide)) 3 ?_
    refine nm_b n81 (sp_cells hG ?_)
    rw [← hC]
    refine And.intro (fun cd => ?_) (fun _ => ?_)
    · rw [nI_toInt (by omega), nI_toInt (by omega)] at cd
      omega
    refine nm_go (am_ok_all 264 (by decide)) 1 ?_
    refine And.intro (fun cd => absurd cd (by decide)) (fun _ => ?_)
    refine nm_go (am_ok_all 264 (by decide)) 5 ?_
    cases e : (dk T (lit T 0 s) (1 <<< c) (tC T)).testBit a with
    | false =>
      rw [e] at bit
      refine And.intro (fun _ => nx t I h) (fun cd => ?_)
      rw [bit] at cd
      exact absurd rfl cd
    | true =>
      rw [e] at bit
      refine And.intro (fun cd => ?_) (fun _ => ?_)
      · rw [bit] at cd
        exact absurd cd (by decide)
      refine nm_go (am_ok_all 264 (by decide)) 5 ?_
      refine nm_b n81 (cc_thief h.2.1 a s (by omega) hs rfl rfl ?_)
      have f1 : frN [36] I (am_u I 36 0 (nI (pc (dk T (lit T 0 s) (1 <<< a) (tC T))))) := (frN.refl _ _).u (by decide)
      have h' := h.n (h.2.1.n f1 (by decide)) f1 (by decide)
      rw [dk_same hT hc e] at h' ⊢
      exact And.intro (fun cd => absurd rfl cd) (fun _ => nx _ _ h')
theorem sub_0 {a b : Nat} (ha : a < 2 ^ 31) (h : ∀ x, a.testBit x = true → b.testBit x = true) : (nI a &&& (nI b ^^^ (-1))).toInt = 0 := by
  rw [km1, n_cm, n_and]
  have l : a &&& cm b < 2 ^ 31 := Nat.lt_of_le_of_lt Nat.and_le_left ha
  rw [n_z l]
  apply Nat.eq_of_testBit_eq
  intro i
  rw [tb_and_cm (by omega), Nat.zero_testBit]
  cases e : a.testBit i with
  | false => rfl
  | true => rw [h i e]; rfl
theorem dis_0 {a b : Nat} (ha : a < 2 ^ 31) (h : ∀ x, a.testBit x = true → b.testBit x = false) : (nI a &&& nI b).toInt = 0 := by
  rw [n_and]
  have l : a &&& b < 2 ^ 31 := Nat.lt_of_le_of_lt Nat.and_le_left ha
  rw [n_z l]
  apply Nat.eq_of_testBit_eq
  intro i
  rw [Nat.testBit_and, Nat.zero_testBit]
  cases e : a.testBit i with
  | false => rfl
  | true => rw [h i e]; rfl
theorem lw_1091 (hG : G.2.2.1 ≤ 260) (hsp : lSp T sp) {ft : Int32} {U : Int64} : ∀ (j τ : Nat) (tv : Int32) (t : am_T) (I : am_I) (d15 d16 d17 d18 d19 : Option Value), 4 - τ = j → τ ≤ 4 → tv = nI τ → lS G T D n t I → nm_W G l 264 1091 (wL (nI (tN T)) (nI (al T)) (nI (tS T)) alv D sp [some (.long U), none, some (.int ft), some (.int tv), d15, d16, d17, d18, d19]) [] n 81 40064 t I L lwQ := by
  intro j
  induction j with
  | zero =>
    intro τ tv t I d15 d16 d17 d18 d19 hj hτ eτ h
    obtain rfl : τ = 4 := by omega
    subst eτ
    refine nm_go (am_ok_all 264 (by decide)) 2 ?_
    refine And.intro (fun _ => lw_1271 h hsp) (fun cd => absurd cd (by decide))
  | succ j ih =>
    intro τ tv t I d15 d16 d17 d18 d19 hj hτ eτ h
    subst eτ
    have hC := h.1.C
    have sb := sN_b G
    have hok := h.2.1.1
    have hT := hok.1
    have n6 : tN T ≤ 6 := hok.2.2.2.1
    have p6 := Nat.pow_le_pow_right (n := 2) (by decide) n6
    have pp := Nat.two_pow_pos (tN T)
    have n81 := h.2.2.2.2.2.2.2
    have c9 := ce_lt G 9
    have c10 := ce_lt G 10
    have c9s := sr_lt (k := 5 * τ) c9
    have c10s := sr_lt (k := τ) c10
    obtain ⟨c, ec⟩ : ∃ c, c = (ce G 9 >>> (5 * τ)) % sN G := ⟨_, rfl⟩
    obtain ⟨s, es⟩ : ∃ s, s = ce G 10 >>> τ &&& al T := ⟨_, rfl⟩
    have hc : c < tC T := by rw [ec, hC]; exact Nat.mod_lt _ (by omega)
    have hs : s < 2 ^ tN T := by rw [es]; exact and_lt' _ (by unfold al; omega)
    have dl := up24 hT (dk_lt hT (lit T 0 s) (1 <<< c) (tC T))
    have ll := lit_24 (Or.inl hok : tOK T) 0 s
    have sl : tS T < 2 ^ 31 := Nat.lt_trans hT.s24 (by decide)
    have h24 := hT.c24
    have step : ∀ (z15 z16 : Int32), z15 = nI c → z16 = nI s → nm_W G l 264 1133 (wL (nI (tN T)) (nI (al T)) (nI (tS T)) alv D sp [some (.long U), none, some (.int ft), some (.int (nI τ)), some (.int z15), some (.int z16), d17, d18, d19]) [] n 81 40064 t I L lwQ := by
      intro z15 z16 e15 e16
      subst e15 e16
      refine nm_go (am_ok_all 264 (by decide)) 8 ?_
      refine nm_b n81 (cc_light h.2.1 s hs rfl ?_)
      have f1 : frN [36] I (am_u I 36 0 (nI (pc (lit T 0 s)))) := (frN.refl _ _).u (by decide)
      have h1 := h.n (h.2.1.n f1 (by decide)) f1 (by decide)
      generalize am_u I 36 0 (nI (pc (lit T 0 s))) = I1 at *
      refine nm_b n81 (cc_thief h1.2.1 c s hc hs rfl rfl ?_)
      have f2 : frN [36] I1 (am_u I1 36 0 (nI (pc (dk T (lit T 0 s) (1 <<< c) (tC T))))) := (frN.refl _ _).u (by decide)
      have h2 := h1.n (h1.2.1.n f2 (by decide)) f2 (by decide)
      generalize am_u I1 36 0 (nI (pc (dk T (lit T 0 s) (1 <<< c) (tC T)))) = I2 at *
      have inn : nm_W G l 264 1217 (wL (nI (tN T)) (nI (al T)) (nI (tS T)) alv D sp [some (.long U), none, some (.int ft), some (.int (nI τ)), some (.int (nI c)), some (.int (nI s)), some (.int (nI (lit T 0 s))), some (.int (nI (dk T (lit T 0 s) (1 <<< c) (tC T)))), some (.int 0)]) [] n 81 40064 t I2 L lwQ := by
        refine lw_1217 hG hc hs (fun t' I' e19 h' => ?_) (tC T) 0 _ t I2 rfl (Nat.zero_le _) rfl h2
        refine nm_go (am_ok_all 264 (by decide)) 20 ?_
        exact ih (τ + 1) _ t' I' _ _ _ _ _ (by omega) (by omega) (nI_1 τ) h'
      have b1 : (nI (dk T (lit T 0 s) (1 <<< c) (tC T)) &&& nI (lit T 0 s)).toInt = 0 := dis_0 (Nat.lt_trans dl (by decide)) (fun x hx => (dk_in hT hx).2.2)
      have b2 : (nI (dk T (lit T 0 s) (1 <<< c) (tC T)) &&& (nI (tS T) ^^^ (-1))).toInt = 0 := sub_0 (Nat.lt_trans dl (by decide)) (fun x hx => (dk_in hT hx).2.1)
      have bA := n_bit (s := lit T 0 s) (j := c) (Nat.lt_trans ll (by decide)) (by omega)
      have bS := n_bit (s := tS T) (j := c) sl (by omega)
      have zd := dk_none (b := lit T 0 s) hT hc
      have dz : (nI (dk T (lit T 0 s) (1 <<< c) (tC T))).toInt = 0 ↔ dk T (lit T 0 s) (1 <<< c) (tC T) = 0 := n_z (Nat.lt_trans dl (by decide))
      refine nm_go (am_ok_all 264 (by decide)) 60 ?_
      refine And.intro (fun cd => absurd b1 cd) (fun _ => ?_)
      refine And.intro (fun cd => absurd b2 cd) (fun _ => ?_)
      cases eA : (lit T 0 s).testBit c with
      | true =>
        rw [eA] at bA
        have d0 := dz.mpr (zd.mpr (Or.inl eA))
        refine And.intro (fun cd => absurd d0 cd) (fun _ => ?_)
        refine And.intro (fun _ => ?_) (fun cd => absurd (by rw [bA]; rfl) cd)
        refine And.intro (fun cd => absurd rfl cd) (fun _ => ?_)
        exact inn
      | false =>
        rw [eA] at bA
        have a1 : ¬ (nI (lit T 0 s) >>> (nI c &&& 31) &&& 1).toInt = (1 : Int32).toInt := by rw [bA]; decide
        cases eS : (tS T).testBit c with
        | false =>
          rw [eS] at bS
          have d0 := dz.mpr (zd.mpr (Or.inr eS))
          refine And.intro (fun cd => absurd d0 cd) (fun _ => ?_)
          refine And.intro (fun cd => absurd cd a1) (fun _ => ?_)
          refine And.intro (fun cd => absurd (by rw [bS]; rfl) cd) (fun _ => ?_)
          refine And.intro (fun cd => absurd rfl cd) (fun _ => ?_)
          exact inn
        | true =>
          rw [eS] at bS
          have d1 : ¬ (nI (dk T (lit T 0 s) (1 <<< c) (tC T))).toInt = 0 := fun q => by
            rcases zd.mp (dz.mp q) with z | z
            · rw [eA] at z; cases z
            · rw [eS] at z; cases z
          have s1 : ¬ (nI (tS T) >>> (nI c &&& 31) &&& 1).toInt = 0 := by rw [bS]; decide
          refine And.intro (fun _ => ?_) (fun cd => absurd cd d1)
          refine And.intro (fun cd => absurd cd a1) (fun _ => ?_)
          refine And.intro (fun _ => ?_) (fun cd => absurd cd s1)
          refine And.intro (fun cd => absurd rfl cd) (fun _ => ?_)
          exact inn
    have e15 : nI (ce G 9) >>> ((5 : Int32) * nI τ &&& 31) - nI (ce G 9) >>> ((5 : Int32) * nI τ &&& 31) / nI (sN G) * nI (sN G) = nI c := by
      rw [k5, pk_mul, n_shr c9 (by omega), pk_rem (by omega) (by omega) (by omega), ec]
    have e16 : nI (ce G 10) >>> (nI τ &&& 31) &&& nI (al T) = nI s := by
      rw [n_shr c10 (by omega), n_and, es]
    refine nm_go (am_ok_all 264 (by decide)) 2 ?_
    refine And.intro (fun cd => ?_) (fun _ => ?_)
    · rw [nI_toInt (by omega)] at cd
      have cd : (4 : Int) ≤ (τ : Int) := cd
      omega
    refine nm_go (am_ok_all 264 (by decide)) 1 ?_
    refine And.intro (fun cd => absurd cd (by decide)) (fun _ => ?_)
    refine nm_go (am_ok_all 264 (by decide)) 18 ?_
    refine nm_b n81 (sp_cell hG 9 (by decide) rfl ?_)
    refine nm_b n81 (sp_cells hG ?_)
    refine ⟨by rw [nI_toInt (by omega)]; omega, ?_⟩
    refine nm_b n81 (sp_cell hG 10 (by decide) rfl ?_)
    exact step _ _ e15 e16
end LW

/-! the law: orders and what was seen -/
/-- what holds all along, but what was seen -/
def lR (G : am_G) (T : tT) (D : Int64) (n : Nat) (t : am_T) (I : am_I) : Prop := isT G T ∧ cB T 0 t I ∧ (∃ a, cR T 0 0 a I) ∧ cZ I ∧ dgP T I = D ∧ 63 ≤ n ∧ n ≤ 81
theorem lR.n {G : am_G} {T : tT} {D : Int64} {n : Nat} {t t' : am_T} {I I' : am_I} {cs : List Nat} (h : lR G T D n t I) (hB : cB T 0 t' I') (f : frN cs I I') (hd : ∀ x, x ∈ cs → x ∉ [16, 17, 18, 19] ∧ (x < 38 ∨ 57 < x)) : lR G T D n t' I' := by
  obtain ⟨h1, h2, ⟨a, h3⟩, h5, h6, h7⟩ := h
  have r : ∀ x, 38 ≤ x → x ≤ 57 → I' x = I x := fun x h1 h2 => f x (fun q => by have := (hd x q).2; omega)
  refine ⟨h1, hB, ⟨a, h3.n f (fun x hx q => (hd x q).1 (by revert hx; simp))⟩, h5.fr (fun k hk => by rw [r (38 + 2 * k) (by omega) (by omega)]), ?_, h7⟩
  rw [dgP_eq h5 (fun k hk => ⟨by rw [r (38 + 2 * k) (by omega) (by omega)], fun j _ => by rw [r (39 + 2 * k) (by omega) (by omega)]⟩)]
  exact h6
theorem lS.r {G : am_G} {T : tT} {D : Int64} {n : Nat} {t : am_T} {I : am_I} (h : lS G T D n t I) : lR G T D n t I := ⟨h.1, h.2.1, h.2.2.1, h.2.2.2.2⟩
theorem lR.s {G : am_G} {T : tT} {D : Int64} {n : Nat} {t : am_T} {I : am_I} (h : lR G T D n t I) {a b : Nat → Nat} (hs : cS T 0 a b I) : lS G T D n t I := ⟨h.1, h.2.1, h.2.2.1, ⟨a, b, hs⟩, h.2.2.2⟩
theorem cS.sees {T : tT} {m : Nat} {a b : Nat → Nat} {I : am_I} (h : cS T m a b I) : sees T m a b := fun i hi => ⟨(h.2.2 i hi).1, (h.2.2 i hi).2.1, (h.2.2 i hi).2.2.1⟩
theorem lcm_p {W : Nat} (h : W < 2 ^ 31) (h0 : W ≠ 0) : 0 < (lg_cmp (nI W).toInt64 0).toInt := by
  rw [lcmp_gt, nI_l h, lN_toInt h]
  have : (0 : Int64).toInt = 0 := rfl
  omega
theorem lcm_0 {W : Nat} (h0 : W = 0) : (lg_cmp (nI W).toInt64 0).toInt = 0 := by
  subst h0
  exact lw_cmp _
section LW
variable {G : am_G} {l : Launch} {t : am_T} {I : am_I} {L : am_J} {T : tT} {D : Int64} {n : Nat} {alv sp : Int32}
theorem lw_1052 (hG : G.2.2.1 ≤ 260) (hsp : lSp T sp) {ft : Int32} {κ : Nat} {a b : Nat → Nat} (h : lR G T D n t I) (hS : cS T κ a b I) {d14 d15 d16 d17 d18 d19 : Option Value} : nm_W G l 264 1052 (wL (nI (tN T)) (nI (al T)) (nI (tS T)) alv D sp [some (.long (nI (Ws (gap T 0) aw (al T))).toInt64), none, some (.int ft), d14, d15, d16, d17, d18, d19]) [] n 81 40064 t I L lwQ := by
  have n81 := h.2.2.2.2.2.2
  have hok := h.2.1.1
  have n6 : tN T ≤ 6 := hok.2.2.2.1
  have p6 := Nat.pow_le_pow_right (n := 2) (by decide) n6
  have k8 := hS.1
  have wl := Ws_lt (gap T 0) aw (show al T < 64 by unfold al; omega)
  refine nm_go (am_ok_all 264 (by decide)) 60 ?_
  refine And.intro (fun cd => absurd cd (by decide)) (fun _ => ?_)
  refine nm_b n81 (cc_forget hS rfl (fun I1 f1 S1 => ?_))
  have h1 := h.n (h.2.1.n f1 (by decide)) f1 (by decide)
  refine And.intro (fun cd => ?_) (fun _ => ?_)
  · rw [nI_toInt (by omega)] at cd
    omega
  have fin : ∀ (t : am_T) (I : am_I) (L : am_J), lR G T D n t I → cS T 0 a b I → nm_W G l 264 1091 (wL (nI (tN T)) (nI (al T)) (nI (tS T)) alv D sp [some (.long (nI (Ws (gap T 0) aw (al T))).toInt64), none, some (.int ft), some (.int 0), d15, d16, d17, d18, d19]) [] n 81 40064 t I L lwQ := fun t I L hr hs => lw_1091 hG hsp 4 0 _ t I _ _ _ _ _ rfl (Nat.zero_le _) rfl (hr.s hs)
  by_cases W0 : Ws (gap T 0) aw (al T) = 0
  · refine And.intro (fun _ => ?_) (fun cd => absurd (lcm_0 W0) cd)
    exact fin t I1 L h1 S1
  · refine And.intro (fun cd => ?_) (fun _ => ?_)
    · have := lcm_p (show Ws (gap T 0) aw (al T) < 2 ^ 31 by omega) W0
      omega
    refine nm_b n81 (cc_fits h1.2.1 S1 W0 (fun I2 L2 f2 B2 => ?_))
    rw [Wf_0]
    refine And.intro (fun cd => absurd (lw_cmp _) cd) (fun _ => ?_)
    exact fin _ I2 L2 (h1.n B2 f2 (by decide)) (S1.n f2 (by decide))
theorem lw_795 (hG : G.2.2.1 ≤ 260) (hsp : lSp T sp) : ∀ (r κ : Nat) (a b : Nat → Nat) (fv kv : Int32) (t : am_T) (I : am_I) (L : am_J) (d15 d16 d17 d18 d19 : Option Value), 5 - κ = r → κ ≤ 5 → fv = nI (Wf T 0 κ a b) → kv = nI κ → lR G T D n t I → cS T κ a b I → nm_W G l 264 795 (wL (nI (tN T)) (nI (al T)) (nI (tS T)) alv D sp [some (.long (nI (Ws (gap T 0) aw (al T))).toInt64), none, some (.int fv), some (.int kv), d15, d16, d17, d18, d19]) [] n 81 40064 t I L lwQ := by
  intro r
  induction r with
  | zero =>
    intro κ a b fv kv t I L d15 d16 d17 d18 d19 hr hκ ef ek h hS
    obtain rfl : κ = 5 := by omega
    subst ek
    refine nm_go (am_ok_all 264 (by decide)) 2 ?_
    exact And.intro (fun _ => lw_1052 hG hsp h hS) (fun cd => absurd cd (by decide))
  | succ r ih =>
    intro κ a b fv kv t I L d15 d16 d17 d18 d19 hr hκ ef ek h hS
    subst ek ef
    have n81 := h.2.2.2.2.2.2
    have hok := h.2.1.1
    have n6 : tN T ≤ 6 := hok.2.2.2.1
    have p6 := Nat.pow_le_pow_right (n := 2) (by decide) n6
    have wl := Ws_lt (gap T 0) aw (show al T < 64 by unfold al; omega)
    have sees0 := hS.sees
    have Fl := Wf_le 0 n6 sees0
    have c7 := ce_lt G 7
    have c8 := ce_lt G 8
    have c7s := sr_lt (k := 4 * κ) c7
    have c8s := sr_lt (k := 4 * κ) c8
    refine nm_go (am_ok_all 264 (by decide)) 2 ?_
    refine And.intro (fun cd => ?_) (fun _ => ?_)
    · rw [nI_toInt (by omega)] at cd
      have cd : (5 : Int) ≤ (κ : Int) := cd
      omega
    refine nm_go (am_ok_all 264 (by decide)) 1 ?_
    refine And.intro (fun cd => absurd cd (by decide)) (fun _ => ?_)
    refine nm_go (am_ok_all 264 (by decide)) 2 ?_
    refine And.intro (fun _ => lw_1052 hG hsp h hS) (fun cd => ?_)
    rw [nI_toInt (by omega)] at cd
    have n2 : 2 ≤ tN T := by
      have cd : (1 : Int) < (tN T : Int) := cd
      omega
    refine nm_go (am_ok_all 264 (by decide)) 3 ?_
    refine And.intro (fun _ => lw_1052 hG hsp h hS) (fun cd => ?_)
    have W0 : Ws (gap T 0) aw (al T) ≠ 0 := fun e => by rw [lcm_0 e] at cd; omega
    obtain ⟨j, ej⟩ : ∃ j, j = (ce G 7 >>> (4 * κ)) % tN T := ⟨_, rfl⟩
    obtain ⟨i, ei⟩ : ∃ i, i = (j + 1 + (ce G 8 >>> (4 * κ)) % (tN T - 1)) % tN T := ⟨_, rfl⟩
    have jn : j < tN T := by rw [ej]; exact Nat.mod_lt _ (by omega)
    have inn : i < tN T := by rw [ei]; exact Nat.mod_lt _ (by omega)
    have r1 : (ce G 8 >>> (4 * κ)) % (tN T - 1) < tN T - 1 := Nat.mod_lt _ (by omega)
    have ji : j ≠ i := by
      intro e
      rw [ei] at e
      generalize (ce G 8 >>> (4 * κ)) % (tN T - 1) = q at e r1
      by_cases w : j + 1 + q < tN T
      · rw [Nat.mod_eq_of_lt w] at e
        omega
      · rw [Nat.mod_eq_sub_mod (by omega), Nat.mod_eq_of_lt (by omega)] at e
        omega
    have two := Wh_two 0 n6 sees0 jn inn ji
    have nxt := Wf_next 0 n6 sees0 jn inn ji
    obtain ⟨F, eF⟩ : ∃ F, F = Wf T 0 κ a b := ⟨_, rfl⟩
    obtain ⟨H, eH⟩ : ∃ H, H = Wh T 0 κ a b j i := ⟨_, rfl⟩
    obtain ⟨H', eH'⟩ : ∃ H', H' = Wh T 0 κ a b i j := ⟨_, rfl⟩
    rw [← eF, ← eH, ← eH'] at two
    rw [← eF] at Fl
    rw [← eH] at nxt
    -- behind the question whether it is sure
    have w936 : ∀ (z : Int32) (t1 : am_T) (I1 : am_I), (F = 0 → z = -3) → (F ≠ 0 → z = if H = 0 then 0 else if H = F then 1 else 2) → lR G T D n t1 I1 → cS T κ a b I1 → nm_W G l 264 936 (wL (nI (tN T)) (nI (al T)) (nI (tS T)) alv D sp [some (.long (nI (Ws (gap T 0) aw (al T))).toInt64), none, some (.int (nI F)), some (.int (nI κ)), some (.int (nI j)), some (.int (nI i)), some (.int z), d18, d19]) [.int 1] n 81 40064 t1 I1 L lwQ := by
      intro z t1 I1 z0 z1 h1 S1
      have tF : (nI F).toInt = (F : Int) := nI_toInt (by omega)
      have tH : (nI H).toInt = (H : Int) := nI_toInt (by omega)
      refine nm_go (am_ok_all 264 (by decide)) 60 ?_
      refine And.intro (fun cd => absurd cd (by decide)) (fun _ => ?_)
      refine nm_b n81 (cc_saw h1.2.1 S1 (by omega) j i jn inn ji rfl rfl (fun I2 f2 S2 => ?_))
      have h2 := h1.n (h1.2.1.n f2 (by decide)) f2 (by decide)
      refine And.intro (fun cd => absurd rfl cd) (fun _ => ?_)
      refine nm_b n81 (cc_fits h2.2.1 S2 W0 (fun I3 L3 f3 B3 => ?_))
      have h3 := h2.n B3 f3 (by decide)
      have S3 := S2.n f3 (by decide)
      rw [nxt]
      have go := ih (κ + 1) _ _ _ _ _ I3 L3 (some (.int (nI j))) (some (.int (nI i))) (some (.int z)) (some (.int (nI H))) d19 (by omega) (by omega) (by rw [nxt]) (nI_1 κ) h3 S3
      refine And.intro (fun cd => absurd cd (by decide)) (fun _ => ?_)
      refine And.intro (fun cd => ?_) (fun _ => ?_)
      · rw [tF, tH] at cd
        omega
      refine And.intro (fun cd => ?_) (fun _ => ?_)
      · rw [tH] at cd
        omega
      by_cases F0 : F = 0
      · refine And.intro (fun _ => ?_) (fun cd => ?_)
        · exact go
        · rw [tF] at cd
          omega
      · refine And.intro (fun cd => ?_) (fun _ => ?_)
        · rw [tF] at cd
          omega
        have ez := z1 F0
        by_cases H0 : H = 0
        · rw [if_pos H0] at ez
          subst ez
          refine And.intro (fun _ => ?_) (fun cd => ?_)
          rotate_left
          · rw [tF, tH] at cd
            omega
          refine And.intro (fun _ => ?_) (fun cd => absurd cd (by decide))
          refine And.intro (fun cd => absurd rfl cd) (fun _ => ?_)
          refine And.intro (fun cd => ?_) (fun _ => ?_)
          · rw [tH] at cd
            omega
          refine And.intro (fun cd => absurd rfl cd) (fun _ => ?_)
          refine And.intro (fun cd => absurd rfl cd) (fun _ => ?_)
          exact go
        · rw [if_neg H0] at ez
          by_cases HF : H = F
          · rw [if_pos HF] at ez
            subst ez
            refine And.intro (fun cd => ?_) (fun _ => ?_)
            · rw [tF, tH] at cd
              omega
            refine And.intro (fun cd => absurd rfl cd) (fun _ => ?_)
            refine And.intro (fun cd => absurd rfl cd) (fun _ => ?_)
            refine And.intro (fun _ => ?_) (fun cd => ?_)
            rotate_left
            · rw [tH] at cd
              omega
            refine And.intro (fun _ => ?_) (fun cd => absurd cd (by decide))
            refine And.intro (fun cd => absurd rfl cd) (fun _ => ?_)
            exact go
          · rw [if_neg HF] at ez
            subst ez
            refine And.intro (fun _ => ?_) (fun cd => ?_)
            rotate_left
            · rw [tF, tH] at cd
              omega
            refine And.intro (fun _ => ?_) (fun cd => absurd cd (by decide))
            refine And.intro (fun cd => absurd rfl cd) (fun _ => ?_)
            refine And.intro (fun _ => ?_) (fun cd => ?_)
            rotate_left
            · rw [tH] at cd
              omega
            refine And.intro (fun _ => ?_) (fun cd => absurd cd (by decide))
            refine And.intro (fun cd => absurd rfl cd) (fun _ => ?_)
            exact go
    have step : ∀ z15 z16 : Int32, z15 = nI j → z16 = nI i → nm_W G l 264 860 (wL (nI (tN T)) (nI (al T)) (nI (tS T)) alv D sp [some (.long (nI (Ws (gap T 0) aw (al T))).toInt64), none, some (.int (nI F)), some (.int (nI κ)), some (.int z15), some (.int z16), d17, d18, d19]) [] n 81 40064 t I L lwQ := by
      intro z15 z16 e15 e16
      subst e15 e16
      have tF : (nI F).toInt = (F : Int) := nI_toInt (by omega)
      refine nm_go (am_ok_all 264 (by decide)) 6 ?_
      refine nm_b n81 (cc_sure h.2.1 hS j i jn inn ji rfl rfl (fun z I1 z0 z1 f1 B1 => ?_))
      have h1 := h.n B1 f1 (by decide)
      have S1 := hS.n f1 (by decide)
      rw [← eF] at z0 z1
      rw [← eH] at z1
      refine And.intro (fun cd => ?_) (fun cd => ?_)
      · rw [tF] at cd
        have F0 : F ≠ 0 := fun e => cd (by rw [e]; rfl)
        have ez := z1 F0
        -- asked the other way
        have oth : ∀ (t1 : am_T) (I1 : am_I), lR G T D n t1 I1 → cS T κ a b I1 → ∀ K : nm_P, (∀ t2 I2, lR G T D n t2 I2 → cS T κ a b I2 → K n (some (.int (if H' = 0 then 0 else if H' = F then 1 else 2))) t2 I2 L) → nm_C G l 39 [.ref 0, .int (nI i), .int (nI j)] n t1 I1 L K := by
          intro t1 I1 h1 S1 K hK
          refine nm_b n81 (cc_sure h1.2.1 S1 i j inn jn (Ne.symm ji) rfl rfl (fun z' I2 _ z1' f2 B2 => ?_))
          rw [← eF, ← eH'] at z1'
          rw [z1' F0]
          exact hK _ I2 (h1.n B2 f2 (by decide)) (S1.n f2 (by decide))
        by_cases H0 : H = 0
        · rw [if_pos H0] at ez
          have e' : (if H' = 0 then (0 : Int32) else if H' = F then 1 else 2) = 1 := by rw [if_neg (by omega), if_pos (by omega)]
          rw [e'] at oth
          subst ez
          refine nm_go (am_ok_all 264 (by decide)) 2 ?_
          refine And.intro (fun _ => ?_) (fun cd => absurd cd (by decide))
          refine nm_go (am_ok_all 264 (by decide)) 9 ?_
          refine oth _ I1 h1 S1 _ (fun t2 I2 h2 S2 => ?_)
          refine And.intro (fun cd => absurd rfl cd) (fun _ => ?_)
          exact w936 _ t2 I2 z0 (fun _ => by rw [if_pos H0]) h2 S2
        · rw [if_neg H0] at ez
          by_cases HF : H = F
          · rw [if_pos HF] at ez
            have e' : (if H' = 0 then (0 : Int32) else if H' = F then 1 else 2) = 0 := by rw [if_pos (by omega)]
            rw [e'] at oth
            subst ez
            refine nm_go (am_ok_all 264 (by decide)) 2 ?_
            refine And.intro (fun _ => ?_) (fun cd => absurd cd (by decide))
            refine nm_go (am_ok_all 264 (by decide)) 9 ?_
            refine oth _ I1 h1 S1 _ (fun t2 I2 h2 S2 => ?_)
            refine And.intro (fun cd => absurd rfl cd) (fun _ => ?_)
            exact w936 _ t2 I2 z0 (fun _ => by rw [if_neg H0, if_pos HF]) h2 S2
          · rw [if_neg HF] at ez
            have e' : (if H' = 0 then (0 : Int32) else if H' = F then 1 else 2) = 2 := by rw [if_neg (by omega), if_neg (by omega)]
            rw [e'] at oth
            subst ez
            refine nm_go (am_ok_all 264 (by decide)) 2 ?_
            refine And.intro (fun cd => absurd rfl cd) (fun _ => ?_)
            refine nm_go (am_ok_all 264 (by decide)) 7 ?_
            refine oth _ I1 h1 S1 _ (fun t2 I2 h2 S2 => ?_)
            refine And.intro (fun cd => absurd rfl cd) (fun _ => ?_)
            exact w936 _ t2 I2 z0 (fun _ => by rw [if_neg H0, if_neg HF]) h2 S2
      · rw [tF] at cd
        have F0 : F = 0 := by
          have cd : (F : Int) = 0 := cd
          omega
        have ez := z0 F0
        subst ez
        refine nm_go (am_ok_all 264 (by decide)) 4 ?_
        refine And.intro (fun cd => absurd rfl cd) (fun _ => ?_)
        exact w936 _ _ I1 z0 z1 h1 S1
    have nz : ¬ (nI (tN T)).toInt = 0 := by rw [nI_toInt (by omega)]; omega
    have e15 : nI (ce G 7) >>> ((4 : Int32) * nI κ &&& 31) - nI (ce G 7) >>> ((4 : Int32) * nI κ &&& 31) / nI (tN T) * nI (tN T) = nI j := by
      rw [k4, pk_mul, n_shr c7 (by omega), pk_rem (by omega) (by omega) (by omega), ej]
    have e8 : nI (ce G 8) >>> ((4 : Int32) * nI κ &&& 31) - nI (ce G 8) >>> ((4 : Int32) * nI κ &&& 31) / (nI (tN T) - 1) * (nI (tN T) - 1) = nI ((ce G 8 >>> (4 * κ)) % (tN T - 1)) := by
      rw [k4, pk_mul, n_shr c8 (by omega), k1, pk_sub (by omega), pk_rem (by omega) (by omega) (by omega)]
    have e16 : nI j + 1 + nI ((ce G 8 >>> (4 * κ)) % (tN T - 1)) - (nI j + 1 + nI ((ce G 8 >>> (4 * κ)) % (tN T - 1))) / nI (tN T) * nI (tN T) = nI i := by
      rw [k1, nI_add, nI_add, pk_rem (by omega) (by omega) (by omega), ei]
    rw [← eF]
    refine nm_go (am_ok_all 264 (by decide)) 27 ?_
    refine nm_b n81 (sp_cell hG 7 (by decide) rfl ?_)
    refine ⟨nz, ?_⟩
    rw [e15]
    refine nm_b n81 (sp_cell hG 8 (by decide) rfl ?_)
    refine ⟨by rw [k1, pk_sub (by omega), nI_toInt (by omega)]; omega, ?_⟩
    rw [e8]
    refine ⟨nz, ?_⟩
    exact step _ _ rfl e16
theorem lw_763 (hG : G.2.2.1 ≤ 260) (hsp : lSp T sp) (h : lS G T D n t I) {d11 d12 d13 d14 d15 d16 d17 d18 d19 : Option Value} : nm_W G l 264 763 (wL (nI (tN T)) (nI (al T)) (nI (tS T)) alv D sp [d11, d12, d13, d14, d15, d16, d17, d18, d19]) [] n 81 40064 t I L lwQ := by
  have n81 := h.2.2.2.2.2.2.2
  have hok := h.2.1.1
  have n6 : tN T ≤ 6 := hok.2.2.2.1
  have p6 := Nat.pow_le_pow_right (n := 2) (by decide) n6
  have wl := Ws_lt (gap T 0) aw (show al T < 64 by unfold al; omega)
  obtain ⟨a, b, hS⟩ := h.2.2.2.1
  refine nm_go (am_ok_all 264 (by decide)) 60 ?_
  refine And.intro (fun cd => absurd cd (by decide)) (fun _ => ?_)
  refine nm_b n81 (cc_orders h.2.1 (fun I1 L1 f1 B1 e1 => ?_))
  refine And.intro (fun cd => absurd rfl cd) (fun _ => ?_)
  refine nm_b n81 (cc_upper ?_)
  rw [e1]
  have h1 := h.r.n B1 f1 (by decide)
  refine lw_795 hG hsp 5 0 a b _ _ _ I1 L1 _ _ _ _ _ rfl (Nat.zero_le _) ?_ rfl h1 (hS.n f1 (by decide))
  rw [nI_l (by omega), lN_i, Wf_0]
end LW

/-! the law: how each lamp shines -/
theorem sub_and {a b : Nat} (h : ∀ x, b.testBit x = true → a.testBit x = true) : a &&& b = b := by
  apply Nat.eq_of_testBit_eq
  intro i
  rw [Nat.testBit_and]
  cases e : b.testBit i with
  | false => rw [Bool.and_false]
  | true => rw [h i e]; rfl
theorem bits_1 : ∀ k, k < 6 → (2 ^ k - 1) + 1 ≤ 64 ∧ (2 ^ (k + 1) - 1).testBit k = true ∧ nI (2 ^ k - 1) ||| ((1 : Int32) <<< (nI k &&& 31)) = nI (2 ^ (k + 1) - 1) := by decide +kernel
theorem shn_cov {T : tT} {sh k : Nat} (h : sh.testBit k = true) : shn T sh k = 1 <<< tP T k := if_pos h
section LW
variable {G : am_G} {l : Launch} {t : am_T} {I : am_I} {L : am_J} {T : tT}
theorem lw_83 (hG : G.2.2.1 ≤ 260) : ∀ (j k : Nat) (av kv : Int32) (t : am_T) (I : am_I) (L : am_J) (d9 d10 d11 d12 d13 d14 d15 d16 d17 d18 d19 : Option Value), tN T - k = j → k ≤ tN T → kv = nI k → av = nI (2 ^ k - 1) → lB G T 0 t I → nm_W G l 264 83 (wB (nI (tN T)) (nI (al T)) (nI (tS T)) av [some (.int kv), d9, d10, d11, d12, d13, d14, d15, d16, d17, d18, d19]) [] 63 63 39200 t I L lwQ := by
  intro j
  induction j with
  | zero =>
    intro k av kv t I L d9 d10 d11 d12 d13 d14 d15 d16 d17 d18 d19 hj hk ek ea h
    obtain rfl : k = tN T := by omega
    subst ek
    refine nm_go (am_ok_all 264 (by decide)) 2 ?_
    refine And.intro (fun _ => ?_) (fun cd => absurd cd (by omega))
    exact lw_226 hG h
  | succ j ih =>
    intro k av kv t I L d9 d10 d11 d12 d13 d14 d15 d16 d17 d18 d19 hj hk ek ea h
    subst ek
    have hok := h.2.1.1
    have hT : tOK T := Or.inl hok
    have n6 : tN T ≤ 6 := hok.2.2.2.1
    have n81 : 63 ≤ 81 := by decide
    have kn : k < tN T := by omega
    have k6 : k < 6 := by omega
    have lp := hok.2.2.2.2.1 k kn
    have tp := lp.2.1
    have c24 := hok.1.c24
    obtain ⟨q1, q2, q3⟩ := bits_1 k k6
    have s24 := up24 hok.1 (shn_lt hok.1 (sh := 0) tp)
    have p1 := Nat.pow_le_pow_right (n := 2) (by decide) (show k ≤ tN T by omega)
    have p2 := Nat.pow_le_pow_right (n := 2) (by decide) (show k + 1 ≤ tN T by omega)
    have pp := Nat.two_pow_pos k
    have pq := Nat.two_pow_pos (k + 1)
    have tl : ∀ s, (nI (lit T 0 s)).toInt = (lit T 0 s : Int) := fun s => nI_toInt (Nat.lt_trans (lit_24 hT 0 s) (by decide))
    have z0 : (0 : Int32).toInt = 0 := rfl
    have bit := n_bit (s := shn T 0 k) (j := tP T k) (Nat.lt_trans s24 (by decide)) (by omega)
    rw [shn_self T 0 k] at bit
    have sk0 : (0 : Nat).testBit k = false := Nat.zero_testBit k
    have b1 : (0 ^^^ 1 <<< k).testBit k = true := by rw [Nat.zero_xor, tb_one, decide_eq_true rfl]
    refine nm_go (am_ok_all 264 (by decide)) 140 ?_
    refine And.intro (fun cd => ?_) (fun _ => ?_)
    · rw [nI_toInt (by omega), nI_toInt (by omega)] at cd
      omega
    refine And.intro (fun cd => absurd cd (by decide)) (fun _ => ?_)
    refine nm_b n81 (cc_shines h.2.1 k kn rfl ?_)
    refine ⟨6, ⟨by decide, rfl⟩, k, nI_toInt (by omega), by omega, ?_⟩
    rw [h.2.2.2.2.2.2 k kn]
    refine And.intro (fun cd => ?_) (fun _ => ?_)
    · rw [bit] at cd
      exact absurd rfl cd
    refine And.intro (fun cd => ?_) (fun _ => ?_)
    · exact absurd (sub_0 (Nat.lt_trans s24 (by decide)) (fun x hx => shn_st hok kn hx)) cd
    refine nm_b n81 (cc_light h.2.1 (2 ^ k - 1) (by omega) ea ?_)
    have f1 : frN [36] I (am_u I 36 0 (nI (pc (lit T 0 (2 ^ k - 1))))) := (frN.refl _ _).u (by decide)
    have h1 := h.f (h.2.1.n f1 (by decide)) f1 (by decide)
    generalize am_u I 36 0 (nI (pc (lit T 0 (2 ^ k - 1)))) = I1 at *
    refine And.intro (fun cd => ?_) (fun _ => ?_)
    · rw [tl] at cd
      omega
    refine And.intro (fun cd => absurd cd (by decide)) (fun _ => ?_)
    refine nm_b n81 (cc_light h1.2.1 (2 ^ (k + 1) - 1) (by omega) (by rw [ea]; exact q3) ?_)
    have f2 : frN [36] I1 (am_u I1 36 0 (nI (pc (lit T 0 (2 ^ (k + 1) - 1))))) := (frN.refl _ _).u (by decide)
    have h2 := h1.f (h1.2.1.n f2 (by decide)) f2 (by decide)
    generalize am_u I1 36 0 (nI (pc (lit T 0 (2 ^ (k + 1) - 1)))) = I2 at *
    refine And.intro (fun cd => ?_) (fun _ => ?_)
    · rw [n_and, sub_and (fun x hx => tb_lit.mpr ⟨k, kn, q2, hx⟩)] at cd
      exact absurd rfl cd
    refine nm_b n81 (cc_shade h2.2.1 h2.l0 k 1 kn (by decide) rfl rfl (fun I3 f3 B3 => ?_))
    rw [sk0] at B3 ⊢
    refine And.intro (fun cd => absurd rfl cd) (fun _ => ?_)
    have B3 : cB T (0 ^^^ 1 <<< k) t I3 := B3
    have h3 := h2.f B3 f3 (by decide)
    refine nm_b n81 (cc_shines h3.2.1 k kn rfl ?_)
    rw [shn_cov b1]
    refine ⟨6, ⟨by decide, rfl⟩, k, nI_toInt (by omega), by omega, ?_⟩
    rw [h3.2.2.2.2.2.2 k kn]
    refine And.intro (fun cd => ?_) (fun _ => ?_)
    · refine absurd ?_ cd
      rw [← n_shl _ (show tP T k < 32 by omega)]
      rfl
    refine nm_b n81 (cc_shade h3.2.1 h3.l0 k 0 kn (by decide) rfl rfl (fun I4 f4 B4 => ?_))
    rw [b1] at B4 ⊢
    refine And.intro (fun cd => absurd rfl cd) (fun _ => ?_)
    have B4 : cB T ((0 ^^^ 1 <<< k) ^^^ 1 <<< k) t I4 := B4
    rw [Nat.zero_xor, Nat.xor_self] at B4
    have h4 := h3.f B4 f4 (by decide)
    refine nm_b n81 (cc_shines h4.2.1 k kn rfl ?_)
    refine And.intro (fun cd => absurd rfl cd) (fun _ => ?_)
    exact ih (k + 1) _ _ t I4 L _ _ _ _ _ _ _ _ _ _ _ (by omega) (by omega) (nI_1 k) (by rw [ea]; exact q3) h4
end LW

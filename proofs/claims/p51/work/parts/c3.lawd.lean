/-! the law: dark, bright, shades -/
/-- what holds all along, some being shaded -/
def lZ (G : am_G) (T : tT) (D : Int64) (n sh : Nat) (t : am_T) (I : am_I) : Prop := isT G T ∧ cB T sh t I ∧ (∃ a, cR T 0 0 a I) ∧ (∃ a b, cS T 0 a b I) ∧ cZ I ∧ dgP T I = D ∧ 63 ≤ n ∧ n ≤ 81
theorem lZ.f {G : am_G} {T : tT} {D : Int64} {n sh sh' : Nat} {t t' : am_T} {I I' : am_I} {cs : List Nat} (h : lZ G T D n sh t I) (hB : cB T sh' t' I') (f : ∀ x, x ∉ cs → I' x = I x) (hd : ∀ x, x ∈ cs → x ∉ [16, 17, 18, 19, 22, 23, 24] ∧ (x < 38 ∨ 57 < x)) : lZ G T D n sh' t' I' := by
  obtain ⟨h1, h2, ⟨a, h3⟩, ⟨b, c, h4⟩, h5, h6, h7⟩ := h
  have f : frN cs I I' := f
  have r : ∀ x, 38 ≤ x → x ≤ 57 → I' x = I x := fun x h1 h2 => f x (fun q => by have := (hd x q).2; omega)
  refine ⟨h1, hB, ⟨a, h3.n f (fun x hx q => (hd x q).1 (by revert hx; simp; omega))⟩, ⟨b, c, h4.n f (fun x hx q => (hd x q).1 (by revert hx; simp; omega))⟩, h5.fr (fun k hk => by rw [r (38 + 2 * k) (by omega) (by omega)]), ?_, h7⟩
  rw [dgP_eq h5 (fun k hk => ⟨by rw [r (38 + 2 * k) (by omega) (by omega)], fun j _ => by rw [r (39 + 2 * k) (by omega) (by omega)]⟩)]
  exact h6
theorem lZ.l0 {G : am_G} {T : tT} {D : Int64} {n sh : Nat} {t : am_T} {I : am_I} (h : lZ G T D n sh t I) : I 17 1 = nI 0 := by
  obtain ⟨a, h3⟩ := h.2.2.1
  exact h3.2.2.1.2.1
theorem pc_al {T : tT} (h6 : tN T ≤ 6) : pc (al T) = tN T := by
  have key : ∀ n, n < 7 → pc (2 ^ n - 1) = n := by decide +kernel
  exact key (tN T) (by omega)
theorem pc_b {T : tT} {b : Nat} (h6 : tN T ≤ 6) (h : b ≤ al T) : pc b ≤ tN T := by
  have pp := Nat.two_pow_pos (tN T)
  rw [← pc_al h6]
  refine pc_sub (fun x hx => ?_)
  rw [tb_al, decide_eq_true_eq]
  by_cases q : x < tN T
  · exact q
  · rw [tb_big (n := tN T) (by unfold al at h; omega) (by omega)] at hx
    cases hx
theorem pc_pos : ∀ b, b < 64 → (pc b = 0 ↔ b = 0) := by decide +kernel
/-- the most that can be bright: all, where all can be lit -/
theorem brP_v {T : tT} {i v : Nat} (e : brP T 0 i = some v) : v = pc (lit T 0 i) := by
  by_cases q : Fm (gap T 0) i = none
  · have e2 : brP T 0 i = none := if_pos q
    rw [e2] at e
    exact absurd e.symm (Option.some_ne_none _)
  · have e2 : brP T 0 i = some (pc (lit T 0 i)) := if_neg q
    rw [e2] at e
    exact (Option.some.inj e).symm
theorem pcl_0 {T : tT} : pc (lit T 0 0) = 0 := by
  rw [lit_0]
  exact pc_0
theorem brt_all {T : tT} (h6 : tN T ≤ 6) (h : Fm (gap T 0) (al T) ≠ none) : pc (lit T 0 (brt (brP T 0) (al T + 1)).1) = pc (lit T 0 (al T)) := by
  have pp := Nat.two_pow_pos (tN T)
  have bl := brt_lt (brP T 0) (al T)
  have a1 : al T = 2 ^ tN T - 1 := rfl
  have bl2 : (brt (brP T 0) (al T + 1)).1 < 2 ^ tN T := by omega
  have e1 : brP T 0 (al T) = some (pc (lit T 0 (al T))) := if_neg h
  have e2 := brt_max e1 (al T + 1) (by omega)
  have e3 := brt_v (P := brP T 0) (f := fun s => pc (lit T 0 s)) pcl_0 (fun i v e => brP_v e) (al T + 1)
  have e3 : (brt (brP T 0) (al T + 1)).2 = pc (lit T 0 (brt (brP T 0) (al T + 1)).1) := e3
  have e4 : pc (lit T 0 (brt (brP T 0) (al T + 1)).1) ≤ pc (lit T 0 (al T)) := by
    refine pc_sub (fun x hx => lit_sub (fun k hk => ?_) hx)
    rw [tb_al, decide_eq_true_eq]
    by_cases q : k < tN T
    · exact q
    · rw [tb_big (n := tN T) bl2 (by omega)] at hk
      cases hk
  omega
section LW
variable {G : am_G} {l : Launch} {t : am_T} {I : am_I} {L : am_J} {T : tT} {D : Int64} {n : Nat} {alv sp : Int32}
/-- shading is taken back -/
theorem lw_743 (hG : G.2.2.1 ≤ 260) (hsp : lSp T sp) {m11 v15 : Int32} (hv : 0 ≤ v15.toInt ∨ 0 < m11.toInt) {d12 d13 d14 d16 d17 d18 d19 : Option Value} (h12 : ∃ v, d12 = some (.int v)) (h13 : ∃ v, d13 = some (.int v)) (h14 : ∃ v, d14 = some (.int v)) (h : lZ G T D n 0 t I) : nm_W G l 264 743 (wL (nI (tN T)) (nI (al T)) (nI (tS T)) alv D sp [some (.int m11), d12, d13, d14, some (.int v15), d16, d17, d18, d19]) [] n 81 40064 t I L lwQ := by
  obtain ⟨v12, rfl⟩ := h12
  obtain ⟨v13, rfl⟩ := h13
  obtain ⟨v14, rfl⟩ := h14
  have w757 : nm_W G l 264 757 (wL (nI (tN T)) (nI (al T)) (nI (tS T)) alv D sp [some (.int m11), some (.int v12), some (.int v13), some (.int v14), some (.int v15), d16, d17, d18, d19]) [] n 81 40064 t I L lwQ := by
    refine nm_go (am_ok_all 264 (by decide)) 2 ?_
    exact lw_763 hG hsp h
  refine nm_go (am_ok_all 264 (by decide)) 1 ?_
  refine And.intro (fun cd => absurd cd (by decide)) (fun _ => ?_)
  refine nm_go (am_ok_all 264 (by decide)) 1 ?_
  refine And.intro (fun _ => w757) (fun c1 => ?_)
  refine nm_go (am_ok_all 264 (by decide)) 1 ?_
  refine And.intro (fun c2 => ?_) (fun _ => w757)
  have z : (0 : Int32).toInt = 0 := rfl
  omega
theorem lw_694 (hG : G.2.2.1 ≤ 260) (hsp : lSp T sp) {m11 v12 v13 v14 : Int32} {b : Nat} (hb : b < 2 ^ tN T) (hb0 : 0 < pc b) : ∀ (j k sh : Nat) (kv : Int32) (t : am_T) (I : am_I) (L : am_J) (d18 d19 : Option Value), tN T - k = j → k ≤ tN T → kv = nI k → (∀ i, sh.testBit i = (b.testBit i && decide (k ≤ i))) → lZ G T D n sh t I → nm_W G l 264 694 (wL (nI (tN T)) (nI (al T)) (nI (tS T)) alv D sp [some (.int m11), some (.int v12), some (.int v13), some (.int v14), some (.int (nI (pc b))), some (.int (nI b)), some (.int kv), d18, d19]) [] n 81 40064 t I L lwQ := by
  intro j
  induction j with
  | zero =>
    intro k sh kv t I L d18 d19 hj hk ek hs h
    obtain rfl : k = tN T := by omega
    subst ek
    have s0 : sh = 0 := by
      apply Nat.eq_of_testBit_eq
      intro i
      rw [hs i, Nat.zero_testBit]
      by_cases q : tN T ≤ i
      · rw [tb_big hb q]
        rfl
      · rw [decide_eq_false q, Bool.and_false]
    rw [s0] at h
    refine nm_go (am_ok_all 264 (by decide)) 2 ?_
    refine And.intro (fun _ => ?_) (fun cd => absurd cd (by omega))
    exact lw_743 hG hsp (Or.inl (by rw [nI_toInt (pc_lt b)]; omega)) ⟨_, rfl⟩ ⟨_, rfl⟩ ⟨_, rfl⟩ h
  | succ j ih =>
    intro k sh kv t I L d18 d19 hj hk ek hs h
    subst ek
    have n6 : tN T ≤ 6 := h.2.1.1.2.2.2.1
    have p6 := Nat.pow_le_pow_right (n := 2) (by decide) n6
    have n81 := h.2.2.2.2.2.2.2
    have kn : k < tN T := by omega
    have bit := n_bit (s := b) (j := k) (by omega) (by omega)
    have nx : ∀ (t : am_T) (I : am_I) (sh' : Nat), (∀ i, sh'.testBit i = (b.testBit i && decide (k + 1 ≤ i))) → lZ G T D n sh' t I → nm_W G l 264 731 (wL (nI (tN T)) (nI (al T)) (nI (tS T)) alv D sp [some (.int m11), some (.int v12), some (.int v13), some (.int v14), some (.int (nI (pc b))), some (.int (nI b)), some (.int (nI k)), d18, d19]) [] n 81 40064 t I L lwQ := by
      intro t I sh' hs' h'
      refine nm_go (am_ok_all 264 (by decide)) 20 ?_
      exact ih (k + 1) sh' _ t I L _ _ (by omega) (by omega) (nI_1 k) hs' h'
    refine nm_go (am_ok_all 264 (by decide)) 2 ?_
    refine And.intro (fun cd => ?_) (fun _ => ?_)
    · rw [nI_toInt (by omega), nI_toInt (by omega)] at cd
      omega
    refine nm_go (am_ok_all 264 (by decide)) 1 ?_
    refine And.intro (fun cd => absurd cd (by decide)) (fun _ => ?_)
    refine nm_go (am_ok_all 264 (by decide)) 1 ?_
    refine And.intro (fun cd => ?_) (fun _ => ?_)
    · rw [nI_toInt (pc_lt b)] at cd
      omega
    refine nm_go (am_ok_all 264 (by decide)) 5 ?_
    cases e : b.testBit k with
    | false =>
      rw [e] at bit
      refine And.intro (fun _ => ?_) (fun cd => ?_)
      · refine nx t I sh (fun i => ?_) h
        rw [hs i]
        by_cases q : i = k
        · rw [q, e]
          rfl
        · by_cases q2 : k ≤ i
          · rw [decide_eq_true q2, decide_eq_true (show k + 1 ≤ i by omega)]
          · rw [decide_eq_false q2, decide_eq_false (show ¬ k + 1 ≤ i by omega)]
      · rw [bit] at cd
        exact absurd rfl cd
    | true =>
      rw [e] at bit
      refine And.intro (fun cd => ?_) (fun _ => ?_)
      · rw [bit] at cd
        exact absurd cd (by decide)
      have sk : sh.testBit k = true := by
        rw [hs k, e, decide_eq_true (Nat.le_refl k)]
        rfl
      refine nm_go (am_ok_all 264 (by decide)) 5 ?_
      refine nm_b n81 (cc_shade h.2.1 h.l0 k 0 kn (by decide) rfl rfl (fun I1 f1 B1 => ?_))
      rw [sk] at B1 ⊢
      refine And.intro (fun cd => absurd rfl cd) (fun _ => ?_)
      have B1 : cB T (sh ^^^ 1 <<< k) t I1 := B1
      refine nx t I1 (sh ^^^ 1 <<< k) (fun i => ?_) (h.f B1 f1 (by decide))
      rw [Nat.testBit_xor, tb_one, hs i]
      by_cases q : i = k
      · subst q
        rw [e, decide_eq_true (Nat.le_refl i), decide_eq_true rfl, decide_eq_false (show ¬ i + 1 ≤ i by omega)]
        rfl
      · rw [decide_eq_false (show ¬ k = i from fun z => q z.symm), Bool.xor_false]
        by_cases q2 : k ≤ i
        · rw [decide_eq_true q2, decide_eq_true (show k + 1 ≤ i by omega)]
        · rw [decide_eq_false q2, decide_eq_false (show ¬ k + 1 ≤ i by omega)]
/-- with them shaded there is an order -/
theorem lw_652 {sh : Nat} (h : lZ G T D n sh t I) (hf : Fm (gap T sh) (al T) ≠ none) {m11 v12 v13 v14 v15 : Int32} (hv : 0 ≤ v15.toInt) {d16 d17 d18 d19 : Option Value} (kont : ∀ (t : am_T) (I : am_I) (L : am_J), lZ G T D n sh t I → nm_W G l 264 685 (wL (nI (tN T)) (nI (al T)) (nI (tS T)) alv D sp [some (.int m11), some (.int v12), some (.int v13), some (.int v14), some (.int v15), d16, d17, d18, d19]) [] n 81 40064 t I L lwQ) : nm_W G l 264 652 (wL (nI (tN T)) (nI (al T)) (nI (tS T)) alv D sp [some (.int m11), some (.int v12), some (.int v13), some (.int v14), some (.int v15), d16, d17, d18, d19]) [] n 81 40064 t I L lwQ := by
  have hok := h.2.1.1
  have n6 : tN T ≤ 6 := hok.2.2.2.1
  have p6 := Nat.pow_le_pow_right (n := 2) (by decide) n6
  have a64 : al T < 64 := by unfold al; omega
  have n81 := h.2.2.2.2.2.2.2
  have wl := Ws_lt (gap T sh) aw a64
  refine nm_go (am_ok_all 264 (by decide)) 1 ?_
  refine And.intro (fun cd => absurd cd (by decide)) (fun _ => ?_)
  refine nm_go (am_ok_all 264 (by decide)) 1 ?_
  refine And.intro (fun cd => ?_) (fun _ => ?_)
  · have z : (0 : Int32).toInt = 0 := rfl
    omega
  refine nm_go (am_ok_all 264 (by decide)) 11 ?_
  refine nm_b n81 (cc_shades h.2.1 (fun e => absurd e (Fm_mono hok sh hf)) (fun b I1 hb f1 B1 _ => ?_))
  have p0 : pc b = 0 := by
    have := hb.2.2 0 (Nat.zero_le _) ⟨Nat.zero_and _, by rw [Nat.or_zero]; exact hf⟩
    rw [pc_0] at this
    omega
  rw [p0]
  have h1 := h.f B1 f1 (by decide)
  refine And.intro (fun cd => absurd rfl cd) (fun _ => ?_)
  refine nm_b n81 (cc_orders h1.2.1 (fun I2 L2 f2 B2 e2 => ?_))
  have h2 := h1.f B2 f2 (by decide)
  refine And.intro (fun cd => absurd rfl cd) (fun _ => ?_)
  refine nm_b n81 (cc_upper ?_)
  rw [e2]
  refine And.intro (fun cd => ?_) (fun _ => ?_)
  · have := lcm_p (show Ws (gap T sh) aw (al T) < 2 ^ 31 by omega) ((Ws_pos sh a64).mpr hf)
    omega
  exact kont _ I2 L2 h2
theorem lw_604 (hG : G.2.2.1 ≤ 260) (hsp : lSp T sp) {m11 v12 v13 v14 : Int32} {b : Nat} (hb : b < 2 ^ tN T) (hb0 : 0 < pc b) (hf : Fm (gap T b) (al T) ≠ none) : ∀ (j k sh : Nat) (kv : Int32) (t : am_T) (I : am_I) (L : am_J) (d18 d19 : Option Value), tN T - k = j → k ≤ tN T → kv = nI k → (∀ i, sh.testBit i = (b.testBit i && decide (i < k))) → lZ G T D n sh t I → nm_W G l 264 604 (wL (nI (tN T)) (nI (al T)) (nI (tS T)) alv D sp [some (.int m11), some (.int v12), some (.int v13), some (.int v14), some (.int (nI (pc b))), some (.int (nI b)), some (.int kv), d18, d19]) [] n 81 40064 t I L lwQ := by
  intro j
  induction j with
  | zero =>
    intro k sh kv t I L d18 d19 hj hk ek hs h
    obtain rfl : k = tN T := by omega
    subst ek
    have s0 : sh = b := by
      apply Nat.eq_of_testBit_eq
      intro i
      rw [hs i]
      by_cases q : i < tN T
      · rw [decide_eq_true q, Bool.and_true]
      · rw [tb_big hb (by omega)]
        rfl
    rw [s0] at h
    refine nm_go (am_ok_all 264 (by decide)) 2 ?_
    refine And.intro (fun _ => ?_) (fun cd => absurd cd (by omega))
    refine lw_652 h hf (by rw [nI_toInt (pc_lt b)]; omega) (fun t' I' L' h' => ?_)
    refine nm_go (am_ok_all 264 (by decide)) 20 ?_
    exact lw_694 hG hsp hb hb0 (tN T) 0 b _ t' I' L' _ _ rfl (Nat.zero_le _) rfl (fun i => by rw [decide_eq_true (Nat.zero_le i), Bool.and_true]) h'
  | succ j ih =>
    intro k sh kv t I L d18 d19 hj hk ek hs h
    subst ek
    have n6 : tN T ≤ 6 := h.2.1.1.2.2.2.1
    have p6 := Nat.pow_le_pow_right (n := 2) (by decide) n6
    have n81 := h.2.2.2.2.2.2.2
    have kn : k < tN T := by omega
    have bit := n_bit (s := b) (j := k) (by omega) (by omega)
    have nx : ∀ (t : am_T) (I : am_I) (sh' : Nat), (∀ i, sh'.testBit i = (b.testBit i && decide (i < k + 1))) → lZ G T D n sh' t I → nm_W G l 264 640 (wL (nI (tN T)) (nI (al T)) (nI (tS T)) alv D sp [some (.int m11), some (.int v12), some (.int v13), some (.int v14), some (.int (nI (pc b))), some (.int (nI b)), some (.int (nI k)), d18, d19]) [] n 81 40064 t I L lwQ := by
      intro t I sh' hs' h'
      refine nm_go (am_ok_all 264 (by decide)) 20 ?_
      exact ih (k + 1) sh' _ t I L _ _ (by omega) (by omega) (nI_1 k) hs' h'
    refine nm_go (am_ok_all 264 (by decide)) 2 ?_
    refine And.intro (fun cd => ?_) (fun _ => ?_)
    · rw [nI_toInt (by omega), nI_toInt (by omega)] at cd
      omega
    refine nm_go (am_ok_all 264 (by decide)) 1 ?_
    refine And.intro (fun cd => absurd cd (by decide)) (fun _ => ?_)
    refine nm_go (am_ok_all 264 (by decide)) 1 ?_
    refine And.intro (fun cd => ?_) (fun _ => ?_)
    · rw [nI_toInt (pc_lt b)] at cd
      omega
    have sk : sh.testBit k = false := by
      rw [hs k, decide_eq_false (Nat.lt_irrefl k), Bool.and_false]
    refine nm_go (am_ok_all 264 (by decide)) 5 ?_
    cases e : b.testBit k with
    | false =>
      rw [e] at bit
      refine And.intro (fun _ => ?_) (fun cd => ?_)
      · refine nx t I sh (fun i => ?_) h
        rw [hs i]
        by_cases q : i = k
        · rw [q, e]
          rfl
        · by_cases q2 : i < k
          · rw [decide_eq_true q2, decide_eq_true (show i < k + 1 by omega)]
          · rw [decide_eq_false q2, decide_eq_false (show ¬ i < k + 1 by omega)]
      · rw [bit] at cd
        exact absurd rfl cd
    | true =>
      rw [e] at bit
      refine And.intro (fun cd => ?_) (fun _ => ?_)
      · rw [bit] at cd
        exact absurd cd (by decide)
      refine nm_go (am_ok_all 264 (by decide)) 4 ?_
      refine nm_b n81 (cc_shade h.2.1 h.l0 k 1 kn (by decide) rfl rfl (fun I1 f1 B1 => ?_))
      rw [sk] at B1 ⊢
      refine And.intro (fun cd => absurd rfl cd) (fun _ => ?_)
      have B1 : cB T (sh ^^^ 1 <<< k) t I1 := B1
      refine nx t I1 (sh ^^^ 1 <<< k) (fun i => ?_) (h.f B1 f1 (by decide))
      rw [Nat.testBit_xor, tb_one, hs i]
      by_cases q : i = k
      · subst q
        rw [e, decide_eq_false (Nat.lt_irrefl i), decide_eq_true rfl, decide_eq_true (Nat.lt_succ_self i)]
        rfl
      · rw [decide_eq_false (show ¬ k = i from fun z => q z.symm), Bool.xor_false]
        by_cases q2 : i < k
        · rw [decide_eq_true q2, decide_eq_true (show i < k + 1 by omega)]
        · rw [decide_eq_false q2, decide_eq_false (show ¬ i < k + 1 by omega)]
/-- nothing is to be shaded -/
theorem lw_skip (hG : G.2.2.1 ≤ 260) (hsp : lSp T sp) (h : lZ G T D n 0 t I) {m11 v12 v13 v14 v15 v16 : Int32} (h0 : v15.toInt ≤ 0) (h1 : 0 ≤ v15.toInt → Fm (gap T 0) (al T) ≠ none) (h2 : v15.toInt < 0 → 0 < m11.toInt) {d18 d19 : Option Value} : nm_W G l 264 604 (wL (nI (tN T)) (nI (al T)) (nI (tS T)) alv D sp [some (.int m11), some (.int v12), some (.int v13), some (.int v14), some (.int v15), some (.int v16), some (.int 0), d18, d19]) [] n 81 40064 t I L lwQ := by
  have n6 : tN T ≤ 6 := h.2.1.1.2.2.2.1
  have w694 : ∀ (t : am_T) (I : am_I) (L : am_J), lZ G T D n 0 t I → nm_W G l 264 694 (wL (nI (tN T)) (nI (al T)) (nI (tS T)) alv D sp [some (.int m11), some (.int v12), some (.int v13), some (.int v14), some (.int v15), some (.int v16), some (.int 0), d18, d19]) [] n 81 40064 t I L lwQ := by
    intro t I L h
    have e : nm_W G l 264 743 (wL (nI (tN T)) (nI (al T)) (nI (tS T)) alv D sp [some (.int m11), some (.int v12), some (.int v13), some (.int v14), some (.int v15), some (.int v16), some (.int 0), d18, d19]) [] n 81 40064 t I L lwQ := lw_743 hG hsp (by omega) ⟨_, rfl⟩ ⟨_, rfl⟩ ⟨_, rfl⟩ h
    refine nm_go (am_ok_all 264 (by decide)) 2 ?_
    refine And.intro (fun _ => e) (fun _ => ?_)
    refine nm_go (am_ok_all 264 (by decide)) 1 ?_
    refine And.intro (fun _ => e) (fun _ => ?_)
    refine nm_go (am_ok_all 264 (by decide)) 1 ?_
    refine And.intro (fun _ => e) (fun cd => ?_)
    have z : (0 : Int32).toInt = 0 := rfl
    omega
  have w685 : ∀ (t : am_T) (I : am_I) (L : am_J), lZ G T D n 0 t I → nm_W G l 264 685 (wL (nI (tN T)) (nI (al T)) (nI (tS T)) alv D sp [some (.int m11), some (.int v12), some (.int v13), some (.int v14), some (.int v15), some (.int v16), some (.int 0), d18, d19]) [] n 81 40064 t I L lwQ := by
    intro t I L h
    refine nm_go (am_ok_all 264 (by decide)) 20 ?_
    exact w694 t I L h
  have w652 : nm_W G l 264 652 (wL (nI (tN T)) (nI (al T)) (nI (tS T)) alv D sp [some (.int m11), some (.int v12), some (.int v13), some (.int v14), some (.int v15), some (.int v16), some (.int 0), d18, d19]) [] n 81 40064 t I L lwQ := by
    by_cases q : 0 ≤ v15.toInt
    · exact lw_652 h (h1 q) q (fun t' I' L' h' => w685 t' I' L' h')
    · refine nm_go (am_ok_all 264 (by decide)) 1 ?_
      refine And.intro (fun cd => absurd cd (by decide)) (fun _ => ?_)
      refine nm_go (am_ok_all 264 (by decide)) 1 ?_
      refine And.intro (fun _ => w685 t I L h) (fun cd => ?_)
      have z : (0 : Int32).toInt = 0 := rfl
      omega
  refine nm_go (am_ok_all 264 (by decide)) 2 ?_
  refine And.intro (fun _ => w652) (fun _ => ?_)
  refine nm_go (am_ok_all 264 (by decide)) 1 ?_
  refine And.intro (fun _ => w652) (fun _ => ?_)
  refine nm_go (am_ok_all 264 (by decide)) 1 ?_
  refine And.intro (fun _ => w652) (fun cd => ?_)
  have z : (0 : Int32).toInt = 0 := rfl
  omega
theorem lw_583 (hG : G.2.2.1 ≤ 260) (hsp : lSp T sp) (h : lZ G T D n 0 t I) {m11 v12 v13 v14 : Int32} (hm : Fm (gap T 0) (al T) = none → 0 < m11.toInt) {d15 d16 d17 d18 d19 : Option Value} : nm_W G l 264 583 (wL (nI (tN T)) (nI (al T)) (nI (tS T)) alv D sp [some (.int m11), some (.int v12), some (.int v13), some (.int v14), d15, d16, d17, d18, d19]) [] n 81 40064 t I L lwQ := by
  have hok := h.2.1.1
  have n6 : tN T ≤ 6 := hok.2.2.2.1
  have p6 := Nat.pow_le_pow_right (n := 2) (by decide) n6
  have pp := Nat.two_pow_pos (tN T)
  have n81 := h.2.2.2.2.2.2.2
  refine nm_go (am_ok_all 264 (by decide)) 60 ?_
  refine nm_b n81 (cc_shades h.2.1 (fun e I1 f1 B1 => ?_) (fun b I1 hb f1 B1 e36 => ?_))
  · have h1 := h.f B1 f1 (by decide)
    refine nm_b n81 (cc_asked ?_)
    have fn : Fm (gap T 0) (al T) = none := by
      apply Classical.byContradiction
      intro q
      exact Fm_mono hok 0 q e
    exact lw_skip hG hsp h1 (by decide) (fun q => absurd q (by decide)) (fun _ => hm fn)
  · have h1 := h.f B1 f1 (by decide)
    refine nm_b n81 (cc_asked ?_)
    rw [e36]
    have b1 := hb.1
    have hf : Fm (gap T b) (al T) ≠ none := by
      have := hb.2.1.2
      rw [Nat.zero_or] at this
      exact this
    by_cases p0 : 0 < pc b
    · exact lw_604 hG hsp (by unfold al at b1; omega) p0 hf (tN T) 0 0 _ t I1 L _ _ rfl (Nat.zero_le _) rfl (fun i => by rw [Nat.zero_testBit, decide_eq_false (Nat.not_lt_zero i), Bool.and_false]) h1
    · have b0 : b = 0 := (pc_pos b (by unfold al at b1; omega)).mp (by omega)
      rw [b0] at hf
      have z : (nI (pc b)).toInt = 0 := by rw [nI_toInt (pc_lt b)]; omega
      exact lw_skip hG hsp h1 (by omega) (fun _ => hf) (fun q => by omega)
theorem lw_482 (hG : G.2.2.1 ≤ 260) (hsp : lSp T sp) (h : lS G T D n t I) {d11 d12 d13 d14 d15 d16 d17 d18 d19 : Option Value} : nm_W G l 264 482 (wL (nI (tN T)) (nI (al T)) (nI (tS T)) alv D sp [d11, d12, d13, d14, d15, d16, d17, d18, d19]) [] n 81 40064 t I L lwQ := by
  have h : lZ G T D n 0 t I := h
  have hok := h.2.1.1
  have hT : tOK T := Or.inl hok
  have n6 : tN T ≤ 6 := hok.2.2.2.1
  have p6 := Nat.pow_le_pow_right (n := 2) (by decide) n6
  have pp := Nat.two_pow_pos (tN T)
  have n81 := h.2.2.2.2.2.2.2
  refine nm_go (am_ok_all 264 (by decide)) 37 ?_
  refine And.intro (fun cd => absurd cd (by decide)) (fun _ => ?_)
  refine nm_b n81 (cc_dark h.2.1 (fun b I1 hb f1 B1 e36 => ?_))
  have h1 := h.f B1 f1 (by decide)
  refine nm_b n81 (cc_asked ?_)
  rw [e36]
  have bl := hb.1
  have pb := pc_b n6 bl
  have tb : (nI (pc b)).toInt = (pc b : Int) := nI_toInt (pc_lt b)
  refine And.intro (fun cd => ?_) (fun _ => ?_)
  · rw [tb] at cd
    have z : (0 : Int32).toInt = 0 := rfl
    omega
  refine And.intro (fun cd => ?_) (fun _ => ?_)
  · rw [tb, nI_toInt (by omega)] at cd
    omega
  refine And.intro (fun cd => ?_) (fun _ => ?_)
  · refine absurd (sub_0 (by unfold al at bl; omega) (fun x hx => ?_)) cd
    rw [tb_al, decide_eq_true_eq]
    by_cases q : x < tN T
    · exact q
    · rw [tb_big (n := tN T) (by unfold al at bl; omega) (by omega)] at hx
      cases hx
  have hm : Fm (gap T 0) (al T) = none → 0 < (nI (pc b)).toInt := by
    intro e
    rw [tb]
    by_cases z : pc b = 0
    · have b0 : b = 0 := (pc_pos b (by unfold al at bl; omega)).mp z
      have := hb.2.1
      rw [b0, Nat.sub_zero] at this
      exact absurd e this
    · omega
  obtain ⟨W, eW⟩ : ∃ W, W = (brt (brP T 0) (al T + 1)).1 := ⟨_, rfl⟩
  have Wl : W < 2 ^ tN T := by
    have := brt_lt (brP T 0) (al T)
    rw [← eW] at this
    unfold al at this
    omega
  have wall := brt_all (T := T) n6
  rw [← eW] at wall
  have tl : ∀ s, (nI (lit T 0 s)).toInt = (lit T 0 s : Int) := fun s => nI_toInt (Nat.lt_trans (lit_24 hT 0 s) (by decide))
  have z0 : (0 : Int32).toInt = 0 := rfl
  refine nm_b n81 (cc_bright h1.2.1 (fun I2 f2 B2 e2 => ?_))
  rw [← eW] at e2 ⊢
  have h2 := h1.f B2 f2 (by decide)
  refine nm_b n81 (cc_asked ?_)
  rw [e2]
  refine And.intro (fun cd => absurd cd (by decide)) (fun _ => ?_)
  refine nm_b n81 (cc_light h2.2.1 W Wl rfl ?_)
  have f3 : frN [36] I2 (am_u I2 36 0 (nI (pc (lit T 0 W)))) := (frN.refl _ _).u (by decide)
  have h3 := h2.f (h2.2.1.n f3 (by decide)) f3 (by decide)
  refine And.intro (fun cd => ?_) (fun _ => ?_)
  · rw [tl] at cd
    omega
  refine nm_b n81 (cc_asked ?_)
  rw [u_eq]
  refine And.intro (fun cd => absurd rfl cd) (fun _ => ?_)
  generalize am_u I2 36 0 (nI (pc (lit T 0 W))) = I3 at *
  refine nm_go (am_ok_all 264 (by decide)) 1 ?_
  refine And.intro (fun _ => lw_583 hG hsp h3 hm) (fun cd => ?_)
  have fm : Fm (gap T 0) (al T) ≠ none := fun e => by
    have := hsp.1 e
    rw [this] at cd
    exact absurd cd (by decide)
  refine nm_go (am_ok_all 264 (by decide)) 7 ?_
  refine nm_b n81 (cc_light h3.2.1 (al T) (by unfold al; omega) rfl ?_)
  have f4 : frN [36] I3 (am_u I3 36 0 (nI (pc (lit T 0 (al T))))) := (frN.refl _ _).u (by decide)
  have h4 := h3.f (h3.2.1.n f4 (by decide)) f4 (by decide)
  refine And.intro (fun cd => ?_) (fun _ => ?_)
  · rw [tl] at cd
    omega
  refine nm_b n81 (cc_asked ?_)
  rw [u_eq, ← wall fm]
  refine And.intro (fun cd => absurd rfl cd) (fun _ => ?_)
  rw [← wall fm] at h4
  exact lw_583 hG hsp h4 hm
theorem lw_462 (hG : G.2.2.1 ≤ 260) (hsp : lSp T sp) (h : lS G T D n t I) {d11 d12 d13 d14 d15 d16 d17 d18 d19 : Option Value} : nm_W G l 264 462 (wL (nI (tN T)) (nI (al T)) (nI (tS T)) alv D sp [d11, d12, d13, d14, d15, d16, d17, d18, d19]) [] n 81 40064 t I L lwQ := by
  obtain ⟨h1, h2, ⟨a, h3⟩, ⟨b, c, h4⟩, h5, h6, h7, h8⟩ := id h
  refine nm_go (am_ok_all 264 (by decide)) 9 ?_
  refine And.intro (fun cd => absurd cd (by decide)) (fun _ => ?_)
  refine nm_b h8 (cc_digest h2 h3 h4 h5 ?_)
  rw [h6]
  refine And.intro (fun cd => absurd (lw_cmp D) cd) (fun _ => ?_)
  exact lw_482 hG hsp h
end LW

/-! the law, from its end: rings, the last digest -/
abbrev lwQ : nm_P := fun _ v _ _ _ => v = some (.int 1)
abbrev wL (ns ev st al : Int32) (D : Int64) (sp : Int32) (r : am_L) : am_L := some (.float 0) :: some (.ref 0) :: some (.int 1) :: some (.ref 62) :: some (.int ns) :: some (.int ev) :: some (.int st) :: some (.int al) :: some (.long D) :: none :: some (.int sp) :: r
/-- what holds all along -/
def lS (G : am_G) (T : tT) (D : Int64) (n : Nat) (t : am_T) (I : am_I) : Prop := isT G T ∧ cB T 0 t I ∧ (∃ a, cR T 0 0 a I) ∧ (∃ a b, cS T 0 a b I) ∧ cZ I ∧ dgP T I = D ∧ 63 ≤ n ∧ n ≤ 81
theorem lS.n {G : am_G} {T : tT} {D : Int64} {n : Nat} {t t' : am_T} {I I' : am_I} {cs : List Nat} (h : lS G T D n t I) (hB : cB T 0 t' I') (f : frN cs I I') (hd : ∀ x, x ∈ cs → x ∉ [16, 17, 18, 19, 22, 23, 24] ∧ (x < 38 ∨ 57 < x)) : lS G T D n t' I' := by
  obtain ⟨h1, h2, ⟨a, h3⟩, ⟨b, c, h4⟩, h5, h6, h7⟩ := h
  have r : ∀ x, 38 ≤ x → x ≤ 57 → I' x = I x := fun x h1 h2 => f x (fun q => by have := (hd x q).2; omega)
  refine ⟨h1, hB, ⟨a, h3.n f (fun x hx q => (hd x q).1 (by revert hx; simp; omega))⟩, ⟨b, c, h4.n f (fun x hx q => (hd x q).1 (by revert hx; simp; omega))⟩, h5.fr (fun k hk => by rw [r (38 + 2 * k) (by omega) (by omega)]), ?_, h7⟩
  rw [dgP_eq h5 (fun k hk => ⟨by rw [r (38 + 2 * k) (by omega) (by omega)], fun j _ => by rw [r (39 + 2 * k) (by omega) (by omega)]⟩)]
  exact h6
theorem lw_cmp (x : Int64) : (lg_cmp x x).toInt = 0 := by
  unfold lg_cmp
  simp
/-- the steps that shortest() told -/
def lSp (T : tT) (sp : Int32) : Prop := (Fm (gap T 0) (al T) = none → sp = -9) ∧ (Fm (gap T 0) (al T) ≠ none → 0 ≤ sp.toInt)
section LW
variable {G : am_G} {l : Launch} {t : am_T} {I : am_I} {L : am_J} {T : tT} {D : Int64} {n : Nat} {alv sp : Int32}
theorem lw_1400 (h : lS G T D n t I) {r : am_L} : nm_W G l 264 1400 (wL (nI (tN T)) (nI (al T)) (nI (tS T)) alv D sp r) [] n 81 40064 t I L lwQ := by
  obtain ⟨h1, h2, ⟨a, h3⟩, ⟨b, c, h4⟩, h5, h6, h7, h8⟩ := h
  refine nm_go (am_ok_all 264 (by decide)) 60 ?_
  refine And.intro (fun cd => absurd cd (by decide)) (fun _ => ?_)
  refine nm_b h8 (cc_digest h2 h3 h4 h5 ?_)
  rw [h6]
  refine And.intro (fun cd => absurd (lw_cmp D) cd) (fun _ => ?_)
  exact ⟨Or.inr rfl, rfl⟩
theorem and_nz {a b m : Nat} (ha : a < 2 ^ 31) (h1 : a.testBit m = true) (h2 : b.testBit m = true) : ¬ (nI a &&& nI b).toInt = 0 := by
  rw [n_and]
  have l : a &&& b < 2 ^ 31 := Nat.lt_of_le_of_lt Nat.and_le_left ha
  rw [n_z l]
  intro q
  have : (a &&& b).testBit m = true := by rw [Nat.testBit_and, h1, h2]; rfl
  rw [q, Nat.zero_testBit] at this
  cases this
theorem lw_1337 {lst ft : Int32} {U : Int64} : ∀ (j k : Nat) (kv : Int32) (t : am_T) (I : am_I) (d17 d18 d19 : Option Value), tN T - k = j → k ≤ tN T → kv = nI k → lS G T D n t I → nm_W G l 264 1337 (wL (nI (tN T)) (nI (al T)) (nI (tS T)) alv D sp [some (.long U), none, some (.int ft), some (.int (nI (bO (tN T) (inR T 0)))), some (.int lst), some (.int kv), d17, d18, d19]) [] n 81 40064 t I L lwQ := by
  intro j
  induction j with
  | zero =>
    intro k kv t I d17 d18 d19 hj hk ek h
    obtain rfl : k = tN T := by omega
    subst ek
    refine nm_go (am_ok_all 264 (by decide)) 2 ?_
    refine And.intro (fun _ => lw_1400 h) (fun cd => absurd cd (by omega))
  | succ j ih =>
    intro k kv t I d17 d18 d19 hj hk ek h
    subst ek
    have hok := h.2.1.1
    have n6 : tN T ≤ 6 := hok.2.2.2.1
    have p6 := Nat.pow_le_pow_right (n := 2) (by decide) n6
    have n81 := h.2.2.2.2.2.2.2
    have kn : k < tN T := by omega
    have Rl : bO (tN T) (inR T 0) < 2 ^ tN T := bO_lt _ _
    have Rb : ∀ m, m < tN T → (bO (tN T) (inR T 0)).testBit m = inR T 0 m := fun m hm => by rw [tb_bO, decide_eq_true hm, Bool.true_and]
    have bit := n_bit (s := bO (tN T) (inR T 0)) (j := k) (by omega) (by omega)
    rw [Rb k kn] at bit
    have bl : bar T 0 k < 2 ^ tN T := bO_lt _ _
    have yl : byL T 0 k < 2 ^ tN T := bO_lt _ _
    refine nm_go (am_ok_all 264 (by decide)) 2 ?_
    refine And.intro (fun cd => ?_) (fun _ => ?_)
    · rw [nI_toInt (by omega), nI_toInt (by omega)] at cd
      omega
    refine nm_go (am_ok_all 264 (by decide)) 1 ?_
    refine And.intro (fun cd => absurd cd (by decide)) (fun _ => ?_)
    have f1 : frN [36] I (am_u I 36 0 (nI (byL T 0 k))) := (frN.refl _ _).u (by decide)
    have h' := h.n (h.2.1.n f1 (by decide)) f1 (by decide)
    have nx : nm_W G l 264 1388 (wL (nI (tN T)) (nI (al T)) (nI (tS T)) alv D sp [some (.long U), none, some (.int ft), some (.int (nI (bO (tN T) (inR T 0)))), some (.int lst), some (.int (nI k)), some (.int (nI (bar T 0 k))), some (.int (nI (byL T 0 k))), d19]) [] n 81 40064 t (am_u I 36 0 (nI (byL T 0 k))) L lwQ := by
      refine nm_go (am_ok_all 264 (by decide)) 20 ?_
      exact ih (k + 1) _ t _ _ _ _ (by omega) (by omega) (nI_1 k) h'
    refine nm_go (am_ok_all 264 (by decide)) 12 ?_
    refine nm_b n81 (cc_bars h.2.1 k kn rfl ?_)
    refine nm_b n81 (cc_asked ?_)
    rw [u_eq]
    cases e : inR T 0 k with
    | false =>
      rw [e] at bit
      refine And.intro (fun _ => nx) (fun cd => ?_)
      rw [bit] at cd
      exact absurd rfl cd
    | true =>
      rw [e] at bit
      obtain ⟨⟨m, m1, m2, m3⟩, ⟨q, q1, q2, q3⟩⟩ := ring_in kn e
      refine And.intro (fun cd => ?_) (fun _ => ?_)
      · rw [bit] at cd
        exact absurd cd (by decide)
      refine nm_go (am_ok_all 264 (by decide)) 3 ?_
      refine And.intro (fun cd => ?_) (fun _ => ?_)
      · exact absurd cd (and_nz (m := m) (by omega) m2 (by rw [Rb m m1]; exact m3))
      refine nm_go (am_ok_all 264 (by decide)) 3 ?_
      refine And.intro (fun cd => ?_) (fun _ => nx)
      exact absurd cd (and_nz (m := q) (by omega) q2 (by rw [Rb q q1]; exact q3))
theorem lw_1271 (h : lS G T D n t I) (hsp : lSp T sp) {ft : Int32} {U : Int64} {d14 d15 d16 d17 d18 d19 : Option Value} : nm_W G l 264 1271 (wL (nI (tN T)) (nI (al T)) (nI (tS T)) alv D sp [some (.long U), none, some (.int ft), d14, d15, d16, d17, d18, d19]) [] n 81 40064 t I L lwQ := by
  have hok := h.2.1.1
  have n6 : tN T ≤ 6 := hok.2.2.2.1
  have p6 := Nat.pow_le_pow_right (n := 2) (by decide) n6
  have n81 := h.2.2.2.2.2.2.2
  have Rl : bO (tN T) (inR T 0) < 2 ^ tN T := bO_lt _ _
  have sl := sml_le T 0 (tN T)
  have s1 := @sml_1 T 0 (tN T)
  have f1 : frN [36] I (am_u I 36 0 (nI (sml T 0 (tN T)))) := (frN.refl _ _).u (by decide)
  have h' := h.n (h.2.1.n f1 (by decide)) f1 (by decide)
  have nx : nm_W G l 264 1328 (wL (nI (tN T)) (nI (al T)) (nI (tS T)) alv D sp [some (.long U), none, some (.int ft), some (.int (nI (bO (tN T) (inR T 0)))), some (.int (nI (sml T 0 (tN T)))), d16, d17, d18, d19]) [] n 81 40064 t (am_u I 36 0 (nI (sml T 0 (tN T)))) L lwQ := by
    refine nm_go (am_ok_all 264 (by decide)) 20 ?_
    exact lw_1337 (tN T) 0 _ t _ _ _ _ rfl (Nat.zero_le _) rfl h'
  have i1 : ¬ (nI (sml T 0 (tN T))).toInt = (1 : Int32).toInt := by
    rw [nI_toInt (by omega)]
    intro q
    have q : (sml T 0 (tN T) : Int) = 1 := q
    omega
  refine nm_go (am_ok_all 264 (by decide)) 5 ?_
  refine nm_b n81 (cc_rings h.2.1 ?_)
  refine nm_b n81 (cc_asked ?_)
  rw [u_eq]
  by_cases z : bO (tN T) (inR T 0) = 0
  · have z2 := ring_0.mp z
    rw [z2] at nx ⊢
    rw [z] at nx ⊢
    refine nm_go (am_ok_all 264 (by decide)) 15 ?_
    refine And.intro (fun cd => absurd cd (by decide)) (fun _ => ?_)
    refine And.intro (fun cd => absurd rfl cd) (fun _ => ?_)
    refine And.intro (fun cd => absurd rfl cd) (fun _ => ?_)
    refine And.intro (fun cd => absurd rfl cd) (fun _ => ?_)
    refine And.intro (fun cd => absurd cd (by decide)) (fun _ => ?_)
    exact And.intro (fun _ => nx) (fun cd => absurd rfl cd)
  · have z2 : ¬ sml T 0 (tN T) = 0 := fun q => z (ring_0.mpr q)
    have t1 : ¬ (nI (bO (tN T) (inR T 0))).toInt = 0 := by rw [n_z (by omega)]; exact z
    have t2 : ¬ (nI (sml T 0 (tN T))).toInt = 0 := by rw [n_z (by omega)]; exact z2
    have fn : Fm (gap T 0) (al T) = none := by
      apply Classical.byContradiction
      intro q
      apply z
      apply Nat.eq_of_testBit_eq
      intro k
      rw [tb_bO, Nat.zero_testBit]
      by_cases hk : k < tN T
      · rw [ring_none n6 q hk, Bool.and_false]
      · rw [decide_eq_false hk]
        rfl
    have es := hsp.1 fn
    subst es
    refine nm_go (am_ok_all 264 (by decide)) 16 ?_
    refine And.intro (fun cd => absurd cd (by decide)) (fun _ => ?_)
    refine And.intro (fun _ => ?_) (fun cd => absurd cd t1)
    refine And.intro (fun _ => ?_) (fun cd => absurd cd t2)
    refine And.intro (fun cd => absurd rfl cd) (fun _ => ?_)
    refine And.intro (fun cd => absurd cd i1) (fun _ => ?_)
    refine And.intro (fun cd => absurd cd t1) (fun _ => ?_)
    exact And.intro (fun cd => absurd rfl cd) (fun _ => nx)
end LW

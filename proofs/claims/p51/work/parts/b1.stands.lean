/-! where lamps stand: the law's stands -/
def sAdv (G : am_G) (met : Nat) : Nat → Nat → Nat
  | 0, c => c
  | r + 1, c => if sSt G c && !met.testBit c then c else sAdv G met r ((c + 1) % sN G)
def sC0 (G : am_G) (met k : Nat) : Nat := sAdv G met (sN G) ((ce G 3 >>> (4 * k)) % sN G)
def sLp (G : am_G) : Nat → Nat × Nat × (Nat → Nat)
  | 0 => (0, 0, fun _ => 0)
  | k + 1 => if sSt G (sC0 G (sLp G k).2.1 k) && !(sLp G k).2.1.testBit (sC0 G (sLp G k).2.1 k) then ((sLp G k).1 + 1, (sLp G k).2.1 ||| 1 <<< sC0 G (sLp G k).2.1 k, cup (sLp G k).2.2 (sLp G k).1 (sC0 G (sLp G k).2.1 k)) else sLp G k
def sNum (G : am_G) : Nat := (sLp G (sWant G)).1
def sAt (G : am_G) : Nat → Nat := (sLp G (sWant G)).2.2
theorem sAdv_lt {G : am_G} {met : Nat} : ∀ (r c : Nat), c < sN G → sAdv G met r c < sN G
  | 0, _, h => h
  | r + 1, c, h => by
    unfold sAdv
    split
    · exact h
    · exact sAdv_lt r _ (Nat.mod_lt _ (by omega))
theorem sC0_lt {G : am_G} {met k : Nat} : sC0 G met k < sN G := sAdv_lt _ _ (Nat.mod_lt _ (by have := (sN_b G).1; omega))
theorem sLp_ok (G : am_G) : ∀ k, (sLp G k).1 ≤ k ∧ (sLp G k).2.1 < 2 ^ 24 ∧ (∀ j, j < (sLp G k).1 → (sLp G k).2.2 j < sN G ∧ sSt G ((sLp G k).2.2 j) = true ∧ (sLp G k).2.1.testBit ((sLp G k).2.2 j) = true) ∧ ∀ i j, i < (sLp G k).1 → j < (sLp G k).1 → (sLp G k).2.2 i = (sLp G k).2.2 j → i = j
  | 0 => ⟨Nat.le_refl 0, Nat.two_pow_pos 24, fun j h => absurd h (Nat.not_lt_zero j), fun i j h => absurd h (Nat.not_lt_zero i)⟩
  | k + 1 => by
    obtain ⟨h1, h2, h3, h4⟩ := sLp_ok G k
    have sb := sN_b G
    have cl := @sC0_lt G (sLp G k).2.1 k
    unfold sLp
    generalize sC0 G (sLp G k).2.1 k = c at *
    generalize sLp G k = p at *
    obtain ⟨n, met, at'⟩ := p
    simp only at *
    split
    · rename_i q
      rw [Bool.and_eq_true, Bool.not_eq_true'] at q
      obtain ⟨q1, q2⟩ := q
      refine ⟨by simp only; omega, or_lt h2 (one_lt (by omega)), fun j hj => ?_, fun i j hi hj e => ?_⟩
      · simp only at hj ⊢
        by_cases ej : j = n
        · subst ej
          rw [cup_eq]
          refine ⟨cl, q1, ?_⟩
          rw [Nat.testBit_or, tb_one]
          simp
        · rw [cup_ne ej, Nat.testBit_or]
          obtain ⟨a1, a2, a3⟩ := h3 j (by omega)
          exact ⟨a1, a2, by rw [a3]; rfl⟩
      · simp only at hi hj e
        have ne : ∀ j, j < n → at' j ≠ c := fun j hj e => by
          have := (h3 j hj).2.2
          rw [e, q2] at this
          cases this
        by_cases ei : i = n
        · by_cases ej : j = n
          · omega
          · rw [ei, cup_eq, cup_ne ej] at e
            exact absurd e.symm (ne j (by omega))
        · by_cases ej : j = n
          · rw [ej, cup_eq, cup_ne ei] at e
            exact absurd e (ne i (by omega))
          · rw [cup_ne ei, cup_ne ej] at e
            exact h4 i j (by omega) (by omega) e
    · exact ⟨by simp only; omega, h2, h3, h4⟩
theorem sWant_lt (G : am_G) : sWant G < 7 := Nat.mod_lt _ (by decide)
theorem sNum_le (G : am_G) : sNum G ≤ 6 := by
  have := (sLp_ok G (sWant G)).1
  have := sWant_lt G
  unfold sNum
  omega
section ST
variable {G : am_G} {l : Launch} {t : am_T} {I : am_I} {L : am_J} {Q : nm_P}
theorem st_in (hG : G.2.2.1 ≤ 260) {n N : Nat} (hN : N ≤ 81) {o met : Nat} (hm : met < 2 ^ 31) {nv wv kv : Int32} : ∀ (r i c : Nat) (cv iv : Int32), i + r = sN G → c < sN G → cv = nI c → iv = nI i →
    (∀ iv' : Int32, nm_W G l 75 92 [some (.float 0), some (.ref o), some (.int nv), some (.int (nI met)), some (.int wv), some (.int kv), some (.int (nI (sAdv G met r c))), some (.int iv')] [] N 0 0 t I L Q) →
    nm_W G l 75 47 [some (.float 0), some (.ref o), some (.int nv), some (.int (nI met)), some (.int wv), some (.int kv), some (.int cv), some (.int iv)] [] N 0 0 t I L Q := by
  have sb := sN_b G
  intro r
  induction r with
  | zero =>
    intro i c cv iv hi hc ec ei kont
    subst ec ei
    refine nm_go (am_ok_all 75 (by decide)) 3 ?_
    refine nm_b hN (sp_cells hG ?_)
    refine And.intro (fun _ => kont _) (fun cd => ?_)
    rw [show i = sN G by omega] at cd
    omega
  | succ r ih =>
    intro i c cv iv hi hc ec ei kont
    subst ec ei
    have bit := n_bit (s := met) (j := c) hm (by omega)
    have st : sAdv G met (r + 1) c = if sSt G c && !met.testBit c then c else sAdv G met r ((c + 1) % sN G) := rfl
    rw [st] at kont
    have w75 : (sSt G c && !met.testBit c) = false → nm_W G l 75 75 [some (.float 0), some (.ref o), some (.int nv), some (.int (nI met)), some (.int wv), some (.int kv), some (.int (nI c)), some (.int (nI i))] [] N 0 0 t I L Q := by
      intro e
      rw [e] at kont
      refine nm_go (am_ok_all 75 (by decide)) 20 ?_
      refine nm_b hN (sp_cells hG ?_)
      refine ⟨by rw [nI_toInt (by omega)]; omega, ?_⟩
      refine ih (i + 1) ((c + 1) % sN G) _ _ (by omega) (Nat.mod_lt _ (by omega)) ?_ (nI_1 i) kont
      rw [nI_1, pk_rem (by omega) (by omega) (by omega)]
    refine nm_go (am_ok_all 75 (by decide)) 3 ?_
    refine nm_b hN (sp_cells hG ?_)
    refine And.intro (fun cd => ?_) (fun _ => ?_)
    · rw [nI_toInt (by omega), nI_toInt (by omega)] at cd
      omega
    refine nm_go (am_ok_all 75 (by decide)) 3 ?_
    refine nm_b hN (sp_street hG c (by omega) rfl ?_)
    cases es : sSt G c with
    | false =>
      refine And.intro (fun _ => w75 (by rw [es]; rfl)) (fun cd => absurd rfl cd)
    | true =>
      refine And.intro (fun cd => absurd cd (by decide)) (fun _ => ?_)
      refine nm_go (am_ok_all 75 (by decide)) 6 ?_
      cases em : met.testBit c with
      | true =>
        rw [em] at bit
        refine And.intro (fun cd => absurd (by rw [bit]; rfl) cd) (fun _ => w75 (by rw [es, em]; rfl))
      | false =>
        rw [em] at bit
        refine And.intro (fun _ => ?_) (fun cd => ?_)
        · rw [es, em] at kont
          exact kont _
        · rw [bit] at cd
          exact absurd cd (by decide)
theorem st_out (hG : G.2.2.1 ≤ 260) {N : Nat} (hN : N ≤ 81) {o : Nat} (ho : o < N) (hs : am_SH o = (100, 6)) : ∀ (r k : Nat) (I : am_I) (nv mv kv : Int32) (d6 d7 : Option Value), k + r = sWant G → nv = nI (sLp G k).1 → mv = nI (sLp G k).2.1 → kv = nI k → (∀ j, j < (sLp G k).1 → I o j = nI ((sLp G k).2.2 j)) →
    (∀ I', (∀ z, z ≠ o → I' z = I z) → (∀ j, j < sNum G → I' o j = nI (sAt G j)) → Q N (some (.int (nI (sNum G)))) t I' L) →
    nm_W G l 75 20 [some (.float 0), some (.ref o), some (.int nv), some (.int mv), some (.int (nI (sWant G))), some (.int kv), d6, d7] [] N 0 0 t I L Q := by
  have sb := sN_b G
  have sw := sWant_lt G
  intro r
  induction r with
  | zero =>
    intro k I nv mv kv d6 d7 hk en em ek hI kont
    obtain rfl : k = sWant G := by omega
    subst en em ek
    refine nm_go (am_ok_all 75 (by decide)) 2 ?_
    refine And.intro (fun _ => ?_) (fun cd => absurd cd (by omega))
    refine nm_go (am_ok_all 75 (by decide)) 20 ?_
    exact kont I (fun _ _ => rfl) hI
  | succ r ih =>
    intro k I nv mv kv d6 d7 hk en em ek hI kont
    subst en em ek
    obtain ⟨p1, p2, p3, p4⟩ := sLp_ok G k
    have c3 := ce_lt G 3
    have c3k := sr_lt (k := 4 * k) c3
    have stp : sLp G (k + 1) = if sSt G (sC0 G (sLp G k).2.1 k) && !(sLp G k).2.1.testBit (sC0 G (sLp G k).2.1 k) then ((sLp G k).1 + 1, (sLp G k).2.1 ||| 1 <<< sC0 G (sLp G k).2.1 k, cup (sLp G k).2.2 (sLp G k).1 (sC0 G (sLp G k).2.1 k)) else sLp G k := rfl
    have cl := @sC0_lt G (sLp G k).2.1 k
    refine nm_go (am_ok_all 75 (by decide)) 2 ?_
    refine And.intro (fun cd => ?_) (fun _ => ?_)
    · rw [nI_toInt (by omega), nI_toInt (by omega)] at cd
      omega
    refine nm_go (am_ok_all 75 (by decide)) 30 ?_
    refine nm_b hN (sp_cell hG 3 (by decide) rfl ?_)
    refine nm_b hN (sp_cells hG ?_)
    refine ⟨by rw [nI_toInt (by omega)]; omega, ?_⟩
    refine st_in (n := 0) hG hN (by omega) (sN G) 0 ((ce G 3 >>> (4 * k)) % sN G) _ _ (by omega) (Nat.mod_lt _ (by omega)) ?_ rfl (fun iv' => ?_)
    · rw [k4, pk_mul, n_shr c3 (by omega), pk_rem (by omega) (by omega) (by omega)]
    show nm_W G l 75 92 [some (.float 0), some (.ref o), some (.int (nI (sLp G k).1)), some (.int (nI (sLp G k).2.1)), some (.int (nI (sWant G))), some (.int (nI k)), some (.int (nI (sC0 G (sLp G k).2.1 k))), some (.int iv')] [] N 0 0 t I L Q
    generalize sC0 G (sLp G k).2.1 k = c at *
    generalize hp : sLp G k = p at *
    obtain ⟨n, met, at'⟩ := p
    simp only at p1 p2 p3 p4 hI stp
    have bit := n_bit (s := met) (j := c) (by omega) (by omega)
    have nxt : ∀ (I1 : am_I) (n' m' : Int32), n' = nI (sLp G (k + 1)).1 → m' = nI (sLp G (k + 1)).2.1 → (∀ z, z ≠ o → I1 z = I z) → (∀ j, j < (sLp G (k + 1)).1 → I1 o j = nI ((sLp G (k + 1)).2.2 j)) → nm_W G l 75 125 [some (.float 0), some (.ref o), some (.int n'), some (.int m'), some (.int (nI (sWant G))), some (.int (nI k)), some (.int (nI c)), some (.int iv')] [] N 0 0 t I1 L Q := by
      intro I1 n' m' e1 e2 f1 h1
      refine nm_go (am_ok_all 75 (by decide)) 20 ?_
      refine ih (k + 1) I1 _ _ _ _ _ (by omega) e1 e2 (nI_1 k) h1 (fun I2 f2 h2 => kont I2 (fun z hz => by rw [f2 z hz, f1 z hz]) h2)
    refine nm_go (am_ok_all 75 (by decide)) 3 ?_
    refine nm_b hN (sp_street hG c (by omega) rfl ?_)
    cases es : sSt G c with
    | false =>
      rw [es, Bool.false_and, if_neg (by decide)] at stp
      refine And.intro (fun _ => ?_) (fun cd => absurd rfl cd)
      exact nxt I _ _ (by rw [stp]) (by rw [stp]) (fun _ _ => rfl) (by rw [stp]; exact hI)
    | true =>
      refine And.intro (fun cd => absurd cd (by decide)) (fun _ => ?_)
      refine nm_go (am_ok_all 75 (by decide)) 5 ?_
      cases em : met.testBit c with
      | true =>
        rw [em] at bit
        rw [em, Bool.not_true, Bool.and_false, if_neg (by decide)] at stp
        refine And.intro (fun _ => ?_) (fun cd => ?_)
        · exact nxt I _ _ (by rw [stp]) (by rw [stp]) (fun _ _ => rfl) (by rw [stp]; exact hI)
        · rw [bit] at cd
          exact absurd cd (by decide)
      | false =>
        rw [em] at bit
        rw [es, em, Bool.not_false, Bool.and_true, if_pos rfl] at stp
        refine And.intro (fun cd => ?_) (fun _ => ?_)
        · rw [bit] at cd
          exact absurd rfl cd
        refine nm_go (am_ok_all 75 (by decide)) 10 ?_
        refine ⟨6, ⟨ho, hs⟩, n, nI_toInt (by omega), by omega, ?_⟩
        refine nxt (am_u I o n (nI c)) _ _ (by rw [stp]; exact nI_1 n) (by rw [stp, shl1 (by omega), n_or]) (fun z hz => u_ne hz) (fun j hj => ?_)
        rw [stp] at hj ⊢
        simp only at hj ⊢
        by_cases ej : j = n
        · subst ej
          rw [u_eq, cup_eq]
        · rw [u_nj ej, cup_ne ej]
          exact hI j (by omega)
theorem sp_stands (hG : G.2.2.1 ≤ 260) {N : Nat} (hN : N ≤ 81) {o : Nat} (ho : o < N) (hs : am_SH o = (100, 6)) (kont : ∀ I', (∀ z, z ≠ o → I' z = I z) → (∀ j, j < sNum G → I' o j = nI (sAt G j)) → Q N (some (.int (nI (sNum G)))) t I' L) : nm_C G l 75 [.float 0, .ref o] N t I L Q := by
  have c := ce_lt G 0
  have c12 := sr_lt (k := 12) c
  refine nm_go (am_ok_all 75 (by decide)) 20 ?_
  refine nm_b hN (sp_cell hG 0 (by decide) rfl ?_)
  refine ⟨by decide, ?_⟩
  have e : nI (ce G 0) >>> ((12 : Int32) &&& 31) - nI (ce G 0) >>> ((12 : Int32) &&& 31) / 7 * 7 = nI (sWant G) := by
    rw [show (12 : Int32) = nI 12 from rfl, n_shr c (by decide), show (7 : Int32) = nI 7 from rfl, pk_rem (by omega) (by decide) (by decide)]
    rfl
  rw [e]
  exact st_out hG hN ho hs (sWant G) 0 I _ _ _ _ _ (by omega) rfl rfl rfl (fun j hj => absurd hj (Nat.not_lt_zero j)) kont
end ST

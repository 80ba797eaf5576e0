/-! pairs: bars, rings, thief, lamp -/
/-- a set that grows step by step is full after as many steps as there are places -/
theorem grow {C : Nat} (f : Nat → Nat) (hl : ∀ i, f i < 2 ^ C) (hg : ∀ i b, (f i).testBit b = true → (f (i + 1)).testBit b = true) (hs : ∀ i j, f i = f j → f (i + 1) = f (j + 1)) : ∀ i, C ≤ i → f i = f C := by
  have pcm : ∀ n a b, (∀ i, i < n → a.testBit i = true → b.testBit i = true) → pcn n a ≤ pcn n b ∧ (pcn n a = pcn n b → ∀ i, i < n → a.testBit i = b.testBit i) := by
    intro n
    induction n with
    | zero => intro a b _; exact ⟨Nat.le_refl _, fun _ i hi => by omega⟩
    | succ n ih =>
      intro a b hab
      have h0 := hab 0 (by omega)
      rw [Nat.testBit_zero, Nat.testBit_zero] at h0
      simp only [decide_eq_true_eq] at h0
      obtain ⟨h1, h2⟩ := ih (a / 2) (b / 2) (fun i hi => by rw [Nat.testBit_div_two, Nat.testBit_div_two]; exact hab (i + 1) (by omega))
      rw [pcn_s, pcn_s]
      refine ⟨by omega, fun e i hi => ?_⟩
      match i, hi with
      | 0, _ =>
        rw [Nat.testBit_zero, Nat.testBit_zero]
        have : a % 2 = b % 2 := by omega
        rw [this]
      | i + 1, hi =>
        rw [← Nat.testBit_div_two, ← Nat.testBit_div_two]
        exact h2 (by omega) i (by omega)
  have mono : ∀ i, pcn C (f i) ≤ pcn C (f (i + 1)) := fun i => (pcm C _ _ (fun b _ => hg i b)).1
  have eq : ∀ i, pcn C (f i) = pcn C (f (i + 1)) → f i = f (i + 1) := fun i e => tb_ext (hl i) (hl (i + 1)) ((pcm C _ _ (fun b _ => hg i b)).2 e)
  have stay : ∀ i, f i = f (i + 1) → ∀ j, f (i + j) = f i := by
    intro i e j
    induction j with
    | zero => rfl
    | succ j ih =>
      have := hs (i + j) i ih
      rw [← e] at this
      exact this
  have ex : ∃ i, i ≤ C ∧ f i = f (i + 1) := by
    by_cases q : ∃ i, i ≤ C ∧ f i = f (i + 1)
    · exact q
    · exfalso
      have inc : ∀ i, i ≤ C → pcn C (f i) + 1 ≤ pcn C (f (i + 1)) := by
        intro i hi
        have h1 := mono i
        have h2 : ¬ pcn C (f i) = pcn C (f (i + 1)) := fun e => q ⟨i, hi, eq i e⟩
        omega
      have all : ∀ i, i ≤ C + 1 → i ≤ pcn C (f i) := by
        intro i
        induction i with
        | zero => intro _; omega
        | succ i ih =>
          intro hi
          have := ih (by omega)
          have := inc i (by omega)
          omega
      have h1 := all (C + 1) (by omega)
      have h2 := pcn_le C (f (C + 1))
      omega
  obtain ⟨i, hi, e⟩ := ex
  intro j hj
  have h1 := stay i e (j - i)
  have h2 := stay i e (C - i)
  rw [show i + (j - i) = j by omega] at h1
  rw [show i + (C - i) = C by omega] at h2
  rw [h1, h2]
theorem dk_lt {T : tT} (hT : tG T) (b f : Nat) : ∀ i, dk T b f i < 2 ^ tC T
  | 0 => and_lt _ (and_lt' _ hT.2.2.2.2)
  | i + 1 => or_lt (dk_lt hT b f i) (and_lt _ (nr_ltC hT _))
theorem dk_all {T : tT} (hT : tG T) (b f : Nat) : dk T b f 24 = dk T b f (tC T) := by
  refine grow (dk T b f) (dk_lt hT b f) (fun i q hq => ?_) (fun i j e => ?_) 24 hT.c24
  · show (dk T b f i ||| _).testBit q = true
    rw [Nat.testBit_or, hq]
    rfl
  · show (dk T b f i ||| (nr T (dk T b f i) &&& cm b)) = (dk T b f j ||| (nr T (dk T b f j) &&& cm b))
    rw [e]
/-- the reference's way to go on in the dark -/
theorem dk_step {T : tT} (hT : tG T) (b f : Nat) : ∀ i, spT T (dk T b f i) &&& (tS T &&& cm b) = dk T b f (i + 1) ∧ dk T b f i &&& (tS T &&& cm b) = dk T b f i := by
  have key : ∀ i, dk T b f i &&& (tS T &&& cm b) = dk T b f i → spT T (dk T b f i) &&& (tS T &&& cm b) = dk T b f (i + 1) := by
    intro i h
    rw [spT_eq]
    show _ = dk T b f i ||| (nr T (dk T b f i) &&& cm b)
    rw [Nat.and_or_distrib_right]
    congr 1
    · rw [Nat.and_assoc, ← Nat.and_assoc (tS T) (tS T), Nat.and_self, h]
    · rw [← Nat.and_assoc, nr_sub]
  have sub : ∀ i, dk T b f i &&& (tS T &&& cm b) = dk T b f i := by
    intro i
    induction i with
    | zero =>
      show ((f &&& tS T) &&& cm b) &&& (tS T &&& cm b) = (f &&& tS T) &&& cm b
      apply Nat.eq_of_testBit_eq
      intro i
      simp only [Nat.testBit_and]
      cases f.testBit i <;> cases (tS T).testBit i <;> cases (cm b).testBit i <;> rfl
    | succ i ih =>
      show (dk T b f i ||| (nr T (dk T b f i) &&& cm b)) &&& (tS T &&& cm b) = _
      rw [Nat.and_or_distrib_right, ih]
      congr 1
      have e : ∀ z S c : Nat, (z &&& c) &&& (S &&& c) = (z &&& S) &&& c := fun z S c => by
        apply Nat.eq_of_testBit_eq
        intro i
        simp only [Nat.testBit_and]
        cases z.testBit i <;> cases S.testBit i <;> cases c.testBit i <;> rfl
      rw [e, nr_sub]
  exact fun i => ⟨key i (sub i), sub i⟩
section PB
variable {G : am_G} {l : Launch} {t : am_T} {I : am_I} {L : am_J} {Q : bm_P}
theorem pair_bars {x : Int32} (h : Inv t I L) : bm_C G l 29 [.ref 0, .int x] t I L (pI G l 140 [.ref 61, .int x]) := by
  obtain ⟨T, sh, hc, hm, hs, a1, a2, hL, a4, hK, hS, hO, hG⟩ := h.2.2
  have hT := InvX.ok hG
  have n6 := hT.n6
  have p6 := Nat.pow_le_pow_right (n := 2) (by decide) n6
  refine bm_go (am_ok_all 29 (by decide)) 40 ?_
  refine sp_isLamp hT hc.2.2.2.1 (fun k hk hx => ?_) (fun cd => ?_)
  · have hok := hT.ok hk
    have h24 := hok.1.c24
    have hkp := (hok.2.2.2.2.1 k hk).2.1
    first | refine And.intro (fun cd => absurd cd (by decide)) (fun _ => ?_) | refine And.intro (fun _ => ?_) (fun cd => absurd cd (by decide)) | refine And.intro (fun cd => ?_) (fun cd => ?_)
    refine sp_barredBy sh k hk hx hok hc hL ?_
    refine sp_barring sh k hk hx hok hc hL ?_
    refine sp_besides ?_
    refine ⟨_, rfl, ?_⟩
    generalize hI' : am_u I 36 0 (nI (byL T sh k)) = I'
    have e61 : ∀ x, x ≠ 36 → I' x = I x := fun x hx => by rw [← hI', u_ne hx]
    have hm' : mT T I' := by unfold mT; rw [e61 61 (by decide), e61 66 (by decide), e61 67 (by decide), e61 68 (by decide)]; exact hm
    have a2' : I' 61 19 = nI sh := by rw [e61 61 (by decide)]; exact a2
    have hn := hm'.2.2.2.1
    have fin : bm_W G l 140 14 [some (.ref 61), some (.int x), some (.int (nI (byL T sh k))), some (.int (nI (tN T)))] [] t I' L (fun v' t I L => v' = some (.int (nI (bar T sh k))) ∧ Inv t I L) := by
      refine bm_go (am_ok_all 140 (by decide)) 40 ?_
      refine And.intro (fun cd => ?_) (fun cd => ?_)
      · refine sm_shine sh k hx hok hm' a2' (by omega) hk ?_
        refine sm_lampsIn (shn T sh k) k rfl (Nat.lt_trans (up24 hok.1 (shn_lt hok.1 hkp)) (by decide)) hx (by omega) hT hm' ?_
        refine sm_tells ?_
        rw [← hI']
        exact ⟨rfl, h.tell _⟩
      · rw [hn] at cd
        omega
    have lp : ∀ d j y m, tN T - j = d → j ≤ tN T → y = nI j → m = nI (bO j (fun j => j != k && (shn T sh j).testBit (tP T k))) → bm_W G l 140 14 [some (.ref 61), some (.int x), some (.int m), some (.int y)] [] t I' L (fun v' t I L => v' = some (.int (nI (bar T sh k))) ∧ Inv t I L) := by
      intro d
      induction d with
      | zero =>
        intro j y m hd hj hy hmm
        obtain rfl : j = tN T := by omega
        subst hy hmm
        exact fin
      | succ d ih =>
        intro j y m hd hj hy hmm
        subst hy hmm
        have hjp := (hok.2.2.2.2.1 j (by omega)).2.1
        have hlt := up24 hok.1 (shn_lt hok.1 (sh := sh) hjp)
        have hbt := n_bit (s := shn T sh j) (j := tP T k) (Nat.lt_trans hlt (by decide)) (by omega)
        rw [← (hm'.2.2.2.2.2.2.2.2 k hk).2.1] at hbt
        refine bm_go (am_ok_all 140 (by decide)) 40 ?_
        refine And.intro (fun cd => ?_) (fun cd => ?_)
        · simp (disch := omega) only [nI_toInt, T0, T1, T2, T3, T4, T5, T6, T7, T8, T9, T10, T15, T24, T32, T48, T60, T63, T64, T80, T200, T384, T1000, TN, TP, Tm1, Tm9, hn] at cd
          omega
        · refine And.intro (fun cd => ?_) (fun cd => ?_)
          · rw [hx] at cd
            simp (disch := omega) only [nI_toInt, T0, T1, T2, T3, T4, T5, T6, T7, T8, T9, T10, T15, T24, T32, T48, T60, T63, T64, T80, T200, T384, T1000, TN, TP, Tm1, Tm9] at cd
            have e : j = k := by omega
            refine ih (j + 1) _ _ (by omega) (by omega) (nI_succ j).symm ?_
            rw [bO_s, k0, n_or]
            simp [e]
          · have e : j ≠ k := fun q => cd (by rw [q, hx])
            refine sm_shine sh j rfl hok hm' a2' (by omega) (by omega) ?_
            refine ⟨k, by rw [hx]; exact nI_toInt (by omega), (by omega : k < 6), ?_⟩
            cases e2 : (shn T sh j).testBit (tP T k) with
            | true =>
              rw [e2] at hbt
              refine And.intro (fun cd => absurd (by rw [hbt]; rfl) cd) (fun cd => ?_)
              refine ih (j + 1) _ _ (by omega) (by omega) (nI_succ j).symm ?_
              rw [bO_s, shl1 (by omega), n_or, e2]
              simp [e]
            | false =>
              rw [e2] at hbt
              refine And.intro (fun cd => ?_) (fun cd => ?_)
              · refine ih (j + 1) _ _ (by omega) (by omega) (nI_succ j).symm ?_
                rw [bO_s, k0, n_or, e2]
                simp
              · rw [hbt] at cd
                exact absurd cd (by decide)
    refine bm_go (am_ok_all 140 (by decide)) 40 ?_
    refine sm_isLamp hT hm' (fun k2 hk2 hx2 => ?_) (fun cd => by have := xn hx hk (by omega); omega)
    first | refine And.intro (fun cd => absurd cd (by decide)) (fun _ => ?_) | refine And.intro (fun _ => ?_) (fun cd => absurd cd (by decide)) | refine And.intro (fun cd => ?_) (fun cd => ?_)
    exact lp (tN T) 0 _ _ rfl (by omega) rfl rfl
  · first | refine And.intro (fun cd => absurd cd (by decide)) (fun _ => ?_) | refine And.intro (fun _ => ?_) (fun cd => absurd cd (by decide)) | refine And.intro (fun cd => ?_) (fun cd => ?_)
    refine ⟨_, rfl, ?_⟩
    refine bm_go (am_ok_all 140 (by decide)) 40 ?_
    refine sm_isLamp hT hm (fun k2 hk2 hx2 => ?_) (fun _ => ?_)
    · have := xn hx2 hk2 (by omega)
      omega
    · first | refine And.intro (fun cd => absurd cd (by decide)) (fun _ => ?_) | refine And.intro (fun _ => ?_) (fun cd => absurd cd (by decide)) | refine And.intro (fun cd => ?_) (fun cd => ?_)
      exact ⟨rfl, h⟩
theorem pair_thief {x y : Int32} (h : Inv t I L) : bm_C G l 35 [.ref 0, .int x, .int y] t I L (pI G l 146 [.ref 61, .int x, .int y]) := by
  obtain ⟨T, sh, hc, hm, hs, a1, a2, hL, a4, hK, hS, hO, hG⟩ := h.2.2
  have hT := InvX.ok hG
  have n6 := hT.n6
  have c24 := hT.c24
  have p6 := Nat.pow_le_pow_right (n := 2) (by decide) n6
  refine bm_go (am_ok_all 35 (by decide)) 40 ?_
  refine sp_isCell hT hc.2.1 (fun c hcc hx => ?_) (fun cd => ?_)
  · first | refine And.intro (fun cd => absurd cd (by decide)) (fun _ => ?_) | refine And.intro (fun _ => ?_) (fun cd => absurd cd (by decide)) | refine And.intro (fun cd => ?_) (fun cd => ?_)
    have xr := xn hx hcc (by omega)
    refine sp_isSet hT hc.2.2.2.1 (fun s hs2 hy => ?_) (fun cd => ?_)
    · first | refine And.intro (fun cd => absurd cd (by decide)) (fun _ => ?_) | refine And.intro (fun _ => ?_) (fun cd => absurd cd (by decide)) | refine And.intro (fun cd => ?_) (fun cd => ?_)
      have yr := xn hy hs2 (by omega)
      have hok := hT.okc hcc
      have l24 := lit_24 hT sh s
      refine sp_of 12 (Or.inl rfl) s hy (by omega) ?_
      rw [hL s (by omega)]
      refine sp_darkFrom (1 <<< c) (lit T sh s) (by rw [hx, shl1 (by omega)]) rfl hok.1 hc.1 ?_
      rw [dk_all hok.1]
      have dlt := fun i => up24 hok.1 (dk_lt hok.1 (lit T sh s) (1 <<< c) i)
      refine sp_bitCount _ rfl (w24 (dlt _)) ?_
      refine sp_besides ?_
      refine ⟨_, rfl, ?_⟩
      generalize hI' : am_u I 36 0 (nI (pc (dk T (lit T sh s) (1 <<< c) (tC T)))) = I'
      have e61 : ∀ x, x ≠ 36 → I' x = I x := fun x hx => by rw [← hI', u_ne hx]
      have hm' : mT T I' := by unfold mT; rw [e61 61 (by decide), e61 66 (by decide), e61 67 (by decide), e61 68 (by decide)]; exact hm
      have a2' : I' 61 19 = nI sh := by rw [e61 61 (by decide)]; exact a2
      have hdk : ∀ d3, d3 = nI (tS T &&& cm (lit T sh s)) → ∀ d i z m, tC T - i = d → i ≤ tC T → z = nI i → m = nI (dk T (lit T sh s) (1 <<< c) i) → bm_W G l 146 41 [some (.ref 61), some (.int x), some (.int y), some (.int d3), some (.int m), some (.int z)] [] t I' L (fun v' t I L => v' = some (.int (nI (dk T (lit T sh s) (1 <<< c) (tC T)))) ∧ Inv t I L) := by
        intro d3 hd3 d
        induction d with
        | zero =>
          intro i z m hd hi hz hmm
          obtain rfl : i = tC T := by omega
          subst hz hmm
          refine bm_go (am_ok_all 146 (by decide)) 40 ?_
          refine And.intro (fun cd => ?_) (fun cd => ?_)
          · refine sm_size _ rfl (Nat.lt_trans (dlt _) (by decide)) ?_
            refine sm_tells ?_
            rw [← hI']
            exact ⟨rfl, h.tell _⟩
          · rw [hm'.2.2.1] at cd
            omega
        | succ d ih =>
          intro i z m hd hi hz hmm
          subst hz hmm
          refine bm_go (am_ok_all 146 (by decide)) 40 ?_
          refine And.intro (fun cd => ?_) (fun cd => ?_)
          · simp (disch := omega) only [nI_toInt, T0, T1, T2, T3, T4, T5, T6, T7, T8, T9, T10, T15, T24, T32, T48, T60, T63, T64, T80, T200, T384, T1000, TN, TP, Tm1, Tm9, hm'.2.2.1] at cd
            omega
          · refine sm_spreads _ hok.1 hm' rfl (Nat.lt_trans (dlt _) (by decide)) ?_
            refine ih (i + 1) _ _ (by omega) (by omega) (nI_succ i).symm ?_
            rw [hd3, n_and, (dk_step hok.1 _ _ i).1]
      refine bm_go (am_ok_all 146 (by decide)) 40 ?_
      refine sm_isCell hT hm' (fun c2 hc2 hx2 => ?_) (fun cd => by omega)
      first | refine And.intro (fun cd => absurd cd (by decide)) (fun _ => ?_) | refine And.intro (fun _ => ?_) (fun cd => absurd cd (by decide)) | refine And.intro (fun cd => ?_) (fun cd => ?_)
      refine sm_isSet hT hm' (fun s2 hs3 hy2 => ?_) (fun cd => by omega)
      first | refine And.intro (fun cd => absurd cd (by decide)) (fun _ => ?_) | refine And.intro (fun _ => ?_) (fun cd => absurd cd (by decide)) | refine And.intro (fun cd => ?_) (fun cd => ?_)
      refine sm_lightOf sh s hy (by omega) hT hm' a2' (by omega) ?_
      refine hdk _ ?_ (tC T) 0 _ _ rfl (Nat.zero_le _) rfl ?_
      · rw [hm'.2.2.2.2.2.1, km1, n_cm, n_and]
      · rw [hx, shl1 (by omega), hm'.2.2.2.2.2.1, km1, n_cm, n_and, n_and]
        show nI (1 <<< c &&& (tS T &&& cm (lit T sh s))) = nI ((1 <<< c &&& tS T) &&& cm (lit T sh s))
        rw [Nat.and_assoc]
    · first | refine And.intro (fun cd => absurd cd (by decide)) (fun _ => ?_) | refine And.intro (fun _ => ?_) (fun cd => absurd cd (by decide)) | refine And.intro (fun cd => ?_) (fun cd => ?_)
      refine ⟨_, rfl, ?_⟩
      refine bm_go (am_ok_all 146 (by decide)) 40 ?_
      refine sm_isCell hT hm (fun c2 hc2 hx2 => ?_) (fun cd => by omega)
      first | refine And.intro (fun cd => absurd cd (by decide)) (fun _ => ?_) | refine And.intro (fun _ => ?_) (fun cd => absurd cd (by decide)) | refine And.intro (fun cd => ?_) (fun cd => ?_)
      refine sm_isSet hT hm (fun s2 hs3 hy2 => ?_) (fun _ => ?_)
      · have := xn hy2 hs3 (by omega)
        omega
      · first | refine And.intro (fun cd => absurd cd (by decide)) (fun _ => ?_) | refine And.intro (fun _ => ?_) (fun cd => absurd cd (by decide)) | refine And.intro (fun cd => ?_) (fun cd => ?_)
        exact ⟨rfl, h⟩
  · first | refine And.intro (fun cd => absurd cd (by decide)) (fun _ => ?_) | refine And.intro (fun _ => ?_) (fun cd => absurd cd (by decide)) | refine And.intro (fun cd => ?_) (fun cd => ?_)
    refine ⟨_, rfl, ?_⟩
    refine bm_go (am_ok_all 146 (by decide)) 40 ?_
    refine sm_isCell hT hm (fun c2 hc2 hx2 => ?_) (fun _ => ?_)
    · have := xn hx2 hc2 (by omega)
      omega
    · first | refine And.intro (fun cd => absurd cd (by decide)) (fun _ => ?_) | refine And.intro (fun _ => ?_) (fun cd => absurd cd (by decide)) | refine And.intro (fun cd => ?_) (fun cd => ?_)
      exact ⟨rfl, h⟩
end PB

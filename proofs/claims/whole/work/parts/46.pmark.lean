/-! pair: mark -/
theorem pcn_set : ∀ (n a q : Nat), q < n → a.testBit q = false → pcn n (a ||| 1 <<< q) = pcn n a + 1
  | 0, _, _, h, _ => by omega
  | n + 1, a, 0, _, h => by
    have h0 : a % 2 = 0 := by
      rw [Nat.testBit_zero] at h
      simpa using h
    have e1 : (a ||| 1 <<< 0) / 2 = a / 2 := by
      apply Nat.eq_of_testBit_eq
      intro i
      rw [Nat.testBit_div_two, Nat.testBit_div_two, Nat.testBit_or, tb_one]
      simp
    have e2 : (a ||| 1 <<< 0) % 2 = 1 := by
      have : (a ||| 1 <<< 0).testBit 0 = true := by rw [Nat.testBit_or, tb_one]; simp
      rw [Nat.testBit_zero] at this
      simpa using this
    rw [pcn_s, pcn_s, e1, e2, h0]
    omega
  | n + 1, a, q + 1, hq, h => by
    have e1 : (a ||| 1 <<< (q + 1)) / 2 = a / 2 ||| 1 <<< q := by
      apply Nat.eq_of_testBit_eq
      intro i
      rw [Nat.testBit_div_two, Nat.testBit_or, Nat.testBit_or, Nat.testBit_div_two, tb_one, tb_one]
      simp
    have e2 : (a ||| 1 <<< (q + 1)) % 2 = a % 2 := by
      have : (a ||| 1 <<< (q + 1)).testBit 0 = a.testBit 0 := by rw [Nat.testBit_or, tb_one]; simp
      rw [Nat.testBit_zero, Nat.testBit_zero, decide_eq_decide] at this
      omega
    rw [pcn_s, pcn_s, e1, e2, pcn_set n (a / 2) q (by omega) (by rw [Nat.testBit_div_two]; exact h)]
    omega
theorem pc_set {a q : Nat} (hq : q < 32) (h : a.testBit q = false) : pc (a ||| 1 <<< q) = pc a + 1 := pcn_set 32 a q hq h
theorem pc_inj {P : Nat → Nat} {p : Nat → Bool} : ∀ (n : Nat), n ≤ 32 → (∀ j, j < n → P j < 32) → (∀ i j, i < n → j < n → P i = P j → i = j) → pc (orN n (fun j => if p j then 1 <<< P j else 0)) = pc (bO n p)
  | 0, _, _, _ => rfl
  | n + 1, h, hP, hi => by
    have ih := pc_inj n (by omega) (fun j hj => hP j (by omega)) (fun i j a b => hi i j (by omega) (by omega)) (p := p)
    rw [pc_bO n p (by omega), orN_s, ← ih]
    cases hp : p n with
    | false =>
      rw [if_neg (by decide), if_neg (by decide), Nat.or_zero, Nat.add_zero]
    | true =>
      rw [if_pos rfl, if_pos rfl]
      refine pc_set (hP n (by omega)) ?_
      rw [Bool.eq_false_iff]
      intro e
      obtain ⟨j, hj, e⟩ := (tb_orN _ _ _).mp e
      by_cases q : p j = true
      · rw [if_pos q, tb_one] at e
        have := hi j n (by omega) (by omega) (by simpa using e)
        omega
      · rw [if_neg q] at e
        simp at e
theorem tb_lc {T : tT} {i : Nat} : (lc T).testBit i = true ↔ ∃ j, j < tN T ∧ tP T j = i := by
  unfold lc
  rw [tb_orN]
  constructor
  · rintro ⟨j, hj, e⟩
    rw [tb_one] at e
    exact ⟨j, hj, by simpa using e⟩
  · rintro ⟨j, hj, e⟩
    exact ⟨j, hj, by rw [tb_one]; simpa using e⟩
theorem mk5 {T : tT} {k : Nat} (hT : tOk T) (hk : k < tN T) (s : Nat) (hs : s < 2 ^ 32) : pc ((s &&& lc T) &&& cm (1 <<< tP T k)) = pc (bO (tN T) (fun j => j != k && s.testBit (tP T j))) := by
  have h24 := hT.1.c24
  have n6 := hT.2.2.2.1
  rw [← pc_inj (P := tP T) (tN T) (by omega) (fun j hj => by have := (hT.2.2.2.2.1 j hj).2.1; omega) (fun i j a b => hT.2.2.2.2.2 i j a b)]
  congr 1
  apply Nat.eq_of_testBit_eq
  intro i
  rw [Bool.eq_iff_iff, tb_orN, tb_and_cm (and_lt _ hs), Nat.testBit_and, Bool.and_eq_true, Bool.and_eq_true, tb_lc, tb_one]
  constructor
  · rintro ⟨⟨h1, j, hj, e⟩, h2⟩
    refine ⟨j, hj, ?_⟩
    have hne : j ≠ k := by
      intro q
      subst q
      simp [e] at h2
    rw [if_pos (by simp [hne, e, h1]), tb_one]
    simp [e]
  · rintro ⟨j, hj, h⟩
    by_cases q : (j != k && s.testBit (tP T j)) = true
    · rw [if_pos q, tb_one] at h
      have e : tP T j = i := by simpa using h
      simp only [Bool.and_eq_true, bne_iff_ne, ne_eq] at q
      refine ⟨⟨by rw [← e]; exact q.2, j, hj, e⟩, ?_⟩
      simp only [Bool.not_eq_true', decide_eq_false_iff_not]
      intro e2
      exact q.1 (hT.2.2.2.2.2 j k hj hk (by rw [e, e2]))
    · rw [if_neg q] at h
      simp at h
/-- what mark() tells -/
def mkV (T : tT) (k w : Nat) : Int32 := if w = 2 then nI (pc (bare T k)) - nI (pc (ln T (tP T k) (far T k) 15)) else if w = 3 then nI (pc (ln T (tP T k) (tR T k) 15)) - nI (pc (bare T k)) else if w = 5 then nI (pc (bO (tN T) (fun j => j != k && (bare T k).testBit (tP T j)))) else nI (pc (bare T k))
section PM
variable {G : am_G} {l : Launch} {t : am_T} {I : am_I} {L : am_J} {Q : bm_P}
theorem sp_markOf {T : tT} {x y : Int32} (k w : Nat) (hx : x = nI k) (hk : k < tN T) (hT : tOk T) (hc : cT T I) (hy : y = nI w) (hw : w ≤ 5) (hw1 : 1 ≤ w) (h : Q (some (.int (mkV T k w))) t I L) : bm_C G l 259 [.ref 7, .int x, .int y] t I L Q := by
  have h24 := hT.1.c24
  have n6 := hT.2.2.2.1
  have hL := hT.2.2.2.2.1 k hk
  have hl := hc.2.2.2.2.2.1 k hk
  have hb := hc.2.2.2.2.2.2 k hk
  have b24 := up24 hT.1 (bare_lt hT.1 hL.2.1)
  have hf : far T k < 1000 := by
    unfold far
    have := hL.2.2.2.2
    split
    · omega
    · split <;> omega
  have l1 := up24 hT.1 (ln_lt hT.1 (c := tP T k) (n := far T k) (ways := 15) hL.2.1)
  have l2 := up24 hT.1 (ln_lt hT.1 (c := tP T k) (n := tR T k) (ways := 15) hL.2.1)
  subst hx hy
  refine bm_go (am_ok_all 259 (by decide)) 60 ?_
  refine ⟨k, and7 (by omega), (by omega : k < 8), ?_⟩
  refine ⟨k, and7 (by omega), (by omega : k < 8), ?_⟩
  rw [hb]
  have hw5 : w = 1 ∨ w = 2 ∨ w = 3 ∨ w = 4 ∨ w = 5 := by omega
  rcases hw5 with rfl | rfl | rfl | rfl | rfl
  · first | refine And.intro (fun cd => absurd cd (by decide)) (fun _ => ?_) | refine And.intro (fun _ => ?_) (fun cd => absurd cd (by decide)) | refine And.intro (fun cd => ?_) (fun cd => ?_)
    first | refine And.intro (fun cd => absurd cd (by decide)) (fun _ => ?_) | refine And.intro (fun _ => ?_) (fun cd => absurd cd (by decide)) | refine And.intro (fun cd => ?_) (fun cd => ?_)
    first | refine And.intro (fun cd => absurd cd (by decide)) (fun _ => ?_) | refine And.intro (fun _ => ?_) (fun cd => absurd cd (by decide)) | refine And.intro (fun cd => ?_) (fun cd => ?_)
    first | refine And.intro (fun cd => absurd cd (by decide)) (fun _ => ?_) | refine And.intro (fun _ => ?_) (fun cd => absurd cd (by decide)) | refine And.intro (fun cd => ?_) (fun cd => ?_)
    exact sp_bitCount _ rfl (w24 b24) h
  · first | refine And.intro (fun cd => absurd cd (by decide)) (fun _ => ?_) | refine And.intro (fun _ => ?_) (fun cd => absurd cd (by decide)) | refine And.intro (fun cd => ?_) (fun cd => ?_)
    refine sp_bitCount _ rfl (w24 b24) ?_
    refine sp_spotOf k _ rfl (by omega) hl.2.1 (by have := hL.2.1; omega) ?_
    refine sp_farOf k (by omega) rfl hl hL ?_
    refine sp_byLines hT.1 hc.1 hL.2.1 (by decide) hf rfl rfl rfl ?_
    exact sp_bitCount _ rfl (w24 l1) h
  · first | refine And.intro (fun cd => absurd cd (by decide)) (fun _ => ?_) | refine And.intro (fun _ => ?_) (fun cd => absurd cd (by decide)) | refine And.intro (fun cd => ?_) (fun cd => ?_)
    first | refine And.intro (fun cd => absurd cd (by decide)) (fun _ => ?_) | refine And.intro (fun _ => ?_) (fun cd => absurd cd (by decide)) | refine And.intro (fun cd => ?_) (fun cd => ?_)
    refine sp_spotOf k _ rfl (by omega) hl.2.1 (by have := hL.2.1; omega) ?_
    refine sp_byLines hT.1 hc.1 hL.2.1 (by decide) (by have := hL.2.2.2.2; omega) rfl rfl hl.2.2 ?_
    refine sp_bitCount _ rfl (w24 l2) ?_
    exact sp_bitCount _ rfl (w24 b24) h
  · first | refine And.intro (fun cd => absurd cd (by decide)) (fun _ => ?_) | refine And.intro (fun _ => ?_) (fun cd => absurd cd (by decide)) | refine And.intro (fun cd => ?_) (fun cd => ?_)
    first | refine And.intro (fun cd => absurd cd (by decide)) (fun _ => ?_) | refine And.intro (fun _ => ?_) (fun cd => absurd cd (by decide)) | refine And.intro (fun cd => ?_) (fun cd => ?_)
    first | refine And.intro (fun cd => absurd cd (by decide)) (fun _ => ?_) | refine And.intro (fun _ => ?_) (fun cd => absurd cd (by decide)) | refine And.intro (fun cd => ?_) (fun cd => ?_)
    exact sp_bitCount _ rfl (w24 b24) h
  · first | refine And.intro (fun cd => absurd cd (by decide)) (fun _ => ?_) | refine And.intro (fun _ => ?_) (fun cd => absurd cd (by decide)) | refine And.intro (fun cd => ?_) (fun cd => ?_)
    first | refine And.intro (fun cd => absurd cd (by decide)) (fun _ => ?_) | refine And.intro (fun _ => ?_) (fun cd => absurd cd (by decide)) | refine And.intro (fun cd => ?_) (fun cd => ?_)
    first | refine And.intro (fun cd => absurd cd (by decide)) (fun _ => ?_) | refine And.intro (fun _ => ?_) (fun cd => absurd cd (by decide)) | refine And.intro (fun cd => ?_) (fun cd => ?_)
    first | refine And.intro (fun cd => absurd cd (by decide)) (fun _ => ?_) | refine And.intro (fun _ => ?_) (fun cd => absurd cd (by decide)) | refine And.intro (fun cd => ?_) (fun cd => ?_)
    refine sp_spotOf k _ rfl (by omega) hl.2.1 (by have := hL.2.1; omega) ?_
    refine sp_bitCount ((bare T k &&& lc T) &&& cm (1 <<< tP T k)) ?_ (and_lt _ (and_lt _ (w24 b24))) ?_
    · rw [hc.2.2.2.2.1, km1, n_cm, n_and, n_and]
    · rw [mk5 hT hk _ (w24 b24)]
      exact h
theorem pair_mark {x y : Int32} (h : Inv t I L) : bm_C G l 13 [.ref 0, .int x, .int y] t I L (pI G l 107 [.ref 61, .int x, .int y]) := by
  obtain ⟨T, sh, hc, hm, hs, a1, a2, hL, a4, hK, hS, hO, hG⟩ := h.2.2
  have hT := InvX.ok hG
  have n6 := hT.n6
  have bad : (x.toInt < 0 ∨ (tN T : Int) ≤ x.toInt ∨ y.toInt < 1 ∨ 5 < y.toInt) → bm_C G l 107 [.ref 61, .int x, .int y] t I L (fun v' t I L => v' = some (.int (-1)) ∧ Inv t I L) := by
    intro q
    refine bm_go (am_ok_all 107 (by decide)) 40 ?_
    refine sm_isLamp hT hm (fun k hk hx => ?_) (fun cd => ?_)
    · have := xn hx hk (by omega)
      first | refine And.intro (fun cd => absurd cd (by decide)) (fun _ => ?_) | refine And.intro (fun _ => ?_) (fun cd => absurd cd (by decide)) | refine And.intro (fun cd => ?_) (fun cd => ?_)
      refine sm_in y.toInt 1 5 (i64 y) rfl rfl (fun a b => by omega) (fun a => ?_)
      first | refine And.intro (fun cd => absurd cd (by decide)) (fun _ => ?_) | refine And.intro (fun _ => ?_) (fun cd => absurd cd (by decide)) | refine And.intro (fun cd => ?_) (fun cd => ?_)
      exact ⟨rfl, h⟩
    · first | refine And.intro (fun cd => absurd cd (by decide)) (fun _ => ?_) | refine And.intro (fun _ => ?_) (fun cd => absurd cd (by decide)) | refine And.intro (fun cd => ?_) (fun cd => ?_)
      exact ⟨rfl, h⟩
  refine bm_go (am_ok_all 13 (by decide)) 40 ?_
  refine sp_isLamp hT hc.2.2.2.1 (fun k hk hx => ?_) (fun cd => ?_)
  · have xr := xn hx hk (by omega)
    have hok := hT.ok hk
    have h24 := hok.1.c24
    have hLk := hok.2.2.2.2.1 k hk
    have hlk := hc.2.2.2.2.2.1 k hk
    first | refine And.intro (fun cd => absurd cd (by decide)) (fun _ => ?_) | refine And.intro (fun _ => ?_) (fun cd => absurd cd (by decide)) | refine And.intro (fun cd => ?_) (fun cd => ?_)
    refine And.intro (fun cd => ?_) (fun cd => ?_)
    · exact ⟨_, rfl, bad (by omega)⟩
    · refine And.intro (fun c2 => ?_) (fun c2 => ?_)
      · rw [T5] at c2
        have hy := of_nn (y := y) (by omega)
        have hyr : y.toInt = (y.toInt.toNat : Int) := by omega
        generalize y.toInt.toNat = w at hy hyr
        have e66 := (hm.2.2.2.2.2.2.2.2 k hk).1
        have e67 := (hm.2.2.2.2.2.2.2.2 k hk).2.1
        have e68 := (hm.2.2.2.2.2.2.2.2 k hk).2.2
        have hxk : x.toInt = (k : Int) := by rw [hx]; exact nI_toInt (by omega)
        refine sp_isOfKind (T := T) k w (by omega) hx hy (by omega) hlk.1 hLk.1 (fun e => ?_) (fun e => ?_)
        · first | refine And.intro (fun cd => absurd cd (by decide)) (fun _ => ?_) | refine And.intro (fun _ => ?_) (fun cd => absurd cd (by decide)) | refine And.intro (fun cd => ?_) (fun cd => ?_)
          refine sp_markOf k w hx hk hok hc hy (by omega) (by omega) ?_
          refine ⟨_, rfl, ?_⟩
          have b24 := up24 hok.1 (bare_lt hok.1 hLk.2.1)
          have l1 := up24 hok.1 (ln_lt hok.1 (c := tP T k) (n := far T k) (ways := 15) hLk.2.1)
          have l2 := up24 hok.1 (ln_lt hok.1 (c := tP T k) (n := tR T k) (ways := 15) hLk.2.1)
          have up31 : ∀ {a : Nat}, a < 2 ^ 24 → a < 2 ^ 31 := fun h => Nat.lt_trans h (by decide)
          subst hy
          refine bm_go (am_ok_all 107 (by decide)) 90 ?_
          refine sm_isLamp hT hm (fun k2 hk2 hx2 => ?_) (fun cd => by omega)
          first | refine And.intro (fun cd => absurd cd (by decide)) (fun _ => ?_) | refine And.intro (fun _ => ?_) (fun cd => absurd cd (by decide)) | refine And.intro (fun cd => ?_) (fun cd => ?_)
          refine sm_in _ 1 5 (i64 _) rfl rfl (fun a b => ?_) (fun a => by omega)
          first | refine And.intro (fun cd => absurd cd (by decide)) (fun _ => ?_) | refine And.intro (fun _ => ?_) (fun cd => absurd cd (by decide)) | refine And.intro (fun cd => ?_) (fun cd => ?_)
          refine ⟨k, hxk, (by omega : k < 6), ?_⟩
          rw [e66]
          have go : ∀ (Q2 : bm_P), Q2 (some (.int (nI (bare T k)))) t I L → bm_C G l 96 [.ref 61, .int x] t I L Q2 := fun Q2 q => sm_bare k (by omega) hx hok.1 hm hk hLk q
          have hfar : ∀ (o : Nat), tK T k = o → far T k = if o = 1 ∨ o = 5 then tR T k + 1 else if o = 4 then tR T k - 1 else tR T k := fun o e => by unfold far; rw [e]
          have r5 := hLk.2.2.2.2
          have hw5 : w = 1 ∨ w = 2 ∨ w = 3 ∨ w = 4 ∨ w = 5 := by omega
          have hk5 : tK T k = 0 ∨ tK T k = 1 ∨ tK T k = 2 ∨ tK T k = 3 ∨ tK T k = 4 ∨ tK T k = 5 := by have := hLk.1; omega
          rcases hw5 with rfl | rfl | rfl | rfl | rfl
          · obtain e9 : tK T k = 1 := by rcases hk5 with e9 | e9 | e9 | e9 | e9 | e9 <;> rw [e9] at e <;> first | exact e9 | exact absurd e (by decide)
            rw [e9]
            first | refine And.intro (fun cd => absurd cd (by decide)) (fun _ => ?_) | refine And.intro (fun _ => ?_) (fun cd => absurd cd (by decide)) | refine And.intro (fun cd => ?_) (fun cd => ?_)
            refine go _ ?_
            refine sm_size _ rfl (up31 b24) ?_
            repeat (first | refine And.intro (fun cd => absurd cd (by decide)) (fun _ => ?_) | refine And.intro (fun _ => ?_) (fun cd => absurd cd (by decide)))
            exact ⟨rfl, h⟩
          · obtain e9 | e9 : tK T k = 2 ∨ tK T k = 5 := by rcases hk5 with e9 | e9 | e9 | e9 | e9 | e9 <;> rw [e9] at e <;> first | exact Or.inl e9 | exact Or.inr e9 | exact absurd e (by decide)
            · rw [e9]
              repeat (first | refine And.intro (fun cd => absurd cd (by decide)) (fun _ => ?_) | refine And.intro (fun _ => ?_) (fun cd => absurd cd (by decide)))
              refine go _ ?_
              refine sm_size _ rfl (up31 b24) ?_
              first | refine And.intro (fun cd => absurd cd (by decide)) (fun _ => ?_) | refine And.intro (fun _ => ?_) (fun cd => absurd cd (by decide)) | refine And.intro (fun cd => ?_) (fun cd => ?_)
              refine ⟨k, hxk, (by omega : k < 6), ?_⟩
              refine ⟨k, hxk, (by omega : k < 6), ?_⟩
              first | refine And.intro (fun cd => absurd cd (by decide)) (fun _ => ?_) | refine And.intro (fun _ => ?_) (fun cd => absurd cd (by decide)) | refine And.intro (fun cd => ?_) (fun cd => ?_)
              refine sm_lines (tP T k) (far T k) true hok.1 hm e67 hLk.2.1 (by rw [hfar 2 e9, e68, k0, nI_add]; rfl) (by rw [hfar 2 e9, if_neg (by decide), if_neg (by decide)]; omega) ?_
              refine sm_size _ rfl (up31 l1) ?_
              exact ⟨rfl, h⟩
            · rw [e9]
              repeat (first | refine And.intro (fun cd => absurd cd (by decide)) (fun _ => ?_) | refine And.intro (fun _ => ?_) (fun cd => absurd cd (by decide)))
              refine go _ ?_
              refine sm_size _ rfl (up31 b24) ?_
              first | refine And.intro (fun cd => absurd cd (by decide)) (fun _ => ?_) | refine And.intro (fun _ => ?_) (fun cd => absurd cd (by decide)) | refine And.intro (fun cd => ?_) (fun cd => ?_)
              refine ⟨k, hxk, (by omega : k < 6), ?_⟩
              refine ⟨k, hxk, (by omega : k < 6), ?_⟩
              first | refine And.intro (fun cd => absurd cd (by decide)) (fun _ => ?_) | refine And.intro (fun _ => ?_) (fun cd => absurd cd (by decide)) | refine And.intro (fun cd => ?_) (fun cd => ?_)
              refine sm_lines (tP T k) (far T k) true hok.1 hm e67 hLk.2.1 (by rw [hfar 5 e9, e68, k1, nI_add]; rfl) (by rw [hfar 5 e9, if_pos (by decide)]; omega) ?_
              refine sm_size _ rfl (up31 l1) ?_
              exact ⟨rfl, h⟩
          · have e9 : tK T k = 3 ∨ tK T k = 4 := by rcases hk5 with e9 | e9 | e9 | e9 | e9 | e9 <;> rw [e9] at e <;> first | exact Or.inl e9 | exact Or.inr e9 | exact absurd e (by decide)
            rcases e9 with e9 | e9
            all_goals
              rw [e9]
              repeat (first | refine And.intro (fun cd => absurd cd (by decide)) (fun _ => ?_) | refine And.intro (fun _ => ?_) (fun cd => absurd cd (by decide)))
              refine go _ ?_
              refine sm_size _ rfl (up31 b24) ?_
              repeat (first | refine And.intro (fun cd => absurd cd (by decide)) (fun _ => ?_) | refine And.intro (fun _ => ?_) (fun cd => absurd cd (by decide)))
              refine ⟨k, hxk, (by omega : k < 6), ?_⟩
              refine ⟨k, hxk, (by omega : k < 6), ?_⟩
              refine sm_lines (tP T k) (tR T k) true hok.1 hm e67 hLk.2.1 e68 (by omega) ?_
              refine sm_size _ rfl (up31 l2) ?_
              exact ⟨rfl, h⟩
          · obtain e9 : tK T k = 4 := by rcases hk5 with e9 | e9 | e9 | e9 | e9 | e9 <;> rw [e9] at e <;> first | exact e9 | exact absurd e (by decide)
            rw [e9]
            first | refine And.intro (fun cd => absurd cd (by decide)) (fun _ => ?_) | refine And.intro (fun _ => ?_) (fun cd => absurd cd (by decide)) | refine And.intro (fun cd => ?_) (fun cd => ?_)
            refine go _ ?_
            refine sm_size _ rfl (up31 b24) ?_
            repeat (first | refine And.intro (fun cd => absurd cd (by decide)) (fun _ => ?_) | refine And.intro (fun _ => ?_) (fun cd => absurd cd (by decide)))
            exact ⟨rfl, h⟩
          · obtain e9 : tK T k = 5 := by rcases hk5 with e9 | e9 | e9 | e9 | e9 | e9 <;> rw [e9] at e <;> first | exact e9 | exact absurd e (by decide)
            rw [e9]
            first | refine And.intro (fun cd => absurd cd (by decide)) (fun _ => ?_) | refine And.intro (fun _ => ?_) (fun cd => absurd cd (by decide)) | refine And.intro (fun cd => ?_) (fun cd => ?_)
            refine go _ ?_
            refine sm_size _ rfl (up31 b24) ?_
            repeat (first | refine And.intro (fun cd => absurd cd (by decide)) (fun _ => ?_) | refine And.intro (fun _ => ?_) (fun cd => absurd cd (by decide)))
            refine go _ ?_
            refine sm_lampsIn _ k rfl (up31 b24) hx (by omega) hT hm ?_
            refine sm_size _ rfl (by have := lt6 n6 (bO_lt (tN T) (fun j => j != k && (bare T k).testBit (tP T j))); omega) ?_
            exact ⟨rfl, h⟩
        · first | refine And.intro (fun cd => absurd cd (by decide)) (fun _ => ?_) | refine And.intro (fun _ => ?_) (fun cd => absurd cd (by decide)) | refine And.intro (fun cd => ?_) (fun cd => ?_)
          refine sp_found 3 rfl (by decide) ?_
          refine ⟨_, rfl, ?_⟩
          generalize hI' : am_u (am_u I 36 3 3) 37 3 (I 37 3 + 1) = I'
          have e61 : ∀ x, x ≠ 36 → x ≠ 37 → I' x = I x := fun x h1 h2 => by rw [← hI', fd h2 h1]
          have hm' : mT T I' := by unfold mT; rw [e61 61 (by decide) (by decide), e61 66 (by decide) (by decide), e61 67 (by decide) (by decide), e61 68 (by decide) (by decide)]; exact hm
          have e66' : I' 66 k = nI (tK T k) := by rw [e61 66 (by decide) (by decide)]; exact e66
          have fin : bm_C G l 65 [.ref 61, .int 3] t I' L (fun v' t I L => v' = some (.int (-3)) ∧ Inv t I L) := by
            refine sm_finds 3 rfl (by decide) ?_
            rw [← hI']
            exact ⟨rfl, h.find (by decide) (by decide) 3⟩
          have fin2 : ∀ Q2 : bm_P, Q2 = (fun v' t I L => v' = some (.int (-3)) ∧ Inv t I L) → bm_C G l 65 [.ref 61, .int 3] t I' L Q2 := fun Q2 e => by rw [e]; exact fin
          subst hy
          refine bm_go (am_ok_all 107 (by decide)) 60 ?_
          refine sm_isLamp hT hm' (fun k2 hk2 hx2 => ?_) (fun cd => by omega)
          first | refine And.intro (fun cd => absurd cd (by decide)) (fun _ => ?_) | refine And.intro (fun _ => ?_) (fun cd => absurd cd (by decide)) | refine And.intro (fun cd => ?_) (fun cd => ?_)
          refine sm_in _ 1 5 (i64 _) rfl rfl (fun a b => ?_) (fun a => by omega)
          first | refine And.intro (fun cd => absurd cd (by decide)) (fun _ => ?_) | refine And.intro (fun _ => ?_) (fun cd => absurd cd (by decide)) | refine And.intro (fun cd => ?_) (fun cd => ?_)
          refine ⟨k, hxk, (by omega : k < 6), ?_⟩
          rw [e66']
          have hw5 : w = 1 ∨ w = 2 ∨ w = 3 ∨ w = 4 ∨ w = 5 := by omega
          have hk5 : tK T k = 0 ∨ tK T k = 1 ∨ tK T k = 2 ∨ tK T k = 3 ∨ tK T k = 4 ∨ tK T k = 5 := by have := hLk.1; omega
          rcases hw5 with rfl | rfl | rfl | rfl | rfl <;> rcases hk5 with e9 | e9 | e9 | e9 | e9 | e9 <;> rw [e9] at e ⊢ <;> first
            | exact absurd e (by decide)
            | (repeat (first | refine And.intro (fun cd => absurd cd (by decide)) (fun _ => ?_) | refine And.intro (fun _ => ?_) (fun cd => absurd cd (by decide)))
               refine sm_finds 3 rfl (by decide) ?_
               rw [← hI']
               exact ⟨rfl, h.find (by decide) (by decide) 3⟩)
      · rw [T5] at c2
        exact ⟨_, rfl, bad (by omega)⟩
  · first | refine And.intro (fun cd => absurd cd (by decide)) (fun _ => ?_) | refine And.intro (fun _ => ?_) (fun cd => absurd cd (by decide)) | refine And.intro (fun cd => ?_) (fun cd => ?_)
    exact ⟨_, rfl, bad (by omega)⟩
end PM

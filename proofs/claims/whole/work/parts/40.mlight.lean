/-! the reference: light, who stands where -/
theorem n_bit {s j : Nat} (hs : s < 2 ^ 31) (hj : j < 32) : (nI s >>> (nI j &&& 31)) &&& 1 = nI (if s.testBit j then 1 else 0) := by
  rw [n_shr hs hj, k1, n_and, tb_sh1]
section MG
variable {G : am_G} {l : Launch} {t : am_T} {I : am_I} {L : am_J} {Q : bm_P}
theorem sm_bare {T : tT} {x : Int32} (k : Nat) (hk : k < 6) (hx : x = nI k) (hT : tG T) (hm : mT T I) (hl : k < tN T) (hL : tLp T k) (h : Q (some (.int (nI (bare T k)))) t I L) : bm_C G l 96 [.ref 61, .int x] t I L Q := by
  subst hx
  obtain ⟨h1, h2, h3⟩ := hm.2.2.2.2.2.2.2.2 k hl
  obtain ⟨g1, g2, g3, g4, g5⟩ := hL
  have e := nI_toInt (n := k) (by omega)
  have f1 : I 68 k + 1 = nI (tR T k + 1) := by rw [h3, nI_succ]
  have f2 : I 68 k - 1 = nI (tR T k - 1) := by rw [h3, k1, pk_sub g4]
  refine bm_go (am_ok_all 96 (by decide)) 40 ?_
  refine ⟨k, e, hk, ?_⟩
  refine ⟨k, e, hk, ?_⟩
  refine ⟨k, e, hk, ?_⟩
  rw [h1]
  unfold bare far at h
  have hK : tK T k = 0 ∨ tK T k = 1 ∨ tK T k = 2 ∨ tK T k = 3 ∨ tK T k = 4 ∨ tK T k = 5 := by omega
  rcases hK with e | e | e | e | e | e <;> rw [e] at h ⊢
  · rw [if_neg (by decide), if_neg (by decide), if_neg (by decide), if_neg (by decide)] at h
    first | refine And.intro (fun cd => absurd cd (by decide)) (fun _ => ?_) | refine And.intro (fun _ => ?_) (fun cd => absurd cd (by decide)) | refine And.intro (fun cd => ?_) (fun cd => ?_)
    exact sm_lines (tP T k) (tR T k) true hT hm h2 g2 h3 (by omega) h
  · rw [if_neg (by decide), if_pos (by decide), if_neg (by decide)] at h
    first | refine And.intro (fun cd => absurd cd (by decide)) (fun _ => ?_) | refine And.intro (fun _ => ?_) (fun cd => absurd cd (by decide)) | refine And.intro (fun cd => ?_) (fun cd => ?_)
    first | refine And.intro (fun cd => absurd cd (by decide)) (fun _ => ?_) | refine And.intro (fun _ => ?_) (fun cd => absurd cd (by decide)) | refine And.intro (fun cd => ?_) (fun cd => ?_)
    exact sm_lines (tP T k) (tR T k + 1) true hT hm h2 g2 f1 (by omega) h
  · rw [if_pos (by decide), if_neg (by decide), if_neg (by decide)] at h
    first | refine And.intro (fun cd => absurd cd (by decide)) (fun _ => ?_) | refine And.intro (fun _ => ?_) (fun cd => absurd cd (by decide)) | refine And.intro (fun cd => ?_) (fun cd => ?_)
    first | refine And.intro (fun cd => absurd cd (by decide)) (fun _ => ?_) | refine And.intro (fun _ => ?_) (fun cd => absurd cd (by decide)) | refine And.intro (fun cd => ?_) (fun cd => ?_)
    first | refine And.intro (fun cd => absurd cd (by decide)) (fun _ => ?_) | refine And.intro (fun _ => ?_) (fun cd => absurd cd (by decide)) | refine And.intro (fun cd => ?_) (fun cd => ?_)
    exact sm_corners (tP T k) (tR T k) hT hm h2 g2 g3 h3 (by omega) h
  · rw [if_neg (by decide), if_neg (by decide), if_neg (by decide), if_pos (by decide)] at h
    first | refine And.intro (fun cd => absurd cd (by decide)) (fun _ => ?_) | refine And.intro (fun _ => ?_) (fun cd => absurd cd (by decide)) | refine And.intro (fun cd => ?_) (fun cd => ?_)
    first | refine And.intro (fun cd => absurd cd (by decide)) (fun _ => ?_) | refine And.intro (fun _ => ?_) (fun cd => absurd cd (by decide)) | refine And.intro (fun cd => ?_) (fun cd => ?_)
    first | refine And.intro (fun cd => absurd cd (by decide)) (fun _ => ?_) | refine And.intro (fun _ => ?_) (fun cd => absurd cd (by decide)) | refine And.intro (fun cd => ?_) (fun cd => ?_)
    first | refine And.intro (fun cd => absurd cd (by decide)) (fun _ => ?_) | refine And.intro (fun _ => ?_) (fun cd => absurd cd (by decide)) | refine And.intro (fun cd => ?_) (fun cd => ?_)
    exact sm_lines (tP T k) (tR T k) false hT hm h2 g2 h3 (by omega) h
  · rw [if_neg (by decide), if_neg (by decide), if_pos (by decide), if_pos (by decide)] at h
    first | refine And.intro (fun cd => absurd cd (by decide)) (fun _ => ?_) | refine And.intro (fun _ => ?_) (fun cd => absurd cd (by decide)) | refine And.intro (fun cd => ?_) (fun cd => ?_)
    first | refine And.intro (fun cd => absurd cd (by decide)) (fun _ => ?_) | refine And.intro (fun _ => ?_) (fun cd => absurd cd (by decide)) | refine And.intro (fun cd => ?_) (fun cd => ?_)
    first | refine And.intro (fun cd => absurd cd (by decide)) (fun _ => ?_) | refine And.intro (fun _ => ?_) (fun cd => absurd cd (by decide)) | refine And.intro (fun cd => ?_) (fun cd => ?_)
    first | refine And.intro (fun cd => absurd cd (by decide)) (fun _ => ?_) | refine And.intro (fun _ => ?_) (fun cd => absurd cd (by decide)) | refine And.intro (fun cd => ?_) (fun cd => ?_)
    first | refine And.intro (fun cd => absurd cd (by decide)) (fun _ => ?_) | refine And.intro (fun _ => ?_) (fun cd => absurd cd (by decide)) | refine And.intro (fun cd => ?_) (fun cd => ?_)
    exact sm_lines (tP T k) (tR T k - 1) false hT hm h2 g2 f2 (by omega) h
  · rw [if_pos (by decide), if_pos (by decide)] at h
    first | refine And.intro (fun cd => absurd cd (by decide)) (fun _ => ?_) | refine And.intro (fun _ => ?_) (fun cd => absurd cd (by decide)) | refine And.intro (fun cd => ?_) (fun cd => ?_)
    first | refine And.intro (fun cd => absurd cd (by decide)) (fun _ => ?_) | refine And.intro (fun _ => ?_) (fun cd => absurd cd (by decide)) | refine And.intro (fun cd => ?_) (fun cd => ?_)
    first | refine And.intro (fun cd => absurd cd (by decide)) (fun _ => ?_) | refine And.intro (fun _ => ?_) (fun cd => absurd cd (by decide)) | refine And.intro (fun cd => ?_) (fun cd => ?_)
    first | refine And.intro (fun cd => absurd cd (by decide)) (fun _ => ?_) | refine And.intro (fun _ => ?_) (fun cd => absurd cd (by decide)) | refine And.intro (fun cd => ?_) (fun cd => ?_)
    first | refine And.intro (fun cd => absurd cd (by decide)) (fun _ => ?_) | refine And.intro (fun _ => ?_) (fun cd => absurd cd (by decide)) | refine And.intro (fun cd => ?_) (fun cd => ?_)
    exact sm_corners (tP T k) (tR T k + 1) hT hm h2 g2 g3 f1 (by omega) h
theorem sm_shine {T : tT} {x : Int32} (sh k : Nat) (hx : x = nI k) (hT : tOk T) (hm : mT T I) (hsh : I 61 19 = nI sh) (hs : sh < 2 ^ 31) (hl : k < tN T) (h : Q (some (.int (nI (shn T sh k)))) t I L) : bm_C G l 97 [.ref 61, .int x] t I L Q := by
  subst hx
  have n6 := hT.2.2.2.1
  have h24 := hT.1.c24
  have hL := hT.2.2.2.2.1 k hl
  have hp := hL.2.1
  have hb := n_bit (j := k) hs (by omega)
  rw [← hsh] at hb
  unfold shn at h
  refine bm_go (am_ok_all 97 (by decide)) 40 ?_
  cases e : sh.testBit k with
  | true =>
    rw [e] at hb h
    refine And.intro (fun cd => absurd (by rw [hb]; rfl) cd) (fun cd => ?_)
    refine ⟨k, nI_toInt (by omega), (by omega : k < 6), ?_⟩
    rw [if_pos rfl, ← shl1 (by omega), ← (hm.2.2.2.2.2.2.2.2 k hl).2.1] at h
    exact h
  | false =>
    rw [e] at hb h
    refine And.intro (fun cd => ?_) (fun cd => ?_)
    · rw [if_neg (by decide)] at h
      exact sm_bare k (by omega) rfl hT.1 hm hl hL h
    · rw [hb] at cd
      exact absurd cd (by decide)
theorem sm_lightOf {T : tT} {x : Int32} (sh s : Nat) (hx : x = nI s) (hs : s < 2 ^ 31) (hT : tOK T) (hm : mT T I) (hsh : I 61 19 = nI sh) (hs2 : sh < 2 ^ 31) (h : Q (some (.int (nI (lit T sh s)))) t I L) : bm_C G l 98 [.ref 61, .int x] t I L Q := by
  subst hx
  have n6 := hT.n6
  have hn := hm.2.2.2.1
  have lp : ∀ d k y m, tN T - k = d → k ≤ tN T → y = nI k → m = nI (orN k (fun k => if s.testBit k then shn T sh k else 0)) → bm_W G l 98 4 [some (.ref 61), some (.int (nI s)), some (.int m), some (.int y)] [] t I L Q := by
    intro d
    induction d with
    | zero =>
      intro k y m hd hk hy hm
      obtain rfl : k = tN T := by omega
      subst hy hm
      refine bm_go (am_ok_all 98 (by decide)) 20 ?_
      refine And.intro (fun cd => h) (fun cd => ?_)
      simp (disch := omega) only [nI_toInt, T0, T1, T2, T3, T4, T5, T6, T7, T8, T9, T10, T15, T24, T32, T48, T60, T63, T64, T80, T200, T384, T1000, TN, TP, Tm1, Tm9, hn] at cd
      omega
    | succ d ih =>
      intro k y m hd hk hy hmm
      subst hy hmm
      have hok := hT.ok (k := k) (by omega)
      have hb := n_bit (j := k) hs (by omega)
      refine bm_go (am_ok_all 98 (by decide)) 30 ?_
      refine And.intro (fun cd => ?_) (fun cd => ?_)
      · simp (disch := omega) only [nI_toInt, T0, T1, T2, T3, T4, T5, T6, T7, T8, T9, T10, T15, T24, T32, T48, T60, T63, T64, T80, T200, T384, T1000, TN, TP, Tm1, Tm9, hn] at cd
        omega
      · cases e : s.testBit k with
        | true =>
          rw [e] at hb
          refine And.intro (fun cd => absurd (by rw [hb]; rfl) cd) (fun cd => ?_)
          refine sm_shine sh k rfl hok hm hsh hs2 (by omega) ?_
          refine ih (k + 1) _ _ (by omega) (by omega) (nI_succ k).symm ?_
          rw [n_or, orN_s, e]
          rfl
        | false =>
          rw [e] at hb
          refine And.intro (fun cd => ?_) (fun cd => ?_)
          · refine ih (k + 1) _ _ (by omega) (by omega) (nI_succ k).symm ?_
            rw [k0, n_or, orN_s, e]
            rfl
          · rw [hb] at cd
            exact absurd cd (by decide)
  refine bm_go (am_ok_all 98 (by decide)) 20 ?_
  exact lp (tN T) 0 _ _ rfl (by omega) rfl rfl
theorem sm_lampsIn {T : tT} {x y : Int32} (li b : Nat) (hx : x = nI li) (hs : li < 2 ^ 31) (hy : y = nI b) (hb : b < 1000) (hT : tOK T) (hm : mT T I) (h : Q (some (.int (nI (bO (tN T) (fun j => j != b && li.testBit (tP T j)))))) t I L) : bm_C G l 108 [.ref 61, .int x, .int y] t I L Q := by
  subst hx hy
  have n6 := hT.n6
  have hn := hm.2.2.2.1
  have lp : ∀ d k y m, tN T - k = d → k ≤ tN T → y = nI k → m = nI (bO k (fun j => j != b && li.testBit (tP T j))) → bm_W G l 108 5 [some (.ref 61), some (.int (nI li)), some (.int (nI b)), some (.int m), some (.int y)] [] t I L Q := by
    intro d
    induction d with
    | zero =>
      intro k y m hd hk hy hm
      obtain rfl : k = tN T := by omega
      subst hy hm
      refine bm_go (am_ok_all 108 (by decide)) 20 ?_
      refine And.intro (fun cd => h) (fun cd => ?_)
      simp (disch := omega) only [nI_toInt, T0, T1, T2, T3, T4, T5, T6, T7, T8, T9, T10, T15, T24, T32, T48, T60, T63, T64, T80, T200, T384, T1000, TN, TP, Tm1, Tm9, hn] at cd
      omega
    | succ d ih =>
      intro k y m hd hk hy hmm
      subst hy hmm
      have hok := hT.ok (k := k) (by omega)
      have hp := (hok.2.2.2.2.1 k (by omega)).2.1
      have h24 := hok.1.c24
      have hbt := n_bit (j := tP T k) hs (by omega)
      rw [← (hm.2.2.2.2.2.2.2.2 k (by omega)).2.1] at hbt
      refine bm_go (am_ok_all 108 (by decide)) 40 ?_
      refine And.intro (fun cd => ?_) (fun cd => ?_)
      · simp (disch := omega) only [nI_toInt, T0, T1, T2, T3, T4, T5, T6, T7, T8, T9, T10, T15, T24, T32, T48, T60, T63, T64, T80, T200, T384, T1000, TN, TP, Tm1, Tm9, hn] at cd
        omega
      · refine And.intro (fun cd => ?_) (fun cd => ?_)
        · simp (disch := omega) only [nI_toInt, T0, T1, T2, T3, T4, T5, T6, T7, T8, T9, T10, T15, T24, T32, T48, T60, T63, T64, T80, T200, T384, T1000, TN, TP, Tm1, Tm9] at cd
          have e : k = b := by omega
          refine ih (k + 1) _ _ (by omega) (by omega) (nI_succ k).symm ?_
          rw [bO_s, k0, n_or]
          simp [e]
        · have e : k ≠ b := fun q => cd (by rw [q])
          refine ⟨k, nI_toInt (by omega), (by omega : k < 6), ?_⟩
          cases e2 : li.testBit (tP T k) with
          | true =>
            rw [e2] at hbt
            refine And.intro (fun cd => absurd (by rw [hbt]; rfl) cd) (fun cd => ?_)
            refine ih (k + 1) _ _ (by omega) (by omega) (nI_succ k).symm ?_
            rw [bO_s, shl1 (by omega), n_or, e2]
            simp [e]
          | false =>
            rw [e2] at hbt
            refine And.intro (fun cd => ?_) (fun cd => ?_)
            · refine ih (k + 1) _ _ (by omega) (by omega) (nI_succ k).symm ?_
              rw [bO_s, k0, n_or, e2]
              simp
            · rw [hbt] at cd
              exact absurd cd (by decide)
  refine bm_go (am_ok_all 108 (by decide)) 20 ?_
  exact lp (tN T) 0 _ _ rfl (by omega) rfl rfl
theorem sm_lampIn {T : tT} {x : Int32} (c : Nat) (hx : x = nI c) (hc : c < 1000) (hT : tOK T) (hm : mT T I) (h1 : ∀ k, k < tN T → tP T k = c → Q (some (.int (nI k))) t I L) (h0 : (∀ k, k < tN T → tP T k ≠ c) → Q (some (.int (-9))) t I L) : bm_C G l 102 [.ref 61, .int x] t I L Q := by
  subst hx
  have n6 := hT.n6
  have hn := hm.2.2.2.1
  have lp : ∀ d k y m, tN T - k = d → k ≤ tN T → y = nI k → ((m = -9 ∧ ∀ j, j < k → tP T j ≠ c) ∨ ∃ j, j < k ∧ tP T j = c ∧ m = nI j) → bm_W G l 102 5 [some (.ref 61), some (.int (nI c)), some (.int m), some (.int y)] [] t I L Q := by
    intro d
    induction d with
    | zero =>
      intro k y m hd hk hy hmm
      obtain rfl : k = tN T := by omega
      subst hy
      refine bm_go (am_ok_all 102 (by decide)) 20 ?_
      refine And.intro (fun cd => ?_) (fun cd => ?_)
      · rcases hmm with ⟨rfl, q⟩ | ⟨j, hj, q, rfl⟩
        · exact h0 q
        · exact h1 j hj q
      · simp (disch := omega) only [nI_toInt, T0, T1, T2, T3, T4, T5, T6, T7, T8, T9, T10, T15, T24, T32, T48, T60, T63, T64, T80, T200, T384, T1000, TN, TP, Tm1, Tm9, hn] at cd
        omega
    | succ d ih =>
      intro k y m hd hk hy hmm
      subst hy
      have hok := hT.ok (k := k) (by omega)
      have hp := (hok.2.2.2.2.1 k (by omega)).2.1
      have h24 := hok.1.c24
      have hI := (hm.2.2.2.2.2.2.2.2 k (by omega)).2.1
      refine bm_go (am_ok_all 102 (by decide)) 40 ?_
      refine And.intro (fun cd => ?_) (fun cd => ?_)
      · simp (disch := omega) only [nI_toInt, T0, T1, T2, T3, T4, T5, T6, T7, T8, T9, T10, T15, T24, T32, T48, T60, T63, T64, T80, T200, T384, T1000, TN, TP, Tm1, Tm9, hn] at cd
        omega
      · refine ⟨k, nI_toInt (by omega), (by omega : k < 6), ?_⟩
        refine And.intro (fun cd => ?_) (fun cd => ?_)
        · have e : tP T k ≠ c := fun e => cd (by rw [hI, e])
          refine ih (k + 1) _ _ (by omega) (by omega) (nI_succ k).symm ?_
          rcases hmm with ⟨rfl, q⟩ | ⟨j, hj, q, rfl⟩
          · refine Or.inl ⟨rfl, fun j hj => ?_⟩
            by_cases e2 : j = k
            · subst e2; exact e
            · exact q j (by omega)
          · exact Or.inr ⟨j, by omega, q, rfl⟩
        · rw [hI] at cd
          simp (disch := omega) only [nI_toInt, T0, T1, T2, T3, T4, T5, T6, T7, T8, T9, T10, T15, T24, T32, T48, T60, T63, T64, T80, T200, T384, T1000, TN, TP, Tm1, Tm9] at cd
          exact ih (k + 1) _ _ (by omega) (by omega) (nI_succ k).symm (Or.inr ⟨k, by omega, by omega, rfl⟩)
  refine bm_go (am_ok_all 102 (by decide)) 20 ?_
  exact lp (tN T) 0 _ _ rfl (by omega) rfl (Or.inl ⟨rfl, fun j hj => by omega⟩)
theorem sm_what {T : tT} {x : Int32} (c : Nat) (hx : x = nI c) (hT : tOk T) (hm : mT T I) (hc : c < tC T) (h : Q (some (.int (if c = tD T then 2 else if (tS T).testBit c then 0 else 1))) t I L) : bm_C G l 103 [.ref 61, .int x] t I L Q := by
  subst hx
  have h24 := hT.1.c24
  have hD := hT.2.1
  obtain ⟨-, -, -, -, m5, m6, -⟩ := hm
  have hb := n_bit (s := tS T) (j := c) (Nat.lt_trans hT.1.s24 (by decide)) (by omega)
  rw [← m6] at hb
  refine bm_go (am_ok_all 103 (by decide)) 30 ?_
  refine And.intro (fun cd => ?_) (fun cd => ?_)
  · rw [if_neg (fun e => cd (by rw [e, m5]))] at h
    cases e : (tS T).testBit c with
    | true =>
      rw [e] at hb h
      refine And.intro (fun cd => absurd (by rw [hb]; rfl) cd) (fun cd => h)
    | false =>
      rw [e] at hb h
      refine And.intro (fun cd => h) (fun cd => ?_)
      rw [hb] at cd
      exact absurd cd (by decide)
  · rw [m5] at cd
    simp (disch := omega) only [nI_toInt, T0, T1, T2, T3, T4, T5, T6, T7, T8, T9, T10, T15, T24, T32, T48, T60, T63, T64, T80, T200, T384, T1000, TN, TP, Tm1, Tm9] at cd
    rw [if_pos (by omega)] at h
    exact h
theorem n1_64 {x : Int32} {n : Nat} (h : x = nI n) (hn : n < 2 ^ 31) : (x - 1).toInt64.toInt = (n : Int) - 1 := by
  rw [i64]
  exact subI _ _ (by rw [h]; exact nI_toInt hn) T1 (by omega) (by omega)
theorem sm_isLamp {T : tT} {x : Int32} (hT : tOK T) (hm : mT T I) (h1 : ∀ k, k < tN T → x = nI k → Q (some (.int 1)) t I L) (h0 : (x.toInt < 0 ∨ (tN T : Int) ≤ x.toInt) → Q (some (.int 0)) t I L) : bm_C G l 100 [.ref 61, .int x] t I L Q := by
  have n6 := hT.n6
  refine bm_go (am_ok_all 100 (by decide)) 20 ?_
  refine sm_in x.toInt 0 _ (i64 x) rfl (n1_64 hm.2.2.2.1 (by omega)) (fun a b => ⟨Or.inr rfl, h1 x.toInt.toNat (by omega) (of_nn a)⟩) (fun a => ⟨Or.inl rfl, h0 (by omega)⟩)
theorem sm_isCell {T : tT} {x : Int32} (hT : tOK T) (hm : mT T I) (h1 : ∀ k, k < tC T → x = nI k → Q (some (.int 1)) t I L) (h0 : (x.toInt < 0 ∨ (tC T : Int) ≤ x.toInt) → Q (some (.int 0)) t I L) : bm_C G l 99 [.ref 61, .int x] t I L Q := by
  have c24 : tC T ≤ 24 := by
    rcases hT with h | h
    · exact h.1.c24
    · unfold tC; rw [h.1]; omega
  refine bm_go (am_ok_all 99 (by decide)) 20 ?_
  refine sm_in x.toInt 0 _ (i64 x) rfl (n1_64 hm.2.2.1 (by omega)) (fun a b => ⟨Or.inr rfl, h1 x.toInt.toNat (by omega) (of_nn a)⟩) (fun a => ⟨Or.inl rfl, h0 (by omega)⟩)
theorem sm_isSet {T : tT} {x : Int32} (hT : tOK T) (hm : mT T I) (h1 : ∀ s, s < 2 ^ tN T → x = nI s → Q (some (.int 1)) t I L) (h0 : (x.toInt < 0 ∨ ((2 ^ tN T : Nat) : Int) ≤ x.toInt) → Q (some (.int 0)) t I L) : bm_C G l 101 [.ref 61, .int x] t I L Q := by
  have n6 := hT.n6
  have p6 := Nat.pow_le_pow_right (n := 2) (by decide) n6
  have e : (1 : Int32) <<< (I 61 14 &&& 31) = nI (2 ^ tN T) := by rw [hm.2.2.2.1, shl1 (by omega), n_one]
  generalize hp : 2 ^ tN T = p at *
  refine bm_go (am_ok_all 101 (by decide)) 20 ?_
  refine sm_in x.toInt 0 _ (i64 x) rfl (n1_64 e (by omega)) (fun a b => ⟨Or.inr rfl, h1 x.toInt.toNat (by omega) (of_nn a)⟩) (fun a => ⟨Or.inl rfl, h0 (by omega)⟩)
end MG

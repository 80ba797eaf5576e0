/-! the class: the table of lights; rings -/
theorem lit_or {T : tT} (sh : Nat) {s k : Nat} (hs : s < 2 ^ k) : lit T sh (s + 2 ^ k) = lit T sh s ||| (if k < tN T then shn T sh k else 0) := by
  have hb : ∀ j, (s + 2 ^ k).testBit j = (s.testBit j || decide (k = j)) := by
    intro j
    have e := Nat.two_pow_add_eq_or_of_lt hs 1
    rw [Nat.mul_one] at e
    rw [Nat.add_comm, e, Nat.testBit_or, Nat.testBit_two_pow, Bool.or_comm]
  apply Nat.eq_of_testBit_eq
  intro i
  rw [Bool.eq_iff_iff, Nat.testBit_or, Bool.or_eq_true]
  unfold lit
  rw [tb_orN, tb_orN]
  constructor
  · rintro ⟨j, hj, h⟩
    rw [hb] at h
    by_cases e : k = j
    · subst e
      right
      rw [if_pos hj]
      by_cases q : (s.testBit k || decide (k = k)) = true
      · rw [if_pos q] at h; exact h
      · simp at q
    · left
      simp only [e, decide_false, Bool.or_false] at h
      exact ⟨j, hj, h⟩
  · rintro (⟨j, hj, h⟩ | h)
    · refine ⟨j, hj, ?_⟩
      rw [hb]
      by_cases q : s.testBit j = true
      · rw [if_pos q] at h
        rw [q]
        exact h
      · rw [if_neg q] at h
        simp at h
    · by_cases hk : k < tN T
      · rw [if_pos hk] at h
        refine ⟨k, hk, ?_⟩
        rw [hb]
        simpa using h
      · rw [if_neg hk] at h
        simp at h
theorem lit_0 (T : tT) (sh : Nat) : lit T sh 0 = 0 := by
  unfold lit
  rw [orN_cong (g := fun _ => 0) (fun i _ => by simp), orN_0]
theorem p2_6 {k : Nat} (h : k < 6) : 2 ^ k * 2 ≤ 64 := by
  have := Nat.pow_le_pow_right (n := 2) (by decide) (show k + 1 ≤ 6 by omega)
  rw [Nat.pow_succ] at this
  omega
section LF
variable {G : am_G} {l : Launch} {t : am_T} {I : am_I} {L : am_J} {Q : bm_P}
theorem sp_settle_12 {T : tT} {x : Int32} (sh : Nat) (hT : tOK T) (hc : cT T I) (hx : x = nI sh) (hsh : sh < 64) (h0 : I (12 + 1) 0 = nI 0)
    (h : ∀ I', frN [12 + 1] I I' → cL T sh (12 + 1) I' → Q none t I' L) : bm_C G l 172 [.ref 12, .ref 7, .int x] t I L Q := by
  subst hx
  have n6 := hT.n6
  obtain ⟨-, -, -, hn, -, hl, hb⟩ := hc
  have inn : ∀ (k : Nat), k < 6 → ∀ (x own : Int32), x = nI k → own = nI (if k < tN T then shn T sh k else 0) →
      (∀ I' d5, frN [12 + 1] I I' → (∀ s, s < 2 ^ (k + 1) → I' (12 + 1) s = nI (lit T sh s)) → bm_W G l 172 2 [some (.ref 12), some (.ref 7), some (.int (nI sh)), some (.int (x + 1)), some (.int own), d5] [] t I' L Q) →
      ∀ d s y (I' : am_I), 2 ^ k - s = d → s ≤ 2 ^ k → y = nI s → frN [12 + 1] I I' → (∀ q, q < 2 ^ k + s → I' (12 + 1) q = nI (lit T sh q)) → bm_W G l 172 47 [some (.ref 12), some (.ref 7), some (.int (nI sh)), some (.int x), some (.int own), some (.int y)] [] t I' L Q := by
    intro k hk x own hx hown kont d
    have h64 := p2_6 hk
    induction d with
    | zero =>
      intro s y I' hd hs hy hf ht
      obtain rfl : s = 2 ^ k := by omega
      subst hy hx
      refine bm_go (am_ok_all 172 (by decide)) 30 ?_
      refine And.intro (fun cd => ?_) (fun cd => ?_)
      · refine kont I' _ hf (fun s hs => ht s ?_)
        rw [Nat.pow_succ] at hs
        omega
      · rw [shl1 (by omega), n_one] at cd
        omega
    | succ d ih =>
      intro s y I' hd hs hy hf ht
      have hs2 : s < 2 ^ k := by omega
      subst hy hx
      have e1 : nI s ||| (1 : Int32) <<< (nI k &&& 31) = nI (s + 2 ^ k) := by
        rw [shl1 (by omega), n_or, n_one]
        congr 1
        have e := Nat.two_pow_add_eq_or_of_lt hs2 1
        rw [Nat.mul_one] at e
        rw [Nat.add_comm, e, Nat.or_comm]
      refine bm_go (am_ok_all 172 (by decide)) 30 ?_
      refine And.intro (fun cd => ?_) (fun cd => ?_)
      · rw [shl1 (by omega), n_one] at cd
        simp (disch := omega) only [nI_toInt] at cd
        omega
      · refine ⟨s, and63 (by omega), (by omega : s < 64), ?_⟩
        refine ⟨s + 2 ^ k, by rw [e1]; exact and63 (by omega), (by omega : s + 2 ^ k < 64), ?_⟩
        refine ih (s + 1) _ _ (by omega) (by omega) (nI_succ s).symm (hf.u (by decide)) ?_
        intro q hq
        by_cases e : q = s + 2 ^ k
        · subst e
          rw [u_eq, ht s (by omega), hown, n_or, lit_or sh hs2]
        · rw [u_nj e]
          exact ht q (by omega)
  have out : ∀ d k x (I' : am_I) d4 d5, 6 - k = d → k ≤ 6 → x = nI k → frN [12 + 1] I I' → (∀ s, s < 2 ^ k → I' (12 + 1) s = nI (lit T sh s)) → bm_W G l 172 2 [some (.ref 12), some (.ref 7), some (.int (nI sh)), some (.int x), d4, d5] [] t I' L Q := by
    intro d
    induction d with
    | zero =>
      intro k x I' d4 d5 hd hk hx hf ht
      obtain rfl : k = 6 := by omega
      subst hx
      refine bm_go (am_ok_all 172 (by decide)) 30 ?_
      refine And.intro (fun cd => h I' hf ht) (fun cd => ?_)
      simp (disch := omega) only [nI_toInt, T0, T1, T2, T3, T4, T5, T6, T7, T8, T9, T10, T15, T24, T32, T48, T60, T63, T64, T80, T200, T384, T1000, TN, TP, Tm1, Tm9] at cd
      omega
    | succ d ih =>
      intro k x I' d4 d5 hd hk hx hf ht
      subst hx
      have e7 : I' 7 = I 7 := hf 7 (by decide)
      have e9 : I' 9 = I 9 := hf 9 (by decide)
      have e11 : I' 11 = I 11 := hf 11 (by decide)
      have hn' : I' 7 3 = nI (tN T) := by rw [e7]; exact hn
      have kont : ∀ I' d5 own, frN [12 + 1] I I' → (∀ s, s < 2 ^ (k + 1) → I' (12 + 1) s = nI (lit T sh s)) → bm_W G l 172 2 [some (.ref 12), some (.ref 7), some (.int (nI sh)), some (.int (nI k + 1)), some (.int own), d5] [] t I' L Q :=
        fun I' d5 own hf ht => ih (k + 1) _ I' _ _ (by omega) (by omega) (nI_succ k).symm hf ht
      have p2 := Nat.two_pow_pos k
      refine bm_go (am_ok_all 172 (by decide)) 30 ?_
      refine And.intro (fun cd => ?_) (fun cd => ?_)
      · simp (disch := omega) only [nI_toInt, T0, T1, T2, T3, T4, T5, T6, T7, T8, T9, T10, T15, T24, T32, T48, T60, T63, T64, T80, T200, T384, T1000, TN, TP, Tm1, Tm9] at cd
        omega
      · refine And.intro (fun cd => ?_) (fun cd => ?_)
        · have hk2 : k < tN T := by
            simp (disch := omega) only [nI_toInt, T0, T1, T2, T3, T4, T5, T6, T7, T8, T9, T10, T15, T24, T32, T48, T60, T63, T64, T80, T200, T384, T1000, TN, TP, Tm1, Tm9, hn'] at cd
            omega
          have hok := hT.ok hk2
          have h24 := hok.1.c24
          have hp := (hok.2.2.2.2.1 k hk2).2.1
          refine sp_isIn sh k rfl rfl (by omega) (by omega) (fun e => ?_) (fun e => ?_)
          · first | refine And.intro (fun cd => absurd cd (by decide)) (fun _ => ?_) | refine And.intro (fun _ => ?_) (fun cd => absurd cd (by decide)) | refine And.intro (fun cd => ?_) (fun cd => ?_)
            refine sp_spotOf k (tP T k) rfl (by omega) (by rw [e9]; exact (hl k hk2).2.1) (by omega) ?_
            refine inn k (by omega) _ _ rfl ?_ (fun I' d5 => kont I' d5 _) _ 0 _ I' rfl (Nat.zero_le _) rfl hf (fun q hq => ht q (by omega))
            rw [if_pos hk2]
            unfold shn
            rw [if_pos e]
          · first | refine And.intro (fun cd => absurd cd (by decide)) (fun _ => ?_) | refine And.intro (fun _ => ?_) (fun cd => absurd cd (by decide)) | refine And.intro (fun cd => ?_) (fun cd => ?_)
            refine ⟨k, nI_toInt (by omega), (by omega : k < 8), ?_⟩
            refine inn k (by omega) _ _ rfl ?_ (fun I' d5 => kont I' d5 _) _ 0 _ I' rfl (Nat.zero_le _) rfl hf (fun q hq => ht q (by omega))
            rw [e11, hb k hk2, if_pos hk2]
            unfold shn
            rw [if_neg (by rw [e]; decide)]
        · have hk2 : ¬ k < tN T := by
            simp (disch := omega) only [nI_toInt, T0, T1, T2, T3, T4, T5, T6, T7, T8, T9, T10, T15, T24, T32, T48, T60, T63, T64, T80, T200, T384, T1000, TN, TP, Tm1, Tm9, hn'] at cd
            omega
          refine inn k (by omega) _ _ rfl ?_ (fun I' d5 => kont I' d5 _) _ 0 _ I' rfl (Nat.zero_le _) rfl hf (fun q hq => ht q (by omega))
          rw [if_neg hk2]
          rfl
  refine bm_go (am_ok_all 172 (by decide)) 20 ?_
  refine out 6 0 _ I _ _ rfl (by omega) rfl (frN.refl _ _) ?_
  intro s hs
  obtain rfl : s = 0 := by omega
  rw [h0, lit_0]
theorem sp_settle_14 {T : tT} {x : Int32} (sh : Nat) (hT : tOK T) (hc : cT T I) (hx : x = nI sh) (hsh : sh < 64) (h0 : I (14 + 1) 0 = nI 0)
    (h : ∀ I', frN [14 + 1] I I' → cL T sh (14 + 1) I' → Q none t I' L) : bm_C G l 172 [.ref 14, .ref 7, .int x] t I L Q := by
  subst hx
  have n6 := hT.n6
  obtain ⟨-, -, -, hn, -, hl, hb⟩ := hc
  have inn : ∀ (k : Nat), k < 6 → ∀ (x own : Int32), x = nI k → own = nI (if k < tN T then shn T sh k else 0) →
      (∀ I' d5, frN [14 + 1] I I' → (∀ s, s < 2 ^ (k + 1) → I' (14 + 1) s = nI (lit T sh s)) → bm_W G l 172 2 [some (.ref 14), some (.ref 7), some (.int (nI sh)), some (.int (x + 1)), some (.int own), d5] [] t I' L Q) →
      ∀ d s y (I' : am_I), 2 ^ k - s = d → s ≤ 2 ^ k → y = nI s → frN [14 + 1] I I' → (∀ q, q < 2 ^ k + s → I' (14 + 1) q = nI (lit T sh q)) → bm_W G l 172 47 [some (.ref 14), some (.ref 7), some (.int (nI sh)), some (.int x), some (.int own), some (.int y)] [] t I' L Q := by
    intro k hk x own hx hown kont d
    have h64 := p2_6 hk
    induction d with
    | zero =>
      intro s y I' hd hs hy hf ht
      obtain rfl : s = 2 ^ k := by omega
      subst hy hx
      refine bm_go (am_ok_all 172 (by decide)) 30 ?_
      refine And.intro (fun cd => ?_) (fun cd => ?_)
      · refine kont I' _ hf (fun s hs => ht s ?_)
        rw [Nat.pow_succ] at hs
        omega
      · rw [shl1 (by omega), n_one] at cd
        omega
    | succ d ih =>
      intro s y I' hd hs hy hf ht
      have hs2 : s < 2 ^ k := by omega
      subst hy hx
      have e1 : nI s ||| (1 : Int32) <<< (nI k &&& 31) = nI (s + 2 ^ k) := by
        rw [shl1 (by omega), n_or, n_one]
        congr 1
        have e := Nat.two_pow_add_eq_or_of_lt hs2 1
        rw [Nat.mul_one] at e
        rw [Nat.add_comm, e, Nat.or_comm]
      refine bm_go (am_ok_all 172 (by decide)) 30 ?_
      refine And.intro (fun cd => ?_) (fun cd => ?_)
      · rw [shl1 (by omega), n_one] at cd
        simp (disch := omega) only [nI_toInt] at cd
        omega
      · refine ⟨s, and63 (by omega), (by omega : s < 64), ?_⟩
        refine ⟨s + 2 ^ k, by rw [e1]; exact and63 (by omega), (by omega : s + 2 ^ k < 64), ?_⟩
        refine ih (s + 1) _ _ (by omega) (by omega) (nI_succ s).symm (hf.u (by decide)) ?_
        intro q hq
        by_cases e : q = s + 2 ^ k
        · subst e
          rw [u_eq, ht s (by omega), hown, n_or, lit_or sh hs2]
        · rw [u_nj e]
          exact ht q (by omega)
  have out : ∀ d k x (I' : am_I) d4 d5, 6 - k = d → k ≤ 6 → x = nI k → frN [14 + 1] I I' → (∀ s, s < 2 ^ k → I' (14 + 1) s = nI (lit T sh s)) → bm_W G l 172 2 [some (.ref 14), some (.ref 7), some (.int (nI sh)), some (.int x), d4, d5] [] t I' L Q := by
    intro d
    induction d with
    | zero =>
      intro k x I' d4 d5 hd hk hx hf ht
      obtain rfl : k = 6 := by omega
      subst hx
      refine bm_go (am_ok_all 172 (by decide)) 30 ?_
      refine And.intro (fun cd => h I' hf ht) (fun cd => ?_)
      simp (disch := omega) only [nI_toInt, T0, T1, T2, T3, T4, T5, T6, T7, T8, T9, T10, T15, T24, T32, T48, T60, T63, T64, T80, T200, T384, T1000, TN, TP, Tm1, Tm9] at cd
      omega
    | succ d ih =>
      intro k x I' d4 d5 hd hk hx hf ht
      subst hx
      have e7 : I' 7 = I 7 := hf 7 (by decide)
      have e9 : I' 9 = I 9 := hf 9 (by decide)
      have e11 : I' 11 = I 11 := hf 11 (by decide)
      have hn' : I' 7 3 = nI (tN T) := by rw [e7]; exact hn
      have kont : ∀ I' d5 own, frN [14 + 1] I I' → (∀ s, s < 2 ^ (k + 1) → I' (14 + 1) s = nI (lit T sh s)) → bm_W G l 172 2 [some (.ref 14), some (.ref 7), some (.int (nI sh)), some (.int (nI k + 1)), some (.int own), d5] [] t I' L Q :=
        fun I' d5 own hf ht => ih (k + 1) _ I' _ _ (by omega) (by omega) (nI_succ k).symm hf ht
      have p2 := Nat.two_pow_pos k
      refine bm_go (am_ok_all 172 (by decide)) 30 ?_
      refine And.intro (fun cd => ?_) (fun cd => ?_)
      · simp (disch := omega) only [nI_toInt, T0, T1, T2, T3, T4, T5, T6, T7, T8, T9, T10, T15, T24, T32, T48, T60, T63, T64, T80, T200, T384, T1000, TN, TP, Tm1, Tm9] at cd
        omega
      · refine And.intro (fun cd => ?_) (fun cd => ?_)
        · have hk2 : k < tN T := by
            simp (disch := omega) only [nI_toInt, T0, T1, T2, T3, T4, T5, T6, T7, T8, T9, T10, T15, T24, T32, T48, T60, T63, T64, T80, T200, T384, T1000, TN, TP, Tm1, Tm9, hn'] at cd
            omega
          have hok := hT.ok hk2
          have h24 := hok.1.c24
          have hp := (hok.2.2.2.2.1 k hk2).2.1
          refine sp_isIn sh k rfl rfl (by omega) (by omega) (fun e => ?_) (fun e => ?_)
          · first | refine And.intro (fun cd => absurd cd (by decide)) (fun _ => ?_) | refine And.intro (fun _ => ?_) (fun cd => absurd cd (by decide)) | refine And.intro (fun cd => ?_) (fun cd => ?_)
            refine sp_spotOf k (tP T k) rfl (by omega) (by rw [e9]; exact (hl k hk2).2.1) (by omega) ?_
            refine inn k (by omega) _ _ rfl ?_ (fun I' d5 => kont I' d5 _) _ 0 _ I' rfl (Nat.zero_le _) rfl hf (fun q hq => ht q (by omega))
            rw [if_pos hk2]
            unfold shn
            rw [if_pos e]
          · first | refine And.intro (fun cd => absurd cd (by decide)) (fun _ => ?_) | refine And.intro (fun _ => ?_) (fun cd => absurd cd (by decide)) | refine And.intro (fun cd => ?_) (fun cd => ?_)
            refine ⟨k, nI_toInt (by omega), (by omega : k < 8), ?_⟩
            refine inn k (by omega) _ _ rfl ?_ (fun I' d5 => kont I' d5 _) _ 0 _ I' rfl (Nat.zero_le _) rfl hf (fun q hq => ht q (by omega))
            rw [e11, hb k hk2, if_pos hk2]
            unfold shn
            rw [if_neg (by rw [e]; decide)]
        · have hk2 : ¬ k < tN T := by
            simp (disch := omega) only [nI_toInt, T0, T1, T2, T3, T4, T5, T6, T7, T8, T9, T10, T15, T24, T32, T48, T60, T63, T64, T80, T200, T384, T1000, TN, TP, Tm1, Tm9, hn'] at cd
            omega
          refine inn k (by omega) _ _ rfl ?_ (fun I' d5 => kont I' d5 _) _ 0 _ I' rfl (Nat.zero_le _) rfl hf (fun q hq => ht q (by omega))
          rw [if_neg hk2]
          rfl
  refine bm_go (am_ok_all 172 (by decide)) 20 ?_
  refine out 6 0 _ I _ _ rfl (by omega) rfl (frN.refl _ _) ?_
  intro s hs
  obtain rfl : s = 0 := by omega
  rw [h0, lit_0]
theorem bar_lt (T : tT) (sh k : Nat) : bar T sh k < 2 ^ tN T := bO_lt _ _
theorem rg_lt {T : tT} (sh : Nat) {k : Nat} (hk : k < tN T) : ∀ i, rg T sh k i < 2 ^ tN T
  | 0 => one_lt hk
  | i + 1 => orN_lt _ _ (fun j _ => by
    split
    · exact bar_lt T sh j
    · exact Nat.two_pow_pos _)
theorem sp_ring {T : tT} {x : Int32} (sh k : Nat) (hk : k < tN T) (hx : x = nI k) (hT : tOk T) (hc : cT T I) (hL : cL T sh 13 I)
    (h1 : ∀ s, 1 ≤ s → s ≤ tN T → (rg T sh k s).testBit k = true → (∀ q, 1 ≤ q → q < s → (rg T sh k q).testBit k = false) → Q (some (.int (nI s))) t I L)
    (h0 : (∀ q, 1 ≤ q → q ≤ tN T → (rg T sh k q).testBit k = false) → Q (some (.int 0)) t I L) : bm_C G l 262 [.ref 7, .ref 12, .int x] t I L Q := by
  subst hx
  have n6 := hT.2.2.2.1
  have hn := hc.2.2.2.1
  have r64 : ∀ i, rg T sh k i < 2 ^ 32 := fun i => by have := lt6 n6 (rg_lt sh hk i); omega
  have inn : ∀ (s : Nat) (b z : Int32), b = nI (rg T sh k s) →
      (∀ a d6, a = nI (rg T sh k (s + 1)) → bm_W G l 262 22 [some (.ref 7), some (.ref 12), some (.int (nI k)), some (.int b), some (.int z), some (.int a), some (.int d6)] [] t I L Q → True) →
      (∀ d6, d6 = nI (tN T) → bm_W G l 262 22 [some (.ref 7), some (.ref 12), some (.int (nI k)), some (.int b), some (.int z), some (.int (nI (rg T sh k (s + 1)))), some (.int d6)] [] t I L Q) →
      ∀ d j y a, tN T - j = d → j ≤ tN T → y = nI j → a = nI (orN j (fun j => if (rg T sh k s).testBit j then bar T sh j else 0)) → bm_W G l 262 22 [some (.ref 7), some (.ref 12), some (.int (nI k)), some (.int b), some (.int z), some (.int a), some (.int y)] [] t I L Q := by
    intro s b z hb _ kont d
    induction d with
    | zero =>
      intro j y a hd hj hy ha
      obtain rfl : j = tN T := by omega
      subst ha
      exact kont y hy
    | succ d ih =>
      intro j y a hd hj hy ha
      subst hy ha
      refine bm_go (am_ok_all 262 (by decide)) 20 ?_
      refine And.intro (fun cd => ?_) (fun cd => ?_)
      · simp (disch := omega) only [nI_toInt, T0, T1, T2, T3, T4, T5, T6, T7, T8, T9, T10, T15, T24, T32, T48, T60, T63, T64, T80, T200, T384, T1000, TN, TP, Tm1, Tm9, hn] at cd
        omega
      · refine sp_isIn (rg T sh k s) j hb rfl (r64 s) (by omega) (fun e => ?_) (fun e => ?_)
        · first | refine And.intro (fun cd => absurd cd (by decide)) (fun _ => ?_) | refine And.intro (fun _ => ?_) (fun cd => absurd cd (by decide)) | refine And.intro (fun cd => ?_) (fun cd => ?_)
          refine sp_barring sh j (by omega) rfl hT hc hL ?_
          refine ih (j + 1) _ _ (by omega) (by omega) (nI_succ j).symm ?_
          rw [n_or, orN_s, if_pos e]
        · first | refine And.intro (fun cd => absurd cd (by decide)) (fun _ => ?_) | refine And.intro (fun _ => ?_) (fun cd => absurd cd (by decide)) | refine And.intro (fun cd => ?_) (fun cd => ?_)
          refine ih (j + 1) _ _ (by omega) (by omega) (nI_succ j).symm ?_
          rw [k0, n_or, orN_s, if_neg (by rw [e]; decide)]
  have out : ∀ d s z b d5 d6, tN T + 1 - s = d → 1 ≤ s → s ≤ tN T + 1 → z = nI s → b = nI (rg T sh k (s - 1)) → (∀ q, 1 ≤ q → q < s → (rg T sh k q).testBit k = false) → bm_W G l 262 7 [some (.ref 7), some (.ref 12), some (.int (nI k)), some (.int b), some (.int z), d5, d6] [] t I L Q := by
    intro d
    induction d with
    | zero =>
      intro s z b d5 d6 hd hs1 hs hz hb hq
      obtain rfl : s = tN T + 1 := by omega
      subst hz
      refine bm_go (am_ok_all 262 (by decide)) 20 ?_
      refine And.intro (fun cd => h0 (fun q h1 h2 => hq q h1 (by omega))) (fun cd => ?_)
      simp (disch := omega) only [nI_toInt, T0, T1, T2, T3, T4, T5, T6, T7, T8, T9, T10, T15, T24, T32, T48, T60, T63, T64, T80, T200, T384, T1000, TN, TP, Tm1, Tm9, hn] at cd
      omega
    | succ d ih =>
      intro s z b d5 d6 hd hs1 hs hz hb hq
      subst hz
      refine bm_go (am_ok_all 262 (by decide)) 20 ?_
      refine And.intro (fun cd => ?_) (fun cd => ?_)
      · simp (disch := omega) only [nI_toInt, T0, T1, T2, T3, T4, T5, T6, T7, T8, T9, T10, T15, T24, T32, T48, T60, T63, T64, T80, T200, T384, T1000, TN, TP, Tm1, Tm9, hn] at cd
        omega
      · refine inn (s - 1) b _ hb (fun _ _ _ _ => trivial) ?_ (tN T) 0 _ _ rfl (Nat.zero_le _) rfl rfl
        intro y hy
        subst hy
        rw [show s - 1 + 1 = s by omega]
        refine bm_go (am_ok_all 262 (by decide)) 20 ?_
        refine And.intro (fun cd => ?_) (fun cd => ?_)
        · refine sp_isIn (rg T sh k s) k rfl rfl (r64 s) (by omega) (fun e => ?_) (fun e => ?_)
          · first | refine And.intro (fun cd => absurd cd (by decide)) (fun _ => ?_) | refine And.intro (fun _ => ?_) (fun cd => absurd cd (by decide)) | refine And.intro (fun cd => ?_) (fun cd => ?_)
            exact h1 s hs1 (by omega) e hq
          · first | refine And.intro (fun cd => absurd cd (by decide)) (fun _ => ?_) | refine And.intro (fun _ => ?_) (fun cd => absurd cd (by decide)) | refine And.intro (fun cd => ?_) (fun cd => ?_)
            refine ih (s + 1) _ _ _ _ (by omega) (by omega) (by omega) (nI_succ s).symm rfl ?_
            intro q q1 q2
            by_cases eq : q = s
            · subst eq; exact e
            · exact hq q q1 (by omega)
        · simp (disch := omega) only [nI_toInt, T0, T1, T2, T3, T4, T5, T6, T7, T8, T9, T10, T15, T24, T32, T48, T60, T63, T64, T80, T200, T384, T1000, TN, TP, Tm1, Tm9, hn] at cd
          omega
  refine bm_go (am_ok_all 262 (by decide)) 20 ?_
  refine out (tN T) 1 _ _ _ _ (by omega) (by omega) (by omega) rfl ?_ (fun q q1 q2 => by omega)
  rw [shl1 (by omega)]
  rfl
end LF

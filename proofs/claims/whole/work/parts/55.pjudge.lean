/-! pair: judge -/
/-- m steps of a told round can be done, not more -/
def canM (T : tT) (sh : Nat) (s : sT) (a : Nat → Nat) (n m : Nat) : Prop := m ≤ n ∧ (∀ i, i < m → may1 T sh (runS T sh s a i) (a i) = true) ∧ (m < n → may1 T sh (runS T sh s a m) (a m) = false)
theorem canM_u {T : tT} {sh : Nat} {s : sT} {a : Nat → Nat} {n m k : Nat} (h : canM T sh s a n m) (g : canM T sh s a n k) : m = k := by
  obtain ⟨h1, h2, h3⟩ := h
  obtain ⟨g1, g2, g3⟩ := g
  rcases Nat.lt_trichotomy m k with c | c | c
  · have e1 := h3 (by omega)
    have e2 := g2 m c
    rw [e1] at e2
    cases e2
  · exact c
  · have e1 := g3 (by omega)
    have e2 := h2 k c
    rw [e1] at e2
    cases e2
section PJ
variable {G : am_G} {l : Launch} {t : am_T} {I : am_I} {L : am_J} {Q : bm_P}
theorem sp_within_38 (n : Nat) (hn : (I 38 1).toInt = (n : Int)) (hs : n ≤ 60) (h1 : (∀ j, j < n → 0 ≤ (I 39 j).toInt ∧ (I 39 j).toInt ≤ 4) → Q (some (.int 1)) t I L) (h0 : ∀ j, j < n → ((I 39 j).toInt < 0 ∨ 4 < (I 39 j).toInt) → Q (some (.int 0)) t I L) : bm_C G l 237 [.ref 38, .int 0, .int 4] t I L Q := by
  have lp : ∀ d j y, n - j = d → j ≤ n → y = nI j → (∀ q, q < j → 0 ≤ (I 39 q).toInt ∧ (I 39 q).toInt ≤ 4) → bm_W G l 237 2 [some (.ref 38), some (.int 0), some (.int 4), some (.int y)] [] t I L Q := by
    intro d
    induction d with
    | zero =>
      intro j y hd hj hy hq
      obtain rfl : j = n := by omega
      subst hy
      refine bm_go (am_ok_all 237 (by decide)) 40 ?_
      refine And.intro (fun cd => ⟨Or.inr rfl, h1 hq⟩) (fun cd => ?_)
      rw [nI_toInt (by omega)] at cd
      omega
    | succ d ih =>
      intro j y hd hj hy hq
      subst hy
      have ei : itm (I 38 1) (I 39) (nI j) = I 39 j := by
        unfold itm
        rw [nI_toInt (by omega), if_pos (by omega)]
        rfl
      refine bm_go (am_ok_all 237 (by decide)) 40 ?_
      refine And.intro (fun cd => ?_) (fun cd => ?_)
      · rw [nI_toInt (by omega)] at cd
        omega
      · refine sp_item_38 (by omega) ?_
        rw [ei]
        refine And.intro (fun c2 => ?_) (fun c2 => ?_)
        · rw [T0] at c2
          exact ⟨Or.inl rfl, h0 j (by omega) (by omega)⟩
        · rw [T0] at c2
          refine sp_item_38 (by omega) ?_
          rw [ei]
          refine And.intro (fun c3 => ?_) (fun c3 => ?_)
          · rw [T4] at c3
            refine ih (j + 1) _ (by omega) (by omega) (nI_succ j).symm ?_
            intro q hq2
            by_cases e : q = j
            · subst e; exact ⟨c2, c3⟩
            · exact hq q (by omega)
          · rw [T4] at c3
            exact ⟨Or.inl rfl, h0 j (by omega) (by omega)⟩
  refine bm_go (am_ok_all 237 (by decide)) 40 ?_
  exact lp n 0 _ rfl (Nat.zero_le _) rfl (fun q hq => by omega)
theorem sp_follow_38 {T : tT} {s : sT} (sh n : Nat) (hn : (I 38 1).toInt = (n : Int)) (hs60 : n ≤ 60) (hT : tOk T) (hc : cT T I) (hL : cL T sh 13 I) (hs : sC s 20 I) (ks : sOk T s) (a : Nat → Nat) (ha : ∀ j, j < n → I 39 j = nI (a j) ∧ a j < 5) (h : ∀ m I', canM T sh s a n m → frN [20] I I' → sC (runS T sh s a m) 20 I' → Q (some (.int (nI m))) t I' L) : bm_C G l 228 [.ref 20, .ref 7, .ref 12, .ref 38] t I L Q := by
  have lp : ∀ d j y (I1 : am_I), n - j = d → j ≤ n → y = nI j → frN [20] I I1 → sC (runS T sh s a j) 20 I1 → (∀ i, i < j → may1 T sh (runS T sh s a i) (a i) = true) → bm_W G l 228 3 [some (.ref 20), some (.ref 7), some (.ref 12), some (.ref 38), some (.int y)] [] t I1 L Q := by
    intro d
    induction d with
    | zero =>
      intro j y I1 hd hj hy f1 s1 hm
      obtain rfl : j = n := by omega
      subst hy
      have ez : I1 38 1 = nI j := by
        rw [f1 38 (by decide)]
        exact Int32.toInt_inj.mp (by rw [hn, nI_toInt (by omega)])
      refine bm_go (am_ok_all 228 (by decide)) 40 ?_
      refine And.intro (fun cd => ?_) (fun cd => ?_)
      · have := h j I1 ⟨Nat.le_refl _, hm, fun q => by omega⟩ f1 s1
        rw [← ez] at this
        exact this
      · rw [ez] at cd
        omega
    | succ d ih =>
      intro j y I1 hd hj hy f1 s1 hm
      subst hy
      have ag1 := f1.agH (by decide) (by decide)
      have eo : I1 38 = I 38 := f1 38 (by decide)
      have eI : I1 39 = I 39 := f1 39 (by decide)
      have ei : itm (I1 38 1) (I1 39) (nI j) = nI (a j) := by
        unfold itm
        rw [nI_toInt (by omega), eo, eI, if_pos (by omega)]
        exact (ha j (by omega)).1
      have a5 := (ha j (by omega)).2
      have mlt : mayN T sh (runS T sh s a j) < 2 ^ 5 := bO_lt _ _
      have emay : (mayN T sh (runS T sh s a j)).testBit (a j) = may1 T sh (runS T sh s a j) (a j) := by
        unfold mayN
        rw [tb_bO]
        simp [a5]
      refine bm_go (am_ok_all 228 (by decide)) 40 ?_
      refine And.intro (fun cd => ?_) (fun cd => ?_)
      · rw [eo, nI_toInt (by omega)] at cd
        omega
      · refine sp_allowed_20 (s := runS T sh s a j) sh hT (hc.agH ag1) (hL.agH ag1) s1 (runS_ok hT sh ks a j) ?_
        refine sp_item_38 (by rw [eo]; omega) ?_
        rw [ei]
        refine sp_isIn _ (a j) rfl rfl (by omega) (by omega) (fun e => ?_) (fun e => ?_)
        · rw [emay] at e
          first | refine And.intro (fun cd => absurd cd (by decide)) (fun _ => ?_) | refine And.intro (fun _ => ?_) (fun cd => absurd cd (by decide)) | refine And.intro (fun cd => ?_) (fun cd => ?_)
          refine sp_item_38 (by rw [eo]; omega) ?_
          rw [ei]
          refine sp_carry_20 (s := runS T sh s a j) sh (a j) rfl hT (hc.agH ag1) (hL.agH ag1) s1 (runS_ok hT sh ks a j) (may_gOk a5 e) (fun I2 f2 s2 => ?_)
          refine ih (j + 1) _ I2 (by omega) (by omega) (nI_succ j).symm (f1.trans f2) s2 (fun i hi => ?_)
          by_cases q : i = j
          · subst q; exact e
          · exact hm i (by omega)
        · rw [emay] at e
          first | refine And.intro (fun cd => absurd cd (by decide)) (fun _ => ?_) | refine And.intro (fun _ => ?_) (fun cd => absurd cd (by decide)) | refine And.intro (fun cd => ?_) (fun cd => ?_)
          exact h j I1 ⟨by omega, hm, fun _ => e⟩ f1 s1
  refine bm_go (am_ok_all 228 (by decide)) 40 ?_
  exact lp n 0 _ I rfl (Nat.zero_le _) rfl (frN.refl _ _) hs (fun i hi => by omega)
theorem sp_within_40 (n : Nat) (hn : (I 40 1).toInt = (n : Int)) (hs : n ≤ 60) (h1 : (∀ j, j < n → 0 ≤ (I 41 j).toInt ∧ (I 41 j).toInt ≤ 4) → Q (some (.int 1)) t I L) (h0 : ∀ j, j < n → ((I 41 j).toInt < 0 ∨ 4 < (I 41 j).toInt) → Q (some (.int 0)) t I L) : bm_C G l 237 [.ref 40, .int 0, .int 4] t I L Q := by
  have lp : ∀ d j y, n - j = d → j ≤ n → y = nI j → (∀ q, q < j → 0 ≤ (I 41 q).toInt ∧ (I 41 q).toInt ≤ 4) → bm_W G l 237 2 [some (.ref 40), some (.int 0), some (.int 4), some (.int y)] [] t I L Q := by
    intro d
    induction d with
    | zero =>
      intro j y hd hj hy hq
      obtain rfl : j = n := by omega
      subst hy
      refine bm_go (am_ok_all 237 (by decide)) 40 ?_
      refine And.intro (fun cd => ⟨Or.inr rfl, h1 hq⟩) (fun cd => ?_)
      rw [nI_toInt (by omega)] at cd
      omega
    | succ d ih =>
      intro j y hd hj hy hq
      subst hy
      have ei : itm (I 40 1) (I 41) (nI j) = I 41 j := by
        unfold itm
        rw [nI_toInt (by omega), if_pos (by omega)]
        rfl
      refine bm_go (am_ok_all 237 (by decide)) 40 ?_
      refine And.intro (fun cd => ?_) (fun cd => ?_)
      · rw [nI_toInt (by omega)] at cd
        omega
      · refine sp_item_40 (by omega) ?_
        rw [ei]
        refine And.intro (fun c2 => ?_) (fun c2 => ?_)
        · rw [T0] at c2
          exact ⟨Or.inl rfl, h0 j (by omega) (by omega)⟩
        · rw [T0] at c2
          refine sp_item_40 (by omega) ?_
          rw [ei]
          refine And.intro (fun c3 => ?_) (fun c3 => ?_)
          · rw [T4] at c3
            refine ih (j + 1) _ (by omega) (by omega) (nI_succ j).symm ?_
            intro q hq2
            by_cases e : q = j
            · subst e; exact ⟨c2, c3⟩
            · exact hq q (by omega)
          · rw [T4] at c3
            exact ⟨Or.inl rfl, h0 j (by omega) (by omega)⟩
  refine bm_go (am_ok_all 237 (by decide)) 40 ?_
  exact lp n 0 _ rfl (Nat.zero_le _) rfl (fun q hq => by omega)
theorem sp_follow_40 {T : tT} {s : sT} (sh n : Nat) (hn : (I 40 1).toInt = (n : Int)) (hs60 : n ≤ 60) (hT : tOk T) (hc : cT T I) (hL : cL T sh 13 I) (hs : sC s 20 I) (ks : sOk T s) (a : Nat → Nat) (ha : ∀ j, j < n → I 41 j = nI (a j) ∧ a j < 5) (h : ∀ m I', canM T sh s a n m → frN [20] I I' → sC (runS T sh s a m) 20 I' → Q (some (.int (nI m))) t I' L) : bm_C G l 228 [.ref 20, .ref 7, .ref 12, .ref 40] t I L Q := by
  have lp : ∀ d j y (I1 : am_I), n - j = d → j ≤ n → y = nI j → frN [20] I I1 → sC (runS T sh s a j) 20 I1 → (∀ i, i < j → may1 T sh (runS T sh s a i) (a i) = true) → bm_W G l 228 3 [some (.ref 20), some (.ref 7), some (.ref 12), some (.ref 40), some (.int y)] [] t I1 L Q := by
    intro d
    induction d with
    | zero =>
      intro j y I1 hd hj hy f1 s1 hm
      obtain rfl : j = n := by omega
      subst hy
      have ez : I1 40 1 = nI j := by
        rw [f1 40 (by decide)]
        exact Int32.toInt_inj.mp (by rw [hn, nI_toInt (by omega)])
      refine bm_go (am_ok_all 228 (by decide)) 40 ?_
      refine And.intro (fun cd => ?_) (fun cd => ?_)
      · have := h j I1 ⟨Nat.le_refl _, hm, fun q => by omega⟩ f1 s1
        rw [← ez] at this
        exact this
      · rw [ez] at cd
        omega
    | succ d ih =>
      intro j y I1 hd hj hy f1 s1 hm
      subst hy
      have ag1 := f1.agH (by decide) (by decide)
      have eo : I1 40 = I 40 := f1 40 (by decide)
      have eI : I1 41 = I 41 := f1 41 (by decide)
      have ei : itm (I1 40 1) (I1 41) (nI j) = nI (a j) := by
        unfold itm
        rw [nI_toInt (by omega), eo, eI, if_pos (by omega)]
        exact (ha j (by omega)).1
      have a5 := (ha j (by omega)).2
      have mlt : mayN T sh (runS T sh s a j) < 2 ^ 5 := bO_lt _ _
      have emay : (mayN T sh (runS T sh s a j)).testBit (a j) = may1 T sh (runS T sh s a j) (a j) := by
        unfold mayN
        rw [tb_bO]
        simp [a5]
      refine bm_go (am_ok_all 228 (by decide)) 40 ?_
      refine And.intro (fun cd => ?_) (fun cd => ?_)
      · rw [eo, nI_toInt (by omega)] at cd
        omega
      · refine sp_allowed_20 (s := runS T sh s a j) sh hT (hc.agH ag1) (hL.agH ag1) s1 (runS_ok hT sh ks a j) ?_
        refine sp_item_40 (by rw [eo]; omega) ?_
        rw [ei]
        refine sp_isIn _ (a j) rfl rfl (by omega) (by omega) (fun e => ?_) (fun e => ?_)
        · rw [emay] at e
          first | refine And.intro (fun cd => absurd cd (by decide)) (fun _ => ?_) | refine And.intro (fun _ => ?_) (fun cd => absurd cd (by decide)) | refine And.intro (fun cd => ?_) (fun cd => ?_)
          refine sp_item_40 (by rw [eo]; omega) ?_
          rw [ei]
          refine sp_carry_20 (s := runS T sh s a j) sh (a j) rfl hT (hc.agH ag1) (hL.agH ag1) s1 (runS_ok hT sh ks a j) (may_gOk a5 e) (fun I2 f2 s2 => ?_)
          refine ih (j + 1) _ I2 (by omega) (by omega) (nI_succ j).symm (f1.trans f2) s2 (fun i hi => ?_)
          by_cases q : i = j
          · subst q; exact e
          · exact hm i (by omega)
        · rw [emay] at e
          first | refine And.intro (fun cd => absurd cd (by decide)) (fun _ => ?_) | refine And.intro (fun _ => ?_) (fun cd => absurd cd (by decide)) | refine And.intro (fun cd => ?_) (fun cd => ?_)
          exact h j I1 ⟨by omega, hm, fun _ => e⟩ f1 s1
  refine bm_go (am_ok_all 228 (by decide)) 40 ?_
  exact lp n 0 _ I rfl (Nat.zero_le _) rfl (frN.refl _ _) hs (fun i hi => by omega)
theorem sp_within_42 (n : Nat) (hn : (I 42 1).toInt = (n : Int)) (hs : n ≤ 60) (h1 : (∀ j, j < n → 0 ≤ (I 43 j).toInt ∧ (I 43 j).toInt ≤ 4) → Q (some (.int 1)) t I L) (h0 : ∀ j, j < n → ((I 43 j).toInt < 0 ∨ 4 < (I 43 j).toInt) → Q (some (.int 0)) t I L) : bm_C G l 237 [.ref 42, .int 0, .int 4] t I L Q := by
  have lp : ∀ d j y, n - j = d → j ≤ n → y = nI j → (∀ q, q < j → 0 ≤ (I 43 q).toInt ∧ (I 43 q).toInt ≤ 4) → bm_W G l 237 2 [some (.ref 42), some (.int 0), some (.int 4), some (.int y)] [] t I L Q := by
    intro d
    induction d with
    | zero =>
      intro j y hd hj hy hq
      obtain rfl : j = n := by omega
      subst hy
      refine bm_go (am_ok_all 237 (by decide)) 40 ?_
      refine And.intro (fun cd => ⟨Or.inr rfl, h1 hq⟩) (fun cd => ?_)
      rw [nI_toInt (by omega)] at cd
      omega
    | succ d ih =>
      intro j y hd hj hy hq
      subst hy
      have ei : itm (I 42 1) (I 43) (nI j) = I 43 j := by
        unfold itm
        rw [nI_toInt (by omega), if_pos (by omega)]
        rfl
      refine bm_go (am_ok_all 237 (by decide)) 40 ?_
      refine And.intro (fun cd => ?_) (fun cd => ?_)
      · rw [nI_toInt (by omega)] at cd
        omega
      · refine sp_item_42 (by omega) ?_
        rw [ei]
        refine And.intro (fun c2 => ?_) (fun c2 => ?_)
        · rw [T0] at c2
          exact ⟨Or.inl rfl, h0 j (by omega) (by omega)⟩
        · rw [T0] at c2
          refine sp_item_42 (by omega) ?_
          rw [ei]
          refine And.intro (fun c3 => ?_) (fun c3 => ?_)
          · rw [T4] at c3
            refine ih (j + 1) _ (by omega) (by omega) (nI_succ j).symm ?_
            intro q hq2
            by_cases e : q = j
            · subst e; exact ⟨c2, c3⟩
            · exact hq q (by omega)
          · rw [T4] at c3
            exact ⟨Or.inl rfl, h0 j (by omega) (by omega)⟩
  refine bm_go (am_ok_all 237 (by decide)) 40 ?_
  exact lp n 0 _ rfl (Nat.zero_le _) rfl (fun q hq => by omega)
theorem sp_follow_42 {T : tT} {s : sT} (sh n : Nat) (hn : (I 42 1).toInt = (n : Int)) (hs60 : n ≤ 60) (hT : tOk T) (hc : cT T I) (hL : cL T sh 13 I) (hs : sC s 20 I) (ks : sOk T s) (a : Nat → Nat) (ha : ∀ j, j < n → I 43 j = nI (a j) ∧ a j < 5) (h : ∀ m I', canM T sh s a n m → frN [20] I I' → sC (runS T sh s a m) 20 I' → Q (some (.int (nI m))) t I' L) : bm_C G l 228 [.ref 20, .ref 7, .ref 12, .ref 42] t I L Q := by
  have lp : ∀ d j y (I1 : am_I), n - j = d → j ≤ n → y = nI j → frN [20] I I1 → sC (runS T sh s a j) 20 I1 → (∀ i, i < j → may1 T sh (runS T sh s a i) (a i) = true) → bm_W G l 228 3 [some (.ref 20), some (.ref 7), some (.ref 12), some (.ref 42), some (.int y)] [] t I1 L Q := by
    intro d
    induction d with
    | zero =>
      intro j y I1 hd hj hy f1 s1 hm
      obtain rfl : j = n := by omega
      subst hy
      have ez : I1 42 1 = nI j := by
        rw [f1 42 (by decide)]
        exact Int32.toInt_inj.mp (by rw [hn, nI_toInt (by omega)])
      refine bm_go (am_ok_all 228 (by decide)) 40 ?_
      refine And.intro (fun cd => ?_) (fun cd => ?_)
      · have := h j I1 ⟨Nat.le_refl _, hm, fun q => by omega⟩ f1 s1
        rw [← ez] at this
        exact this
      · rw [ez] at cd
        omega
    | succ d ih =>
      intro j y I1 hd hj hy f1 s1 hm
      subst hy
      have ag1 := f1.agH (by decide) (by decide)
      have eo : I1 42 = I 42 := f1 42 (by decide)
      have eI : I1 43 = I 43 := f1 43 (by decide)
      have ei : itm (I1 42 1) (I1 43) (nI j) = nI (a j) := by
        unfold itm
        rw [nI_toInt (by omega), eo, eI, if_pos (by omega)]
        exact (ha j (by omega)).1
      have a5 := (ha j (by omega)).2
      have mlt : mayN T sh (runS T sh s a j) < 2 ^ 5 := bO_lt _ _
      have emay : (mayN T sh (runS T sh s a j)).testBit (a j) = may1 T sh (runS T sh s a j) (a j) := by
        unfold mayN
        rw [tb_bO]
        simp [a5]
      refine bm_go (am_ok_all 228 (by decide)) 40 ?_
      refine And.intro (fun cd => ?_) (fun cd => ?_)
      · rw [eo, nI_toInt (by omega)] at cd
        omega
      · refine sp_allowed_20 (s := runS T sh s a j) sh hT (hc.agH ag1) (hL.agH ag1) s1 (runS_ok hT sh ks a j) ?_
        refine sp_item_42 (by rw [eo]; omega) ?_
        rw [ei]
        refine sp_isIn _ (a j) rfl rfl (by omega) (by omega) (fun e => ?_) (fun e => ?_)
        · rw [emay] at e
          first | refine And.intro (fun cd => absurd cd (by decide)) (fun _ => ?_) | refine And.intro (fun _ => ?_) (fun cd => absurd cd (by decide)) | refine And.intro (fun cd => ?_) (fun cd => ?_)
          refine sp_item_42 (by rw [eo]; omega) ?_
          rw [ei]
          refine sp_carry_20 (s := runS T sh s a j) sh (a j) rfl hT (hc.agH ag1) (hL.agH ag1) s1 (runS_ok hT sh ks a j) (may_gOk a5 e) (fun I2 f2 s2 => ?_)
          refine ih (j + 1) _ I2 (by omega) (by omega) (nI_succ j).symm (f1.trans f2) s2 (fun i hi => ?_)
          by_cases q : i = j
          · subst q; exact e
          · exact hm i (by omega)
        · rw [emay] at e
          first | refine And.intro (fun cd => absurd cd (by decide)) (fun _ => ?_) | refine And.intro (fun _ => ?_) (fun cd => absurd cd (by decide)) | refine And.intro (fun cd => ?_) (fun cd => ?_)
          exact h j I1 ⟨by omega, hm, fun _ => e⟩ f1 s1
  refine bm_go (am_ok_all 228 (by decide)) 40 ?_
  exact lp n 0 _ I rfl (Nat.zero_le _) rfl (frN.refl _ _) hs (fun i hi => by omega)
theorem sp_within_44 (n : Nat) (hn : (I 44 1).toInt = (n : Int)) (hs : n ≤ 60) (h1 : (∀ j, j < n → 0 ≤ (I 45 j).toInt ∧ (I 45 j).toInt ≤ 4) → Q (some (.int 1)) t I L) (h0 : ∀ j, j < n → ((I 45 j).toInt < 0 ∨ 4 < (I 45 j).toInt) → Q (some (.int 0)) t I L) : bm_C G l 237 [.ref 44, .int 0, .int 4] t I L Q := by
  have lp : ∀ d j y, n - j = d → j ≤ n → y = nI j → (∀ q, q < j → 0 ≤ (I 45 q).toInt ∧ (I 45 q).toInt ≤ 4) → bm_W G l 237 2 [some (.ref 44), some (.int 0), some (.int 4), some (.int y)] [] t I L Q := by
    intro d
    induction d with
    | zero =>
      intro j y hd hj hy hq
      obtain rfl : j = n := by omega
      subst hy
      refine bm_go (am_ok_all 237 (by decide)) 40 ?_
      refine And.intro (fun cd => ⟨Or.inr rfl, h1 hq⟩) (fun cd => ?_)
      rw [nI_toInt (by omega)] at cd
      omega
    | succ d ih =>
      intro j y hd hj hy hq
      subst hy
      have ei : itm (I 44 1) (I 45) (nI j) = I 45 j := by
        unfold itm
        rw [nI_toInt (by omega), if_pos (by omega)]
        rfl
      refine bm_go (am_ok_all 237 (by decide)) 40 ?_
      refine And.intro (fun cd => ?_) (fun cd => ?_)
      · rw [nI_toInt (by omega)] at cd
        omega
      · refine sp_item_44 (by omega) ?_
        rw [ei]
        refine And.intro (fun c2 => ?_) (fun c2 => ?_)
        · rw [T0] at c2
          exact ⟨Or.inl rfl, h0 j (by omega) (by omega)⟩
        · rw [T0] at c2
          refine sp_item_44 (by omega) ?_
          rw [ei]
          refine And.intro (fun c3 => ?_) (fun c3 => ?_)
          · rw [T4] at c3
            refine ih (j + 1) _ (by omega) (by omega) (nI_succ j).symm ?_
            intro q hq2
            by_cases e : q = j
            · subst e; exact ⟨c2, c3⟩
            · exact hq q (by omega)
          · rw [T4] at c3
            exact ⟨Or.inl rfl, h0 j (by omega) (by omega)⟩
  refine bm_go (am_ok_all 237 (by decide)) 40 ?_
  exact lp n 0 _ rfl (Nat.zero_le _) rfl (fun q hq => by omega)
theorem sp_follow_44 {T : tT} {s : sT} (sh n : Nat) (hn : (I 44 1).toInt = (n : Int)) (hs60 : n ≤ 60) (hT : tOk T) (hc : cT T I) (hL : cL T sh 13 I) (hs : sC s 20 I) (ks : sOk T s) (a : Nat → Nat) (ha : ∀ j, j < n → I 45 j = nI (a j) ∧ a j < 5) (h : ∀ m I', canM T sh s a n m → frN [20] I I' → sC (runS T sh s a m) 20 I' → Q (some (.int (nI m))) t I' L) : bm_C G l 228 [.ref 20, .ref 7, .ref 12, .ref 44] t I L Q := by
  have lp : ∀ d j y (I1 : am_I), n - j = d → j ≤ n → y = nI j → frN [20] I I1 → sC (runS T sh s a j) 20 I1 → (∀ i, i < j → may1 T sh (runS T sh s a i) (a i) = true) → bm_W G l 228 3 [some (.ref 20), some (.ref 7), some (.ref 12), some (.ref 44), some (.int y)] [] t I1 L Q := by
    intro d
    induction d with
    | zero =>
      intro j y I1 hd hj hy f1 s1 hm
      obtain rfl : j = n := by omega
      subst hy
      have ez : I1 44 1 = nI j := by
        rw [f1 44 (by decide)]
        exact Int32.toInt_inj.mp (by rw [hn, nI_toInt (by omega)])
      refine bm_go (am_ok_all 228 (by decide)) 40 ?_
      refine And.intro (fun cd => ?_) (fun cd => ?_)
      · have := h j I1 ⟨Nat.le_refl _, hm, fun q => by omega⟩ f1 s1
        rw [← ez] at this
        exact this
      · rw [ez] at cd
        omega
    | succ d ih =>
      intro j y I1 hd hj hy f1 s1 hm
      subst hy
      have ag1 := f1.agH (by decide) (by decide)
      have eo : I1 44 = I 44 := f1 44 (by decide)
      have eI : I1 45 = I 45 := f1 45 (by decide)
      have ei : itm (I1 44 1) (I1 45) (nI j) = nI (a j) := by
        unfold itm
        rw [nI_toInt (by omega), eo, eI, if_pos (by omega)]
        exact (ha j (by omega)).1
      have a5 := (ha j (by omega)).2
      have mlt : mayN T sh (runS T sh s a j) < 2 ^ 5 := bO_lt _ _
      have emay : (mayN T sh (runS T sh s a j)).testBit (a j) = may1 T sh (runS T sh s a j) (a j) := by
        unfold mayN
        rw [tb_bO]
        simp [a5]
      refine bm_go (am_ok_all 228 (by decide)) 40 ?_
      refine And.intro (fun cd => ?_) (fun cd => ?_)
      · rw [eo, nI_toInt (by omega)] at cd
        omega
      · refine sp_allowed_20 (s := runS T sh s a j) sh hT (hc.agH ag1) (hL.agH ag1) s1 (runS_ok hT sh ks a j) ?_
        refine sp_item_44 (by rw [eo]; omega) ?_
        rw [ei]
        refine sp_isIn _ (a j) rfl rfl (by omega) (by omega) (fun e => ?_) (fun e => ?_)
        · rw [emay] at e
          first | refine And.intro (fun cd => absurd cd (by decide)) (fun _ => ?_) | refine And.intro (fun _ => ?_) (fun cd => absurd cd (by decide)) | refine And.intro (fun cd => ?_) (fun cd => ?_)
          refine sp_item_44 (by rw [eo]; omega) ?_
          rw [ei]
          refine sp_carry_20 (s := runS T sh s a j) sh (a j) rfl hT (hc.agH ag1) (hL.agH ag1) s1 (runS_ok hT sh ks a j) (may_gOk a5 e) (fun I2 f2 s2 => ?_)
          refine ih (j + 1) _ I2 (by omega) (by omega) (nI_succ j).symm (f1.trans f2) s2 (fun i hi => ?_)
          by_cases q : i = j
          · subst q; exact e
          · exact hm i (by omega)
        · rw [emay] at e
          first | refine And.intro (fun cd => absurd cd (by decide)) (fun _ => ?_) | refine And.intro (fun _ => ?_) (fun cd => absurd cd (by decide)) | refine And.intro (fun cd => ?_) (fun cd => ?_)
          exact h j I1 ⟨by omega, hm, fun _ => e⟩ f1 s1
  refine bm_go (am_ok_all 228 (by decide)) 40 ?_
  exact lp n 0 _ I rfl (Nat.zero_le _) rfl (frN.refl _ _) hs (fun i hi => by omega)
theorem sp_within_46 (n : Nat) (hn : (I 46 1).toInt = (n : Int)) (hs : n ≤ 60) (h1 : (∀ j, j < n → 0 ≤ (I 47 j).toInt ∧ (I 47 j).toInt ≤ 4) → Q (some (.int 1)) t I L) (h0 : ∀ j, j < n → ((I 47 j).toInt < 0 ∨ 4 < (I 47 j).toInt) → Q (some (.int 0)) t I L) : bm_C G l 237 [.ref 46, .int 0, .int 4] t I L Q := by
  have lp : ∀ d j y, n - j = d → j ≤ n → y = nI j → (∀ q, q < j → 0 ≤ (I 47 q).toInt ∧ (I 47 q).toInt ≤ 4) → bm_W G l 237 2 [some (.ref 46), some (.int 0), some (.int 4), some (.int y)] [] t I L Q := by
    intro d
    induction d with
    | zero =>
      intro j y hd hj hy hq
      obtain rfl : j = n := by omega
      subst hy
      refine bm_go (am_ok_all 237 (by decide)) 40 ?_
      refine And.intro (fun cd => ⟨Or.inr rfl, h1 hq⟩) (fun cd => ?_)
      rw [nI_toInt (by omega)] at cd
      omega
    | succ d ih =>
      intro j y hd hj hy hq
      subst hy
      have ei : itm (I 46 1) (I 47) (nI j) = I 47 j := by
        unfold itm
        rw [nI_toInt (by omega), if_pos (by omega)]
        rfl
      refine bm_go (am_ok_all 237 (by decide)) 40 ?_
      refine And.intro (fun cd => ?_) (fun cd => ?_)
      · rw [nI_toInt (by omega)] at cd
        omega
      · refine sp_item_46 (by omega) ?_
        rw [ei]
        refine And.intro (fun c2 => ?_) (fun c2 => ?_)
        · rw [T0] at c2
          exact ⟨Or.inl rfl, h0 j (by omega) (by omega)⟩
        · rw [T0] at c2
          refine sp_item_46 (by omega) ?_
          rw [ei]
          refine And.intro (fun c3 => ?_) (fun c3 => ?_)
          · rw [T4] at c3
            refine ih (j + 1) _ (by omega) (by omega) (nI_succ j).symm ?_
            intro q hq2
            by_cases e : q = j
            · subst e; exact ⟨c2, c3⟩
            · exact hq q (by omega)
          · rw [T4] at c3
            exact ⟨Or.inl rfl, h0 j (by omega) (by omega)⟩
  refine bm_go (am_ok_all 237 (by decide)) 40 ?_
  exact lp n 0 _ rfl (Nat.zero_le _) rfl (fun q hq => by omega)
theorem sp_follow_46 {T : tT} {s : sT} (sh n : Nat) (hn : (I 46 1).toInt = (n : Int)) (hs60 : n ≤ 60) (hT : tOk T) (hc : cT T I) (hL : cL T sh 13 I) (hs : sC s 20 I) (ks : sOk T s) (a : Nat → Nat) (ha : ∀ j, j < n → I 47 j = nI (a j) ∧ a j < 5) (h : ∀ m I', canM T sh s a n m → frN [20] I I' → sC (runS T sh s a m) 20 I' → Q (some (.int (nI m))) t I' L) : bm_C G l 228 [.ref 20, .ref 7, .ref 12, .ref 46] t I L Q := by
  have lp : ∀ d j y (I1 : am_I), n - j = d → j ≤ n → y = nI j → frN [20] I I1 → sC (runS T sh s a j) 20 I1 → (∀ i, i < j → may1 T sh (runS T sh s a i) (a i) = true) → bm_W G l 228 3 [some (.ref 20), some (.ref 7), some (.ref 12), some (.ref 46), some (.int y)] [] t I1 L Q := by
    intro d
    induction d with
    | zero =>
      intro j y I1 hd hj hy f1 s1 hm
      obtain rfl : j = n := by omega
      subst hy
      have ez : I1 46 1 = nI j := by
        rw [f1 46 (by decide)]
        exact Int32.toInt_inj.mp (by rw [hn, nI_toInt (by omega)])
      refine bm_go (am_ok_all 228 (by decide)) 40 ?_
      refine And.intro (fun cd => ?_) (fun cd => ?_)
      · have := h j I1 ⟨Nat.le_refl _, hm, fun q => by omega⟩ f1 s1
        rw [← ez] at this
        exact this
      · rw [ez] at cd
        omega
    | succ d ih =>
      intro j y I1 hd hj hy f1 s1 hm
      subst hy
      have ag1 := f1.agH (by decide) (by decide)
      have eo : I1 46 = I 46 := f1 46 (by decide)
      have eI : I1 47 = I 47 := f1 47 (by decide)
      have ei : itm (I1 46 1) (I1 47) (nI j) = nI (a j) := by
        unfold itm
        rw [nI_toInt (by omega), eo, eI, if_pos (by omega)]
        exact (ha j (by omega)).1
      have a5 := (ha j (by omega)).2
      have mlt : mayN T sh (runS T sh s a j) < 2 ^ 5 := bO_lt _ _
      have emay : (mayN T sh (runS T sh s a j)).testBit (a j) = may1 T sh (runS T sh s a j) (a j) := by
        unfold mayN
        rw [tb_bO]
        simp [a5]
      refine bm_go (am_ok_all 228 (by decide)) 40 ?_
      refine And.intro (fun cd => ?_) (fun cd => ?_)
      · rw [eo, nI_toInt (by omega)] at cd
        omega
      · refine sp_allowed_20 (s := runS T sh s a j) sh hT (hc.agH ag1) (hL.agH ag1) s1 (runS_ok hT sh ks a j) ?_
        refine sp_item_46 (by rw [eo]; omega) ?_
        rw [ei]
        refine sp_isIn _ (a j) rfl rfl (by omega) (by omega) (fun e => ?_) (fun e => ?_)
        · rw [emay] at e
          first | refine And.intro (fun cd => absurd cd (by decide)) (fun _ => ?_) | refine And.intro (fun _ => ?_) (fun cd => absurd cd (by decide)) | refine And.intro (fun cd => ?_) (fun cd => ?_)
          refine sp_item_46 (by rw [eo]; omega) ?_
          rw [ei]
          refine sp_carry_20 (s := runS T sh s a j) sh (a j) rfl hT (hc.agH ag1) (hL.agH ag1) s1 (runS_ok hT sh ks a j) (may_gOk a5 e) (fun I2 f2 s2 => ?_)
          refine ih (j + 1) _ I2 (by omega) (by omega) (nI_succ j).symm (f1.trans f2) s2 (fun i hi => ?_)
          by_cases q : i = j
          · subst q; exact e
          · exact hm i (by omega)
        · rw [emay] at e
          first | refine And.intro (fun cd => absurd cd (by decide)) (fun _ => ?_) | refine And.intro (fun _ => ?_) (fun cd => absurd cd (by decide)) | refine And.intro (fun cd => ?_) (fun cd => ?_)
          exact h j I1 ⟨by omega, hm, fun _ => e⟩ f1 s1
  refine bm_go (am_ok_all 228 (by decide)) 40 ?_
  exact lp n 0 _ I rfl (Nat.zero_le _) rfl (frN.refl _ _) hs (fun i hi => by omega)
theorem sp_within_48 (n : Nat) (hn : (I 48 1).toInt = (n : Int)) (hs : n ≤ 60) (h1 : (∀ j, j < n → 0 ≤ (I 49 j).toInt ∧ (I 49 j).toInt ≤ 4) → Q (some (.int 1)) t I L) (h0 : ∀ j, j < n → ((I 49 j).toInt < 0 ∨ 4 < (I 49 j).toInt) → Q (some (.int 0)) t I L) : bm_C G l 237 [.ref 48, .int 0, .int 4] t I L Q := by
  have lp : ∀ d j y, n - j = d → j ≤ n → y = nI j → (∀ q, q < j → 0 ≤ (I 49 q).toInt ∧ (I 49 q).toInt ≤ 4) → bm_W G l 237 2 [some (.ref 48), some (.int 0), some (.int 4), some (.int y)] [] t I L Q := by
    intro d
    induction d with
    | zero =>
      intro j y hd hj hy hq
      obtain rfl : j = n := by omega
      subst hy
      refine bm_go (am_ok_all 237 (by decide)) 40 ?_
      refine And.intro (fun cd => ⟨Or.inr rfl, h1 hq⟩) (fun cd => ?_)
      rw [nI_toInt (by omega)] at cd
      omega
    | succ d ih =>
      intro j y hd hj hy hq
      subst hy
      have ei : itm (I 48 1) (I 49) (nI j) = I 49 j := by
        unfold itm
        rw [nI_toInt (by omega), if_pos (by omega)]
        rfl
      refine bm_go (am_ok_all 237 (by decide)) 40 ?_
      refine And.intro (fun cd => ?_) (fun cd => ?_)
      · rw [nI_toInt (by omega)] at cd
        omega
      · refine sp_item_48 (by omega) ?_
        rw [ei]
        refine And.intro (fun c2 => ?_) (fun c2 => ?_)
        · rw [T0] at c2
          exact ⟨Or.inl rfl, h0 j (by omega) (by omega)⟩
        · rw [T0] at c2
          refine sp_item_48 (by omega) ?_
          rw [ei]
          refine And.intro (fun c3 => ?_) (fun c3 => ?_)
          · rw [T4] at c3
            refine ih (j + 1) _ (by omega) (by omega) (nI_succ j).symm ?_
            intro q hq2
            by_cases e : q = j
            · subst e; exact ⟨c2, c3⟩
            · exact hq q (by omega)
          · rw [T4] at c3
            exact ⟨Or.inl rfl, h0 j (by omega) (by omega)⟩
  refine bm_go (am_ok_all 237 (by decide)) 40 ?_
  exact lp n 0 _ rfl (Nat.zero_le _) rfl (fun q hq => by omega)
theorem sp_follow_48 {T : tT} {s : sT} (sh n : Nat) (hn : (I 48 1).toInt = (n : Int)) (hs60 : n ≤ 60) (hT : tOk T) (hc : cT T I) (hL : cL T sh 13 I) (hs : sC s 20 I) (ks : sOk T s) (a : Nat → Nat) (ha : ∀ j, j < n → I 49 j = nI (a j) ∧ a j < 5) (h : ∀ m I', canM T sh s a n m → frN [20] I I' → sC (runS T sh s a m) 20 I' → Q (some (.int (nI m))) t I' L) : bm_C G l 228 [.ref 20, .ref 7, .ref 12, .ref 48] t I L Q := by
  have lp : ∀ d j y (I1 : am_I), n - j = d → j ≤ n → y = nI j → frN [20] I I1 → sC (runS T sh s a j) 20 I1 → (∀ i, i < j → may1 T sh (runS T sh s a i) (a i) = true) → bm_W G l 228 3 [some (.ref 20), some (.ref 7), some (.ref 12), some (.ref 48), some (.int y)] [] t I1 L Q := by
    intro d
    induction d with
    | zero =>
      intro j y I1 hd hj hy f1 s1 hm
      obtain rfl : j = n := by omega
      subst hy
      have ez : I1 48 1 = nI j := by
        rw [f1 48 (by decide)]
        exact Int32.toInt_inj.mp (by rw [hn, nI_toInt (by omega)])
      refine bm_go (am_ok_all 228 (by decide)) 40 ?_
      refine And.intro (fun cd => ?_) (fun cd => ?_)
      · have := h j I1 ⟨Nat.le_refl _, hm, fun q => by omega⟩ f1 s1
        rw [← ez] at this
        exact this
      · rw [ez] at cd
        omega
    | succ d ih =>
      intro j y I1 hd hj hy f1 s1 hm
      subst hy
      have ag1 := f1.agH (by decide) (by decide)
      have eo : I1 48 = I 48 := f1 48 (by decide)
      have eI : I1 49 = I 49 := f1 49 (by decide)
      have ei : itm (I1 48 1) (I1 49) (nI j) = nI (a j) := by
        unfold itm
        rw [nI_toInt (by omega), eo, eI, if_pos (by omega)]
        exact (ha j (by omega)).1
      have a5 := (ha j (by omega)).2
      have mlt : mayN T sh (runS T sh s a j) < 2 ^ 5 := bO_lt _ _
      have emay : (mayN T sh (runS T sh s a j)).testBit (a j) = may1 T sh (runS T sh s a j) (a j) := by
        unfold mayN
        rw [tb_bO]
        simp [a5]
      refine bm_go (am_ok_all 228 (by decide)) 40 ?_
      refine And.intro (fun cd => ?_) (fun cd => ?_)
      · rw [eo, nI_toInt (by omega)] at cd
        omega
      · refine sp_allowed_20 (s := runS T sh s a j) sh hT (hc.agH ag1) (hL.agH ag1) s1 (runS_ok hT sh ks a j) ?_
        refine sp_item_48 (by rw [eo]; omega) ?_
        rw [ei]
        refine sp_isIn _ (a j) rfl rfl (by omega) (by omega) (fun e => ?_) (fun e => ?_)
        · rw [emay] at e
          first | refine And.intro (fun cd => absurd cd (by decide)) (fun _ => ?_) | refine And.intro (fun _ => ?_) (fun cd => absurd cd (by decide)) | refine And.intro (fun cd => ?_) (fun cd => ?_)
          refine sp_item_48 (by rw [eo]; omega) ?_
          rw [ei]
          refine sp_carry_20 (s := runS T sh s a j) sh (a j) rfl hT (hc.agH ag1) (hL.agH ag1) s1 (runS_ok hT sh ks a j) (may_gOk a5 e) (fun I2 f2 s2 => ?_)
          refine ih (j + 1) _ I2 (by omega) (by omega) (nI_succ j).symm (f1.trans f2) s2 (fun i hi => ?_)
          by_cases q : i = j
          · subst q; exact e
          · exact hm i (by omega)
        · rw [emay] at e
          first | refine And.intro (fun cd => absurd cd (by decide)) (fun _ => ?_) | refine And.intro (fun _ => ?_) (fun cd => absurd cd (by decide)) | refine And.intro (fun cd => ?_) (fun cd => ?_)
          exact h j I1 ⟨by omega, hm, fun _ => e⟩ f1 s1
  refine bm_go (am_ok_all 228 (by decide)) 40 ?_
  exact lp n 0 _ I rfl (Nat.zero_le _) rfl (frN.refl _ _) hs (fun i hi => by omega)
theorem sM.agH {s : sT} {I I' : am_I} (h : sM s 23 I) (e : I' 61 = I 61) : sM s 23 I' := by
  unfold sM at h ⊢
  rw [e]
  exact h
/-- the reference: judge, behind its checks -/
theorem sm_judge {T : tT} {s : sT} {x : Int32} (sh k n : Nat) (hx : x = nI k) (hk : k < 6) (hn : (I 63 k).toInt = (n : Int)) (hs60 : n ≤ 60) (hT : tOk T) (hm : mT T I) (hsh : I 61 19 = nI sh) (hs2 : sh < 2 ^ tN T) (hs : sM s 23 I) (ks : sOk T s) (a : Nat → Nat) (ha : ∀ j, j < n → I 64 (rb k + j) = nI (a j) ∧ a j < 5) (h : ∀ m I', canM T sh s a n m → fr61 [0] I I' → I' 61 0 = nI (pc (runS T sh s a m).2.1) → Q (some (.int (nI m))) t I' L) : bm_C G l 124 [.ref 61, .int x] t I L Q := by
  have n6 := hT.2.2.2.1
  have p6 := Nat.pow_le_pow_right (n := 2) (by decide) n6
  have hxt : x.toInt = (k : Int) := by rw [hx]; exact nI_toInt (by omega)
  have hrb := rb_le (k := k) (by omega)
  have hcp : cp k = 60 := if_pos hk
  have m13 : ¬ (I 61 13).toInt = 0 := by
    rcases cz hm.2.2.1 (Or.inl hT) with ⟨_, he⟩ | ⟨c0, _⟩
    · exact (nE hT he).elim
    · exact c0
  have ix : ∀ j, j < n → (nI (rb k) + nI j).toInt = ((rb k + j : Nat) : Int) := fun j hj => by rw [nI_add]; exact nI_toInt (by omega)
  have hz : I 61 26 = 0 ∨ I 61 26 = 1 := by
    rw [show I 61 26 = bI s.2.2.2 from hs.2.2.2]
    cases s.2.2.2
    · exact Or.inl rfl
    · exact Or.inr rfl
  have fin : ∀ m d7 (I1 : am_I), canM T sh s a n m → fr61 [23, 24, 25, 26] I I1 → sM (runS T sh s a m) 23 I1 → bm_W G l 124 157 [some (.ref 61), some (.int x), some (.int (I 61 23)), some (.int (I 61 24)), some (.int (I 61 25)), some (.int (I 61 26)), some (.int (nI m)), d7] [] t I1 L Q := by
    intro m d7 I1 hcm f1 s1
    have k1 := runS_ok hT sh ks a m
    refine bm_go (am_ok_all 124 (by decide)) 60 ?_
    refine sm_size (runS T sh s a m).2.1 s1.2.1 (by have := k1.2.2.1; omega) ?_
    refine ⟨hz, ?_⟩
    refine sm_tells ?_
    refine h m _ hcm ⟨fun y hy => ?_, fun j hj => ?_⟩ rfl
    · rw [u_ne hy, u_ne hy, u_ne hy, u_ne hy, u_ne hy]
      exact f1.1 y hy
    · have h0 : j ≠ 0 := by simpa using hj
      rw [u_nj h0]
      by_cases q6 : j = 26
      · subst q6; rfl
      rw [u_nj q6]
      by_cases q5 : j = 25
      · subst q5; rfl
      rw [u_nj q5]
      by_cases q4 : j = 24
      · subst q4; rfl
      rw [u_nj q4]
      by_cases q3 : j = 23
      · subst q3; rfl
      rw [u_nj q3]
      exact f1.2 j (by simp; omega)
  have lp2 : ∀ d j y d7 (I1 : am_I), n - j = d → j ≤ n → y = nI j → fr61 [23, 24, 25, 26] I I1 → sM (runS T sh s a j) 23 I1 → (∀ i, i < j → may1 T sh (runS T sh s a i) (a i) = true) → bm_W G l 124 105 [some (.ref 61), some (.int x), some (.int (I 61 23)), some (.int (I 61 24)), some (.int (I 61 25)), some (.int (I 61 26)), some (.int y), d7] [] t I1 L Q := by
    intro d
    induction d with
    | zero =>
      intro j y d7 I1 hd hj hy f1 s1 hmm
      obtain rfl : j = n := by omega
      subst hy
      refine bm_go (am_ok_all 124 (by decide)) 5 ?_
      refine ⟨k, hxt, (by omega : k < 10), ?_⟩
      refine And.intro (fun cd => fin j _ I1 ⟨Nat.le_refl _, hmm, fun q => by omega⟩ f1 s1) (fun cd => ?_)
      rw [f1.1 63 (by decide), nI_toInt (by omega)] at cd
      omega
    | succ d ih =>
      intro j y d7 I1 hd hj hy f1 s1 hmm
      subst hy
      have hm1 : mT T I1 := hm.f61 f1 (fun j h1 h2 => by simp; omega)
      have sh1 : I1 61 19 = nI sh := by rw [f1.2 19 (by decide)]; exact hsh
      obtain ⟨e1, e2⟩ := ha j (by omega)
      have e64 : I1 64 (rb k + j) = nI (a j) := by rw [f1.1 64 (by decide)]; exact e1
      cases e : may1 T sh (runS T sh s a j) (a j) with
      | true =>
        refine bm_go (am_ok_all 124 (by decide)) 60 ?_
        refine ⟨k, hxt, (by omega : k < 10), ?_⟩
        refine And.intro (fun cd => ?_) (fun cd => ?_)
        · rw [f1.1 63 (by decide), nI_toInt (by omega)] at cd
          omega
        · refine sm_base k hx (by omega) ?_
          refine ⟨rb k + j, ix j (by omega), (by omega : rb k + j < 680), ?_⟩
          rw [e64]
          refine sm_mayDo (s := runS T sh s a j) sh (a j) rfl e2 hT hm1 sh1 hs2 s1 (runS_ok hT sh ks a j) (fun _ => ?_) (fun e9 => by rw [e] at e9; cases e9)
          first | refine And.intro (fun cd => absurd cd (by decide)) (fun _ => ?_) | refine And.intro (fun _ => ?_) (fun cd => absurd cd (by decide)) | refine And.intro (fun cd => ?_) (fun cd => ?_)
          refine sm_base k hx (by omega) ?_
          refine ⟨rb k + j, ix j (by omega), (by omega : rb k + j < 680), ?_⟩
          rw [e64]
          refine sm_does (s := runS T sh s a j) sh (a j) rfl hT hm1 sh1 hs2 s1 (runS_ok hT sh ks a j) (may_gOk e2 e) (fun I2 f2 s2 => ?_)
          refine ih (j + 1) _ _ I2 (by omega) (by omega) (nI_succ j).symm (f1.trans f2) s2 (fun i hi => ?_)
          by_cases q : i = j
          · subst q; exact e
          · exact hmm i (by omega)
      | false =>
        refine bm_go (am_ok_all 124 (by decide)) 15 ?_
        refine ⟨k, hxt, (by omega : k < 10), ?_⟩
        refine And.intro (fun cd => ?_) (fun cd => ?_)
        · rw [f1.1 63 (by decide), nI_toInt (by omega)] at cd
          omega
        · refine sm_base k hx (by omega) ?_
          refine ⟨rb k + j, ix j (by omega), (by omega : rb k + j < 680), ?_⟩
          rw [e64]
          refine sm_mayDo (s := runS T sh s a j) sh (a j) rfl e2 hT hm1 sh1 hs2 s1 (runS_ok hT sh ks a j) (fun e9 => by rw [e] at e9; cases e9) (fun _ => ?_)
          first | refine And.intro (fun cd => absurd cd (by decide)) (fun _ => ?_) | refine And.intro (fun _ => ?_) (fun cd => absurd cd (by decide)) | refine And.intro (fun cd => ?_) (fun cd => ?_)
          exact fin j _ I1 ⟨by omega, hmm, fun _ => e⟩ f1 s1
  have lp1 : ∀ d j y d3 d4 d5 d6 d7, n - j = d → j ≤ n → y = nI j → bm_W G l 124 36 [some (.ref 61), some (.int x), some (.int y), d3, d4, d5, d6, d7] [] t I L Q := by
    intro d
    induction d with
    | zero =>
      intro j y d3 d4 d5 d6 d7 hd hj hy
      obtain rfl : j = n := by omega
      subst hy
      refine bm_go (am_ok_all 124 (by decide)) 60 ?_
      refine ⟨k, hxt, (by omega : k < 10), ?_⟩
      refine And.intro (fun cd => ?_) (fun cd => ?_)
      · exact lp2 j 0 _ _ I rfl (Nat.zero_le _) rfl (fr61.refl _ _) hs (fun i hi => by omega)
      · rw [nI_toInt (by omega)] at cd
        omega
    | succ d ih =>
      intro j y d3 d4 d5 d6 d7 hd hj hy
      subst hy
      obtain ⟨e1, e2⟩ := ha j (by omega)
      refine bm_go (am_ok_all 124 (by decide)) 60 ?_
      refine ⟨k, hxt, (by omega : k < 10), ?_⟩
      refine And.intro (fun cd => ?_) (fun cd => ?_)
      · rw [nI_toInt (by omega)] at cd
        omega
      · refine sm_base k hx (by omega) ?_
        refine ⟨rb k + j, ix j (by omega), (by omega : rb k + j < 680), ?_⟩
        rw [e1]
        refine sm_in (a j) 0 4 ((i64 _).trans (nI_toInt (by omega))) rfl rfl (fun y1 y2 => ?_) (fun y1 => by omega)
        first | refine And.intro (fun cd => absurd cd (by decide)) (fun _ => ?_) | refine And.intro (fun _ => ?_) (fun cd => absurd cd (by decide)) | refine And.intro (fun cd => ?_) (fun cd => ?_)
        exact ih (j + 1) _ _ _ _ _ _ (by omega) (by omega) (nI_succ j).symm
  refine bm_go (am_ok_all 124 (by decide)) 60 ?_
  refine sm_isRow (fun y1 y2 => ?_) (fun y1 => by omega)
  first | refine And.intro (fun cd => absurd cd (by decide)) (fun _ => ?_) | refine And.intro (fun _ => ?_) (fun cd => absurd cd (by decide)) | refine And.intro (fun cd => ?_) (fun cd => ?_)
  refine And.intro (fun _ => ?_) (fun cd => absurd cd m13)
  refine ⟨k, hxt, (by omega : k < 10), ?_⟩
  refine And.intro (fun _ => ?_) (fun cd => by omega)
  exact lp1 n 0 _ _ _ _ _ _ rfl (Nat.zero_le _) rfl
/-- a number that is none -/
theorem sm_judgeBad {x : Int32} (k n : Nat) (hx : x = nI k) (hk : k < 6) (hn : (I 63 k).toInt = (n : Int)) (hs60 : n ≤ 60) (m13 : ¬ (I 61 13).toInt = 0) (j : Nat) (hj : j < n) (hb : (I 64 (rb k + j)).toInt < 0 ∨ 4 < (I 64 (rb k + j)).toInt) (h : Q (some (.int (-3))) t (am_u (am_u I 61 3 3) 62 3 (I 62 3 + 1)) L) : bm_C G l 124 [.ref 61, .int x] t I L Q := by
  have hxt : x.toInt = (k : Int) := by rw [hx]; exact nI_toInt (by omega)
  have hrb := rb_le (k := k) (by omega)
  have hcp : cp k = 60 := if_pos hk
  have ix : ∀ j, j < n → (nI (rb k) + nI j).toInt = ((rb k + j : Nat) : Int) := fun j hj => by rw [nI_add]; exact nI_toInt (by omega)
  have lp1 : ∀ d i y d3 d4 d5 d6 d7, j - i = d → i ≤ j → y = nI i → bm_W G l 124 36 [some (.ref 61), some (.int x), some (.int y), d3, d4, d5, d6, d7] [] t I L Q := by
    intro d
    induction d with
    | zero =>
      intro i y d3 d4 d5 d6 d7 hd hi hy
      obtain rfl : i = j := by omega
      subst hy
      refine bm_go (am_ok_all 124 (by decide)) 60 ?_
      refine ⟨k, hxt, (by omega : k < 10), ?_⟩
      refine And.intro (fun cd => ?_) (fun cd => ?_)
      · rw [nI_toInt (by omega)] at cd
        omega
      · refine sm_base k hx (by omega) ?_
        refine ⟨rb k + i, ix i (by omega), (by omega : rb k + i < 680), ?_⟩
        refine sm_in _ 0 4 (i64 _) rfl rfl (fun y1 y2 => by omega) (fun y1 => ?_)
        first | refine And.intro (fun cd => absurd cd (by decide)) (fun _ => ?_) | refine And.intro (fun _ => ?_) (fun cd => absurd cd (by decide)) | refine And.intro (fun cd => ?_) (fun cd => ?_)
        exact sm_finds 3 rfl (by decide) h
    | succ d ih =>
      intro i y d3 d4 d5 d6 d7 hd hi hy
      subst hy
      refine bm_go (am_ok_all 124 (by decide)) 60 ?_
      refine ⟨k, hxt, (by omega : k < 10), ?_⟩
      refine And.intro (fun cd => ?_) (fun cd => ?_)
      · rw [nI_toInt (by omega)] at cd
        omega
      · refine sm_base k hx (by omega) ?_
        refine ⟨rb k + i, ix i (by omega), (by omega : rb k + i < 680), ?_⟩
        refine sm_in _ 0 4 (i64 _) rfl rfl (fun y1 y2 => ?_) (fun y1 => ?_)
        · first | refine And.intro (fun cd => absurd cd (by decide)) (fun _ => ?_) | refine And.intro (fun _ => ?_) (fun cd => absurd cd (by decide)) | refine And.intro (fun cd => ?_) (fun cd => ?_)
          exact ih (i + 1) _ _ _ _ _ _ (by omega) (by omega) (nI_succ i).symm
        · first | refine And.intro (fun cd => absurd cd (by decide)) (fun _ => ?_) | refine And.intro (fun _ => ?_) (fun cd => absurd cd (by decide)) | refine And.intro (fun cd => ?_) (fun cd => ?_)
          exact sm_finds 3 rfl (by decide) h
  refine bm_go (am_ok_all 124 (by decide)) 60 ?_
  refine sm_isRow (fun y1 y2 => ?_) (fun y1 => by omega)
  first | refine And.intro (fun cd => absurd cd (by decide)) (fun _ => ?_) | refine And.intro (fun _ => ?_) (fun cd => absurd cd (by decide)) | refine And.intro (fun cd => ?_) (fun cd => ?_)
  refine And.intro (fun _ => ?_) (fun cd => absurd cd m13)
  refine ⟨k, hxt, (by omega : k < 10), ?_⟩
  refine And.intro (fun _ => ?_) (fun cd => by omega)
  exact lp1 j 0 _ _ _ _ _ _ rfl (Nat.zero_le _) rfl
end PJ

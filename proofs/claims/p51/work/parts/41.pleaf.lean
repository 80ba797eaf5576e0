/-! pairs: cell, lamp, shines, light; small words -/
theorem pc_lt (s : Nat) : pc s < 2 ^ 31 := Nat.lt_of_le_of_lt (pc_le s) (by decide)
section PL
variable {G : am_G} {l : Launch} {t : am_T} {I : am_I} {L : am_J} {Q : bm_P}
theorem sp_isLamp {T : tT} {x : Int32} (hT : tOK T) (hn : I 7 3 = nI (tN T)) (h1 : ∀ k, k < tN T → x = nI k → Q (some (.int 1)) t I L) (h0 : (x.toInt < 0 ∨ (tN T : Int) ≤ x.toInt) → Q (some (.int 0)) t I L) : bm_C G l 59 [.ref 0, .int x] t I L Q := by
  have n6 := hT.n6
  have e : (I 7 3).toInt = (tN T : Int) := by rw [hn]; exact nI_toInt (by omega)
  refine bm_go (am_ok_all 59 (by decide)) 20 ?_
  refine And.intro (fun cd => ⟨Or.inl rfl, h0 (by omega)⟩) (fun cd => ?_)
  refine And.intro (fun c2 => ⟨Or.inl rfl, h0 (by omega)⟩) (fun c2 => ⟨Or.inr rfl, h1 x.toInt.toNat (by omega) (of_nn cd)⟩)
theorem tOK.c24 {T : tT} (h : tOK T) : tC T ≤ 24 := by
  rcases h with h | h
  · exact h.1.c24
  · unfold tC; rw [h.1]; omega
theorem sp_isCell {T : tT} {x : Int32} (hT : tOK T) (hn : I 7 0 = nI (tC T)) (h1 : ∀ k, k < tC T → x = nI k → Q (some (.int 1)) t I L) (h0 : (x.toInt < 0 ∨ (tC T : Int) ≤ x.toInt) → Q (some (.int 0)) t I L) : bm_C G l 58 [.ref 0, .int x] t I L Q := by
  have n6 := hT.c24
  have e : (I 7 0).toInt = (tC T : Int) := by rw [hn]; exact nI_toInt (by omega)
  refine bm_go (am_ok_all 58 (by decide)) 20 ?_
  refine And.intro (fun cd => ⟨Or.inl rfl, h0 (by omega)⟩) (fun cd => ?_)
  refine And.intro (fun c2 => ⟨Or.inl rfl, h0 (by omega)⟩) (fun c2 => ⟨Or.inr rfl, h1 x.toInt.toNat (by omega) (of_nn cd)⟩)
theorem tb_al {T : tT} {i : Nat} : (al T).testBit i = decide (i < tN T) := Nat.testBit_two_pow_sub_one _ _
theorem sp_isSet {T : tT} {x : Int32} (hT : tOK T) (hn : I 7 3 = nI (tN T)) (h1 : ∀ s, s < 2 ^ tN T → x = nI s → Q (some (.int 1)) t I L) (h0 : (x.toInt < 0 ∨ ((2 ^ tN T : Nat) : Int) ≤ x.toInt) → Q (some (.int 0)) t I L) : bm_C G l 60 [.ref 0, .int x] t I L Q := by
  have n6 := hT.n6
  have a64 := al_lt hT
  have p6 := Nat.pow_le_pow_right (n := 2) (by decide) n6
  have hx := n_un x
  have ux := un_lt x
  generalize un x = s at hx ux
  subst hx
  have key : s < 2 ^ tN T ↔ (nI s &&& (nI (al T) ^^^ -1)).toInt = 0 := by
    rw [km1, n_cm, n_and]
    have hlt : s &&& cm (al T) < 2 ^ 32 := and_lt _ ux
    have : (nI (s &&& cm (al T))).toInt = 0 ↔ s &&& cm (al T) = 0 := by
      constructor
      · intro q
        have q2 : nI (s &&& cm (al T)) = nI 0 := Int32.toInt_inj.mp q
        exact n_eq32 hlt (by decide) q2
      · intro q; rw [q]; rfl
    rw [this]
    constructor
    · intro q
      apply Nat.eq_of_testBit_eq
      intro i
      rw [tb_and_cm ux, tb_al, Nat.zero_testBit]
      by_cases hi : i < tN T
      · simp [hi]
      · rw [tb_big q (by omega)]; rfl
    · intro q
      apply Nat.lt_pow_two_of_testBit
      intro i hi
      have := congrArg (fun z => z.testBit i) q
      simp only [Nat.zero_testBit] at this
      rw [tb_and_cm ux, tb_al] at this
      simpa [show ¬ i < tN T by omega] using this
  have sg : ¬ s < 2 ^ tN T → (nI s).toInt < 0 ∨ ((2 ^ tN T : Nat) : Int) ≤ (nI s).toInt := by
    intro q
    by_cases h31 : s < 2 ^ 31
    · right
      rw [nI_toInt h31]
      omega
    · left
      have : (nI s).toInt = (s : Int) - 2 ^ 32 := by
        show (nI s).toBitVec.toInt = _
        rw [BitVec.toInt_eq_toNat_cond, n_tn ux]
        rw [if_neg (by omega)]
        rfl
      omega
  refine bm_go (am_ok_all 60 (by decide)) 20 ?_
  refine sp_all hT hn ?_
  refine And.intro (fun cd => ?_) (fun cd => ?_)
  · exact ⟨Or.inl rfl, h0 (sg (fun q => cd (key.mp q)))⟩
  · exact ⟨Or.inr rfl, h1 s (key.mpr cd) rfl⟩
theorem tE.c0 {T : tT} (h : tE T) : tC T = 0 := by unfold tC; rw [h.1]; exact Nat.zero_mul _
theorem xn {x : Int32} {k n : Nat} (hx : x = nI k) (hk : k < n) (hn : n < 1000) : 0 ≤ x.toInt ∧ x.toInt < n := by
  rw [hx, nI_toInt (by omega)]
  omega
theorem xe {x : Int32} {k j : Nat} (hx : x = nI k) (hj : x = nI j) (hk : k < 1000) (hj2 : j < 1000) : j = k := by
  rw [hx] at hj
  have := congrArg Int32.toInt hj
  rw [nI_toInt (by omega), nI_toInt (by omega)] at this
  omega
end PL

/-! steps from lamp to lamp: the reference -/
theorem steps_b {T : tT} (hT : tG T) {f own br al6 own7 i : Nat} (hf : f < 2 ^ 24) (hal : ∀ x, x < 32 → al6.testBit x = (own.testBit x || br.testBit x)) (how : ∀ x, x < 32 → own7.testBit x = (own.testBit x && !br.testBit x)) : (wo T f own br i).1 ||| spT T (wo T f own br i).1 &&& own7 = (wo T f own br (i + 1)).1 ∧ (wo T f own br i).2 ||| (spT T (wo T f own br i).2 ||| spT T (wo T f own br i).1) &&& cm al6 = (wo T f own br (i + 1)).2 := by
  obtain ⟨A', B', hA, hB, cA, cB, hs, oA, oB, big⟩ := fq_all (own := own) (br := br) hT hf i
  have eA : (wo T f own br (i + 1)).1 = (wo T f own br i).1 ||| (nr T (wo T f own br i).1 &&& cm br) &&& own := rfl
  have eB : (wo T f own br (i + 1)).2 = (wo T f own br i).2 ||| ((nr T (wo T f own br i).1 ||| nr T (wo T f own br i).2) &&& cm br) &&& cm own := rfl
  constructor
  · apply Nat.eq_of_testBit_eq
    intro x
    rw [eA, spT_eq]
    by_cases hx : x < 32
    · simp only [Nat.testBit_or, Nat.testBit_and, tb_cm hx, how x hx]
      cases (wo T f own br i).1.testBit x <;> cases (nr T (wo T f own br i).1).testBit x <;> cases own.testBit x <;> cases br.testBit x <;> simp
    · obtain ⟨b1, b2⟩ := big x (by omega)
      simp only [Nat.testBit_or, Nat.testBit_and, nr_big hT (by omega : 32 ≤ x), b1, Bool.false_and, Bool.or_self]
  · apply Nat.eq_of_testBit_eq
    intro x
    rw [eB, spT_eq, spT_eq]
    by_cases hx : x < 32
    · have o := oA x hx
      simp only [Nat.testBit_or, Nat.testBit_and, tb_cm hx, hal x hx]
      revert o
      cases (wo T f own br i).1.testBit x <;> cases (wo T f own br i).2.testBit x <;> cases (nr T (wo T f own br i).1).testBit x <;> cases (nr T (wo T f own br i).2).testBit x <;> cases own.testBit x <;> cases br.testBit x <;> cases (tS T).testBit x <;> simp
    · obtain ⟨b1, b2⟩ := big x (by omega)
      simp only [Nat.testBit_or, Nat.testBit_and, nr_big hT (by omega : 32 ≤ x), b1, b2, Bool.false_and, Bool.or_self]
section PS
variable {G : am_G} {l : Launch} {t : am_T} {I : am_I} {L : am_J} {Q : bm_P}
/-- its loop, whatever is inside and outside -/
theorem lp_steps {T : tT} (hT : tG T) (hm : mT T I) (f own br al6 own7 p : Nat) {a1 a2 a3 a4 a5 : Int32} (hf : f < 2 ^ tC T) (h0 : f ≠ 0) (hp : p < 32) (ha : al6 < 2 ^ 24) (ho : own7 < 2 ^ 24) (hal : ∀ x, x < 32 → al6.testBit x = (own.testBit x || br.testBit x)) (how : ∀ x, x < 32 → own7.testBit x = (own.testBit x && !br.testBit x)) (h : Q (some (.int (eM (fstN 25 (fun i => (wo T f own br i).2.testBit p))))) t I L) : ∀ d i y9 y10 y11 d12, tC T + 1 - i = d → i ≤ tC T + 1 → y11 = nI i → y9 = nI (wo T f own br i).1 → y10 = nI (wo T f own br i).2 → (∀ j, j < i → (wo T f own br j).2.testBit p = false) → bm_W G l 127 101 [some (.ref 61), some (.int a1), some (.int a2), some (.int a3), some (.int a4), some (.int a5), some (.int (nI al6)), some (.int (nI own7)), some (.int (nI (1 <<< p))), some (.int y9), some (.int y10), some (.int y11), d12] [] t I L Q := by
  have c24 := hT.c24
  have p24 := Nat.pow_le_pow_right (n := 2) (by decide) c24
  rw [pace_end hT hf h0] at h
  have e13 := hm.2.2.1
  intro d
  induction d with
  | zero =>
    intro i y9 y10 y11 d12 hd hi e11 e9 e10 hn
    obtain rfl : i = tC T + 1 := by omega
    subst e11
    rw [(fstN_none _ _).mpr hn] at h
    refine bm_go (am_ok_all 127 (by decide)) 60 ?_
    refine And.intro (fun _ => h) (fun cd => ?_)
    rw [e13, nI_toInt (by omega), nI_toInt (by omega)] at cd
    omega
  | succ d ih =>
    intro i y9 y10 y11 d12 hd hi e11 e9 e10 hn
    subst e11 e9 e10
    obtain ⟨w1, w2⟩ := wo_ltC (own := own) (br := br) hT hf i
    have w1 := Nat.lt_of_lt_of_le w1 p24
    have w2 := Nat.lt_of_lt_of_le w2 p24
    have ia : nI (wo T f own br i).2 &&& nI (1 <<< p) = nI ((wo T f own br i).2 &&& 1 <<< p) := n_and _ _
    have la := and_lt (1 <<< p) w2
    have iz : ((wo T f own br i).2 &&& 1 <<< p = 0) ↔ (wo T f own br i).2.testBit p = false := by
      constructor
      · intro e
        have := congrArg (fun v => v.testBit p) e
        simp only [Nat.testBit_and, tb_one, Nat.zero_testBit, decide_true, Bool.and_true] at this
        exact this
      · intro e
        apply Nat.eq_of_testBit_eq
        intro j
        rw [Nat.testBit_and, tb_one, Nat.zero_testBit]
        by_cases q : p = j
        · subst q; rw [e]; rfl
        · simp [q]
    refine bm_go (am_ok_all 127 (by decide)) 90 ?_
    refine And.intro (fun cd => ?_) (fun _ => ?_)
    · rw [e13, nI_toInt (by omega), nI_toInt (by omega)] at cd
      omega
    refine And.intro (fun cd => ?_) (fun cd => ?_)
    · rw [ia, nI_toInt (by omega)] at cd
      have b := iz.mp (by omega)
      refine sm_spreads _ hT hm rfl (by omega) ?_
      refine sm_spreads _ hT hm rfl (by omega) ?_
      refine sm_spreads _ hT hm rfl (by omega) ?_
      refine ih (i + 1) _ _ _ _ (by omega) (by omega) (nI_succ i).symm ?_ ?_ (fun j hj => ?_)
      · rw [n_and, n_or, (steps_b hT (Nat.lt_of_lt_of_le hf p24) hal how).1]
      · rw [n_or, km1, n_cm, n_and, n_or, (steps_b hT (Nat.lt_of_lt_of_le hf p24) hal how).2]
      · by_cases q : j = i
        · subst q; exact b
        · exact hn j (by omega)
    · rw [ia, nI_toInt (by omega)] at cd
      have b : (wo T f own br i).2.testBit p = true := by
        cases e : (wo T f own br i).2.testBit p with
        | true => rfl
        | false => exact absurd (by have := iz.mpr e; omega) cd
      have : fstN (tC T + 1) (fun i => (wo T f own br i).2.testBit p) = some i := (fstN_some _ _ _).mpr ⟨by omega, b, hn⟩
      rw [this] at h
      exact h
end PS

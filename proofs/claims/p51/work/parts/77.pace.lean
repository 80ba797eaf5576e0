/-! steps from lamp to lamp: the class counts them -/
theorem fstN_ext {p : Nat → Bool} {m j : Nat} (e : fstN m p = some j) {n : Nat} (h : m ≤ n) : fstN n p = some j := by
  rw [fstN_some] at e ⊢
  exact ⟨by omega, e.2⟩
theorem fstN_s (n : Nat) (p : Nat → Bool) : fstN (n + 1) p = match fstN n p with
    | some i => some i
    | none => if p n then some n else none := rfl
section PP
variable {G : am_G} {l : Launch} {t : am_T} {I : am_I} {L : am_J} {Q : bm_P}
theorem sp_notePaces {T : tT} {x y : Int32} (s : Nat) (hT : tOK T) (hc : cT T I) (hx : x = nI s) (hs : s < 2 ^ 24) (h : ∀ I', frN [26] I I' → (∀ k, k < 8 → I' 26 k = if k < tN T ∧ s.testBit (tP T k) = true then y else I 26 k) → Q none t I' L) : bm_C G l 186 [.ref 25, .ref 7, .int x, .int y] t I L Q := by
  subst hx
  have n6 := hT.n6
  have lp : ∀ d i z (I1 : am_I), tN T - i = d → i ≤ tN T → z = nI i → frN [26] I I1 → (∀ k, k < 8 → I1 26 k = if k < i ∧ s.testBit (tP T k) = true then y else I 26 k) → bm_W G l 186 3 [some (.ref 25), some (.ref 7), some (.int (nI s)), some (.int y), some (.int z)] [] t I1 L Q := by
    intro d
    induction d with
    | zero =>
      intro i z I1 hd hi hz f1 e1
      obtain rfl : i = tN T := by omega
      subst hz
      have e73 : I1 7 3 = nI (tN T) := by rw [f1 7 (by decide)]; exact hc.2.2.2.1
      refine bm_go (am_ok_all 186 (by decide)) 40 ?_
      refine And.intro (fun _ => h I1 f1 e1) (fun cd => ?_)
      rw [e73] at cd
      omega
    | succ d ih =>
      intro i z I1 hd hi hz f1 e1
      subst hz
      have e73 : I1 7 3 = nI (tN T) := by rw [f1 7 (by decide)]; exact hc.2.2.2.1
      have ok := hT.ok (k := i) (by omega)
      have lp := ok.2.2.2.2.1 i (by omega)
      have c24 := ok.1.c24
      have e9 : I1 9 i = nI (tP T i) := by rw [f1 9 (by decide)]; exact (hc.2.2.2.2.2.1 i (by omega)).2.1
      refine bm_go (am_ok_all 186 (by decide)) 40 ?_
      refine And.intro (fun cd => ?_) (fun _ => ?_)
      · rw [e73, nI_toInt (by omega), nI_toInt (by omega)] at cd
        omega
      refine sp_spotOf i (tP T i) rfl (by omega) e9 (by have := lp.2.1; omega) ?_
      have ea : nI (1 <<< tP T i) &&& nI s = nI (1 <<< tP T i &&& s) := n_and _ _
      have ez : (1 <<< tP T i &&& s = 0) ↔ s.testBit (tP T i) = false := by
        constructor
        · intro e
          have := congrArg (fun v => v.testBit (tP T i)) e
          simp only [Nat.testBit_and, tb_one, Nat.zero_testBit, decide_true, Bool.true_and] at this
          exact this
        · intro e
          apply Nat.eq_of_testBit_eq
          intro j
          rw [Nat.testBit_and, tb_one, Nat.zero_testBit]
          by_cases q : tP T i = j
          · subst q; rw [e]; simp
          · simp [q]
      have lt : 1 <<< tP T i &&& s < 2 ^ 24 := and_lt' _ hs
      refine And.intro (fun cd => ?_) (fun cd => ?_)
      · rw [ea, nI_toInt (by omega)] at cd
        have b : s.testBit (tP T i) = false := ez.mp (by omega)
        refine ih (i + 1) _ I1 (by omega) (by omega) (nI_succ i).symm f1 (fun k hk => ?_)
        rw [e1 k hk]
        by_cases q : k = i
        · subst q
          rw [if_neg (by omega), if_neg (by rw [b]; simp)]
        · by_cases q2 : k < i ∧ s.testBit (tP T k) = true
          · rw [if_pos q2, if_pos ⟨by omega, q2.2⟩]
          · rw [if_neg q2, if_neg (fun w => q2 ⟨by omega, w.2⟩)]
      · rw [ea, nI_toInt (by omega)] at cd
        have b : s.testBit (tP T i) = true := by
          cases e : s.testBit (tP T i) with
          | true => rfl
          | false => exact absurd (by have := ez.mpr e; omega) cd
        refine ⟨i, and7 (by omega), (by omega : i < 8), ?_⟩
        refine ih (i + 1) _ _ (by omega) (by omega) (nI_succ i).symm (f1.u (by decide)) (fun k hk => ?_)
        by_cases q : k = i
        · subst q
          rw [u_eq, if_pos ⟨by omega, b⟩]
        · rw [u_nj q, e1 k hk]
          by_cases q2 : k < i ∧ s.testBit (tP T k) = true
          · rw [if_pos q2, if_pos ⟨by omega, q2.2⟩]
          · rw [if_neg q2, if_neg (fun w => q2 ⟨by omega, w.2⟩)]
  refine bm_go (am_ok_all 186 (by decide)) 40 ?_
  exact lp _ 0 _ I rfl (Nat.zero_le _) rfl (frN.refl _ _) (fun k hk => by rw [if_neg (by omega)])
end PP

/-! steps from lamp to lamp: the reference -/
theorem steps_b {T : tT} (hT : tG T) {f own br al6 own7 i : Nat} (hf : f < 2 ^ 24) (hal : ∀ x, x < 32 → al6.testBit x = (own.testBit x || br.testBit x)) (how : ∀ x, x < 32 → own7.testBit x = (own.testBit x && !br.testBit x)) : (wo T f own br i).1 ||| spT T (wo T f own br i).1 &&& own7 = (wo T f own br (i + 1)).1 ∧ (wo T f own br i).2 ||| (spT T (wo T f own br i).2 ||| spT T (wo T f own br i).1) &&& cm al6 = (wo T f own br (i + 1)).2 := by
  obtain ⟨A', B', hA, hB, cA, cB, hs, oA, oB, big⟩ := fq_all (own := own) (br := br) hT hf i
  have eA : (wo T f own br (i + 1)).1 = (wo T f own br i).1 ||| (nr T (wo T f own br i).1 &&& cm br) &&& own := rfl
  have eB : (wo T f own br (i + 1)).2 = (wo T f own br i).2 ||| ((nr T (wo T f own br i).1 ||| nr T (wo T f own br i).2) &&& cm br) &&& cm own := rfl
  constructor
  · apply Nat.eq_of_testBit_eq
    intro x
    rw [eA, spT_eq]
    by_cases hx : x < 32
    · simp only [Nat.testBit_or, Nat.testBit_and, tb_cm hx, how x hx]
      cases (wo T f own br i).1.testBit x <;> cases (nr T (wo T f own br i).1).testBit x <;> cases own.testBit x <;> cases br.testBit x <;> simp
    · obtain ⟨b1, b2⟩ := big x (by omega)
      simp only [Nat.testBit_or, Nat.testBit_and, nr_big hT (by omega : 32 ≤ x), b1, Bool.false_and, Bool.or_self]
  · apply Nat.eq_of_testBit_eq
    intro x
    rw [eB, spT_eq, spT_eq]
    by_cases hx : x < 32
    · have o := oA x hx
      simp only [Nat.testBit_or, Nat.testBit_and, tb_cm hx, hal x hx]
      revert o
      cases (wo T f own br i).1.testBit x <;> cases (wo T f own br i).2.testBit x <;> cases (nr T (wo T f own br i).1).testBit x <;> cases (nr T (wo T f own br i).2).testBit x <;> cases own.testBit x <;> cases br.testBit x <;> cases (tS T).testBit x <;> simp
    · obtain ⟨b1, b2⟩ := big x (by omega)
      simp only [Nat.testBit_or, Nat.testBit_and, nr_big hT (by omega : 32 ≤ x), b1, b2, Bool.false_and, Bool.or_self]
section PS
variable {G : am_G} {l : Launch} {t : am_T} {I : am_I} {L : am_J} {Q : bm_P}
end PS

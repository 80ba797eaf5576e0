/-! steps from lamp to lamp: by new cells only -/
theorem nr_or (T : tT) (a b : Nat) : nr T (a ||| b) = nr T a ||| nr T b := by
  unfold nr
  have e1 : (a ||| b) >>> tW T = a >>> tW T ||| b >>> tW T := Nat.shiftRight_or_distrib
  have e2 : (a ||| b) <<< tW T = a <<< tW T ||| b <<< tW T := Nat.shiftLeft_or_distrib
  have e3 : ((a ||| b) &&& cm (rB T)) <<< 1 = (a &&& cm (rB T)) <<< 1 ||| (b &&& cm (rB T)) <<< 1 := by rw [Nat.and_or_distrib_right, Nat.shiftLeft_or_distrib]
  have e4 : ((a ||| b) &&& cm (lA T)) >>> 1 = (a &&& cm (lA T)) >>> 1 ||| (b &&& cm (lA T)) >>> 1 := by rw [Nat.and_or_distrib_right, Nat.shiftRight_or_distrib]
  rw [e1, e2, e3, e4, ← Nat.and_or_distrib_right]
  generalize a >>> tW T = p1
  generalize b >>> tW T = q1
  generalize a <<< tW T = p2
  generalize b <<< tW T = q2
  generalize (a &&& cm (rB T)) <<< 1 = p3
  generalize (b &&& cm (rB T)) <<< 1 = q3
  generalize (a &&& cm (lA T)) >>> 1 = p4
  generalize (b &&& cm (lA T)) >>> 1 = q4
  have : p1 ||| q1 ||| (p2 ||| q2) ||| (p3 ||| q3 ||| (p4 ||| q4)) = p1 ||| p2 ||| (p3 ||| p4) ||| (q1 ||| q2 ||| (q3 ||| q4)) := by
    apply Nat.eq_of_testBit_eq
    intro i
    simp only [Nat.testBit_or]
    cases p1.testBit i <;> cases p2.testBit i <;> cases p3.testBit i <;> cases p4.testBit i <;> simp
  rw [this]
/-- the new cells inside and outside, and all that were reached -/
def fq (T : tT) (f own br : Nat) : Nat → (Nat × Nat) × Nat
  | 0 => ((f &&& own, f &&& cm own), f)
  | i + 1 => ((nr T (fq T f own br i).1.1 &&& (cm br &&& cm (fq T f own br i).2) &&& own, (nr T (fq T f own br i).1.1 &&& (cm br &&& cm (fq T f own br i).2) ||| nr T (fq T f own br i).1.2 &&& (cm br &&& cm (fq T f own br i).2)) &&& cm own), (fq T f own br i).2 ||| (nr T (fq T f own br i).1.1 &&& (cm br &&& cm (fq T f own br i).2) &&& own ||| (nr T (fq T f own br i).1.1 &&& (cm br &&& cm (fq T f own br i).2) ||| nr T (fq T f own br i).1.2 &&& (cm br &&& cm (fq T f own br i).2)) &&& cm own))
theorem tb_nr_or {T : tT} {a b x : Nat} : (nr T (a ||| b)).testBit x = ((nr T a).testBit x || (nr T b).testBit x) := by rw [nr_or, Nat.testBit_or]
/-- what holds between all and the new -/
def fqI (T : tT) (f own br i : Nat) : Prop := ∃ A' B' : Nat, (wo T f own br i).1 = A' ||| (fq T f own br i).1.1 ∧ (wo T f own br i).2 = B' ||| (fq T f own br i).1.2 ∧
  (∀ x, x < 32 → (nr T A').testBit x = true → br.testBit x = false → own.testBit x = true → (wo T f own br i).1.testBit x = true) ∧
  (∀ x, x < 32 → ((nr T A').testBit x = true ∨ (nr T B').testBit x = true) → br.testBit x = false → own.testBit x = false → (wo T f own br i).2.testBit x = true) ∧
  (∀ x, x < 32 → (fq T f own br i).2.testBit x = ((wo T f own br i).1.testBit x || (wo T f own br i).2.testBit x)) ∧
  (∀ x, x < 32 → (wo T f own br i).1.testBit x = true → own.testBit x = true) ∧ (∀ x, x < 32 → (wo T f own br i).2.testBit x = true → own.testBit x = false) ∧ (∀ x, 32 ≤ x → (wo T f own br i).1.testBit x = false ∧ (wo T f own br i).2.testBit x = false)
theorem nr_big {T : tT} (hT : tG T) {s x : Nat} (hx : 32 ≤ x) : (nr T s).testBit x = false := tb_big (nr_lt hT s) (by omega)
theorem fq_0 {T : tT} {f own br : Nat} (hT : tG T) (hf : f < 2 ^ 24) : fqI T f own br 0 := by
  refine ⟨0, 0, (Nat.zero_or _).symm, (Nat.zero_or _).symm, ?_, ?_, ?_, ?_, ?_, ?_⟩
  · intro x hx e
    rw [show nr T 0 = 0 by unfold nr; simp] at e
    simp at e
  · intro x hx e
    rw [show nr T 0 = 0 by unfold nr; simp] at e
    simp at e
  · intro x hx
    show f.testBit x = ((f &&& own).testBit x || (f &&& cm own).testBit x)
    rw [Nat.testBit_and, tb_and_cm (w24 hf)]
    cases f.testBit x <;> cases own.testBit x <;> rfl
  · intro x hx e
    have e : (f &&& own).testBit x = true := e
    rw [Nat.testBit_and] at e
    simp only [Bool.and_eq_true] at e
    exact e.2
  · intro x hx e
    have e : (f &&& cm own).testBit x = true := e
    rw [tb_and_cm (w24 hf)] at e
    simp only [Bool.and_eq_true, Bool.not_eq_true'] at e
    exact e.2
  · intro x hx
    have h0 : f.testBit x = false := tb_big hf (by omega)
    constructor
    · show (f &&& own).testBit x = false
      rw [Nat.testBit_and, h0]
      rfl
    · show (f &&& cm own).testBit x = false
      rw [Nat.testBit_and, h0]
      rfl
theorem fq_s {T : tT} {f own br i : Nat} (hT : tG T) (h : fqI T f own br i) : fqI T f own br (i + 1) ∧ (wo T f own br (i + 1)).1 = (wo T f own br i).1 ||| (fq T f own br (i + 1)).1.1 ∧ (wo T f own br (i + 1)).2 = (wo T f own br i).2 ||| (fq T f own br (i + 1)).1.2 := by
  obtain ⟨A', B', hA, hB, cA, cB, hs, oA, oB, big⟩ := h
  have eA : (wo T f own br (i + 1)).1 = (wo T f own br i).1 ||| (nr T (wo T f own br i).1 &&& cm br) &&& own := rfl
  have eB : (wo T f own br (i + 1)).2 = (wo T f own br i).2 ||| ((nr T (wo T f own br i).1 ||| nr T (wo T f own br i).2) &&& cm br) &&& cm own := rfl
  have nA : nr T (wo T f own br i).1 = nr T A' ||| nr T (fq T f own br i).1.1 := by rw [hA, nr_or]
  have nB : nr T (wo T f own br i).2 = nr T B' ||| nr T (fq T f own br i).1.2 := by rw [hB, nr_or]
  have fA : (fq T f own br (i + 1)).1.1 = nr T (fq T f own br i).1.1 &&& (cm br &&& cm (fq T f own br i).2) &&& own := rfl
  have fB : (fq T f own br (i + 1)).1.2 = (nr T (fq T f own br i).1.1 &&& (cm br &&& cm (fq T f own br i).2) ||| nr T (fq T f own br i).1.2 &&& (cm br &&& cm (fq T f own br i).2)) &&& cm own := rfl
  have fS : (fq T f own br (i + 1)).2 = (fq T f own br i).2 ||| ((fq T f own br (i + 1)).1.1 ||| (fq T f own br (i + 1)).1.2) := rfl
  have gA : (wo T f own br (i + 1)).1 = (wo T f own br i).1 ||| (fq T f own br (i + 1)).1.1 := by
    apply Nat.eq_of_testBit_eq
    intro x
    by_cases hx : x < 32
    · have c := cA x hx
      have s := hs x hx
      have ob := oB x hx
      rw [eA, fA, nA]
      simp only [Nat.testBit_or, Nat.testBit_and, tb_cm hx, s] at *
      generalize (wo T f own br i).1.testBit x = a at *
      generalize (wo T f own br i).2.testBit x = b at *
      generalize (nr T A').testBit x = n1 at *
      generalize (nr T (fq T f own br i).1.1).testBit x = n2 at *
      generalize br.testBit x = r at *
      generalize own.testBit x = o at *
      revert c ob
      cases a <;> cases b <;> cases n1 <;> cases n2 <;> cases r <;> cases o <;> simp
    · rw [eA, fA]
      simp only [Nat.testBit_or, Nat.testBit_and, nr_big hT (by omega : 32 ≤ x), Bool.false_and]
  have gB : (wo T f own br (i + 1)).2 = (wo T f own br i).2 ||| (fq T f own br (i + 1)).1.2 := by
    apply Nat.eq_of_testBit_eq
    intro x
    by_cases hx : x < 32
    · have c := cB x hx
      have s := hs x hx
      have oa := oA x hx
      rw [eB, fB, nA, nB]
      simp only [Nat.testBit_or, Nat.testBit_and, tb_cm hx, s] at *
      generalize (wo T f own br i).1.testBit x = a at *
      generalize (wo T f own br i).2.testBit x = b at *
      generalize (nr T A').testBit x = n1 at *
      generalize (nr T B').testBit x = n3 at *
      generalize (nr T (fq T f own br i).1.1).testBit x = n2 at *
      generalize (nr T (fq T f own br i).1.2).testBit x = n4 at *
      generalize br.testBit x = r at *
      generalize own.testBit x = o at *
      revert c oa
      cases a <;> cases b <;> cases n1 <;> cases n2 <;> cases n3 <;> cases n4 <;> cases r <;> cases o <;> simp
    · rw [eB, fB]
      simp only [Nat.testBit_or, Nat.testBit_and, nr_big hT (by omega : 32 ≤ x), Bool.false_and, Bool.or_self]
  refine ⟨⟨(wo T f own br i).1, (wo T f own br i).2, gA, gB, ?_, ?_, ?_, ?_, ?_, ?_⟩, gA, gB⟩
  · intro x hx h1 h2 h3
    rw [eA, Nat.testBit_or, Nat.testBit_and, Nat.testBit_and, tb_cm hx, h1, h2, h3]
    simp
  · intro x hx h1 h2 h3
    rw [eB, Nat.testBit_or, Nat.testBit_and, Nat.testBit_and, Nat.testBit_or, tb_cm hx, tb_cm hx, h2, h3]
    rcases h1 with h1 | h1 <;> rw [h1] <;> simp
  · intro x hx
    rw [fS, gA, gB]
    simp only [Nat.testBit_or, hs x hx]
    cases (wo T f own br i).1.testBit x <;> cases (wo T f own br i).2.testBit x <;> cases (fq T f own br (i + 1)).1.1.testBit x <;> cases (fq T f own br (i + 1)).1.2.testBit x <;> rfl
  · intro x hx e
    rw [gA, Nat.testBit_or, fA, Nat.testBit_and] at e
    simp only [Bool.or_eq_true, Bool.and_eq_true] at e
    rcases e with e | e
    · exact oA x hx e
    · exact e.2
  · intro x hx e
    rw [gB, Nat.testBit_or, fB, Nat.testBit_and, tb_cm hx] at e
    simp only [Bool.or_eq_true, Bool.and_eq_true, Bool.not_eq_true'] at e
    rcases e with e | e
    · exact oB x hx e
    · exact e.2
  · intro x hx
    obtain ⟨b1, b2⟩ := big x hx
    rw [eA, eB]
    simp only [Nat.testBit_or, Nat.testBit_and, nr_big hT hx, b1, b2]
    exact ⟨rfl, rfl⟩
theorem fq_all {T : tT} {f own br : Nat} (hT : tG T) (hf : f < 2 ^ 24) : ∀ i, fqI T f own br i
  | 0 => fq_0 hT hf
  | i + 1 => (fq_s hT (fq_all hT hf i)).1

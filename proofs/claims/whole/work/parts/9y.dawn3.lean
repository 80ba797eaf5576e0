/-! putting out at dawn: the class's way -/
/-- new inside, new in others' light; all of both -/
def dc (T : tT) (p own ot : Nat) : Nat → (Nat × Nat) × Nat × Nat
  | 0 => ((1 <<< p, 0), 1 <<< p, 0)
  | i + 1 => (((nr T (dc T p own ot i).1.1 &&& own) &&& cm (dc T p own ot i).2.1, (((nr T (dc T p own ot i).1.1 &&& cm own) ||| nr T (dc T p own ot i).1.2) &&& ot) &&& cm (dc T p own ot i).2.2), (dc T p own ot i).2.1 ||| ((nr T (dc T p own ot i).1.1 &&& own) &&& cm (dc T p own ot i).2.1), (dc T p own ot i).2.2 ||| ((((nr T (dc T p own ot i).1.1 &&& cm own) ||| nr T (dc T p own ot i).1.2) &&& ot) &&& cm (dc T p own ot i).2.2))
def dcI (T : tT) (p own ot i : Nat) : Prop :=
  (∀ x, (dc T p own ot i).2.1.testBit x = (dw T p own ot i).1.testBit x) ∧
  (∃ W0 : Nat, (∀ x, (dw T p own ot i).1.testBit x = (W0.testBit x || (dc T p own ot i).1.1.testBit x)) ∧ (∀ x, (nr T W0).testBit x = true → own.testBit x = true → (dw T p own ot i).1.testBit x = true) ∧ ∀ x, (nr T W0).testBit x = true → own.testBit x = false → ot.testBit x = true → (dc T p own ot i).2.2.testBit x = true) ∧
  (∃ B0 : Nat, (∀ x, (dc T p own ot i).2.2.testBit x = (B0.testBit x || (dc T p own ot i).1.2.testBit x)) ∧ ∀ x, (nr T B0).testBit x = true → ot.testBit x = true → (dc T p own ot i).2.2.testBit x = true) ∧
  ∀ x, ((dc T p own ot i).2.2.testBit x = true → (dw T p own ot i).2.testBit x = true) ∧ ((dw T p own ot i).2.testBit x = true → (dc T p own ot i).2.2.testBit x = true ∨ (dw T p own ot i).1.testBit x = true)
theorem nr_0 (T : tT) : nr T 0 = 0 := by unfold nr; simp
theorem nr_split {T : tT} {a b c : Nat} (h : ∀ x, c.testBit x = (a.testBit x || b.testBit x)) (x : Nat) : (nr T c).testBit x = ((nr T a).testBit x || (nr T b).testBit x) := by
  have : c = a ||| b := Nat.eq_of_testBit_eq (fun i => by rw [h i, Nat.testBit_or])
  rw [this, tb_nr_or]
theorem dc_lt {T : tT} (hT : tG T) {p own ot : Nat} (hp : p < tC T) : ∀ i, (dc T p own ot i).1.1 < 2 ^ tC T ∧ (dc T p own ot i).1.2 < 2 ^ tC T ∧ (dc T p own ot i).2.1 < 2 ^ tC T ∧ (dc T p own ot i).2.2 < 2 ^ tC T
  | 0 => ⟨one_lt hp, Nat.two_pow_pos _, one_lt hp, Nat.two_pow_pos _⟩
  | i + 1 => by
    obtain ⟨h1, h2, h3, h4⟩ := dc_lt hT (own := own) (ot := ot) hp i
    have f : ∀ z c : Nat, (nr T z &&& own) &&& c < 2 ^ tC T := fun z c => and_lt _ (and_lt _ (nr_ltC hT _))
    have g : ∀ z w c : Nat, (((nr T z &&& cm own) ||| nr T w) &&& ot) &&& c < 2 ^ tC T := fun z w c => and_lt _ (and_lt _ (or_lt (and_lt _ (nr_ltC hT _)) (nr_ltC hT _)))
    exact ⟨f _ _, g _ _ _, or_lt h3 (f _ _), or_lt h4 (g _ _ _)⟩
theorem dc_all {T : tT} (hT : tG T) {p own ot : Nat} (hp : p < tC T) : ∀ i, dcI T p own ot i
  | 0 => by
    refine ⟨fun x => rfl, ⟨0, fun x => ?_, fun x h => ?_, fun x h => ?_⟩, ⟨0, fun x => ?_, fun x h => ?_⟩, fun x => ⟨fun h => h, fun h => Or.inl h⟩⟩
    · show (1 <<< p).testBit x = ((0 : Nat).testBit x || (1 <<< p).testBit x)
      rw [Nat.zero_testBit, Bool.false_or]
    · rw [nr_0, Nat.zero_testBit] at h; cases h
    · rw [nr_0, Nat.zero_testBit] at h; cases h
    · show (0 : Nat).testBit x = ((0 : Nat).testBit x || (0 : Nat).testBit x)
      rw [Nat.zero_testBit]
      rfl
    · rw [nr_0, Nat.zero_testBit] at h; cases h
  | i + 1 => by
    obtain ⟨s1, ⟨W0, w1, w2, w3⟩, ⟨B0, b1, b2⟩, p4⟩ := dc_all hT (own := own) (ot := ot) hp i
    have c24 := hT.c24
    have big : ∀ (z x : Nat), 32 ≤ x → (nr T z).testBit x = false := fun z x hx => nr_big hT hx
    have eF : (dc T p own ot (i + 1)).1.1 = (nr T (dc T p own ot i).1.1 &&& own) &&& cm (dc T p own ot i).2.1 := rfl
    have eB : (dc T p own ot (i + 1)).1.2 = (((nr T (dc T p own ot i).1.1 &&& cm own) ||| nr T (dc T p own ot i).1.2) &&& ot) &&& cm (dc T p own ot i).2.2 := rfl
    have eSF : (dc T p own ot (i + 1)).2.1 = (dc T p own ot i).2.1 ||| (dc T p own ot (i + 1)).1.1 := rfl
    have eSB : (dc T p own ot (i + 1)).2.2 = (dc T p own ot i).2.2 ||| (dc T p own ot (i + 1)).1.2 := rfl
    have eW : (dw T p own ot (i + 1)).1 = (dw T p own ot i).1 ||| (nr T (dw T p own ot i).1 &&& own) := rfl
    have eA : (dw T p own ot (i + 1)).2 = (dw T p own ot i).2 ||| ((nr T (dw T p own ot i).1 ||| nr T (dw T p own ot i).2) &&& ot) := rfl
    have tF : ∀ x, (dc T p own ot (i + 1)).1.1.testBit x = ((nr T (dc T p own ot i).1.1).testBit x && own.testBit x && !(dw T p own ot i).1.testBit x) := by
      intro x
      rw [eF]
      by_cases hx : x < 32
      · rw [Nat.testBit_and, Nat.testBit_and, tb_cm hx, s1]
      · rw [Nat.testBit_and, Nat.testBit_and, big _ x (by omega)]
        rfl
    have tB : ∀ x, (dc T p own ot (i + 1)).1.2.testBit x = ((((nr T (dc T p own ot i).1.1).testBit x && !own.testBit x) || (nr T (dc T p own ot i).1.2).testBit x) && ot.testBit x && !(dc T p own ot i).2.2.testBit x) := by
      intro x
      rw [eB]
      by_cases hx : x < 32
      · rw [Nat.testBit_and, Nat.testBit_and, Nat.testBit_or, Nat.testBit_and, tb_cm hx, tb_cm hx]
      · rw [Nat.testBit_and, Nat.testBit_and, Nat.testBit_or, Nat.testBit_and, big _ x (by omega), big _ x (by omega)]
        rfl
    have tW : ∀ x, (dw T p own ot (i + 1)).1.testBit x = ((dw T p own ot i).1.testBit x || (dc T p own ot (i + 1)).1.1.testBit x) := by
      intro x
      rw [eW, Nat.testBit_or, Nat.testBit_and, tF, nr_split w1 x]
      have := w2 x
      revert this
      cases (nr T W0).testBit x <;> cases own.testBit x <;> cases (dw T p own ot i).1.testBit x <;> cases (nr T (dc T p own ot i).1.1).testBit x <;> simp
    have tSF : ∀ x, (dc T p own ot (i + 1)).2.1.testBit x = (dw T p own ot (i + 1)).1.testBit x := by
      intro x
      rw [eSF, Nat.testBit_or, s1, tW]
    have tSB : ∀ x, (dc T p own ot (i + 1)).2.2.testBit x = ((dc T p own ot i).2.2.testBit x || (dc T p own ot (i + 1)).1.2.testBit x) := fun x => by rw [eSB, Nat.testBit_or]
    have q2 : ∀ x, (nr T (dw T p own ot i).1).testBit x = true → own.testBit x = true → (dw T p own ot (i + 1)).1.testBit x = true := by
      intro x h1 h2
      rw [eW, Nat.testBit_or, Nat.testBit_and, h1, h2, Bool.and_self, Bool.or_true]
    have q3 : ∀ x, (nr T (dw T p own ot i).1).testBit x = true → own.testBit x = false → ot.testBit x = true → (dc T p own ot (i + 1)).2.2.testBit x = true := by
      intro x h1 h2 h3
      rw [tSB, tB, h2, h3]
      rw [nr_split w1 x, Bool.or_eq_true] at h1
      rcases h1 with h1 | h1
      · rw [w3 x h1 h2 h3]
        rfl
      · rw [h1]
        cases (dc T p own ot i).2.2.testBit x <;> simp
    have q4 : ∀ x, (nr T (dc T p own ot i).2.2).testBit x = true → ot.testBit x = true → (dc T p own ot (i + 1)).2.2.testBit x = true := by
      intro x h1 h3
      rw [tSB, tB, h3]
      rw [nr_split b1 x, Bool.or_eq_true] at h1
      rcases h1 with h1 | h1
      · rw [b2 x h1 h3]
        rfl
      · rw [h1]
        cases (dc T p own ot i).2.2.testBit x <;> simp
    refine ⟨tSF, ⟨_, tW, q2, q3⟩, ⟨_, tSB, q4⟩, fun x => ⟨fun h => ?_, fun h => ?_⟩⟩
    · rw [tSB, Bool.or_eq_true] at h
      rcases h with h | h
      · exact (dw_up i).2 ((p4 x).1 h)
      · rw [tB] at h
        simp only [Bool.and_eq_true, Bool.or_eq_true, Bool.not_eq_true'] at h
        obtain ⟨⟨h1, h2⟩, -⟩ := h
        rw [eA, Nat.testBit_or, Nat.testBit_and, Nat.testBit_or, h2]
        rcases h1 with ⟨h1, -⟩ | h1
        · rw [nr_mono (b := (dw T p own ot i).1) (fun y hy => by rw [w1, hy, Bool.or_true]) h1]
          simp
        · rw [nr_mono (b := (dw T p own ot i).2) (fun y hy => (p4 y).1 (by rw [b1, hy, Bool.or_true])) h1]
          simp
    · rw [eA, Nat.testBit_or, Nat.testBit_and, Nat.testBit_or, Bool.or_eq_true, Bool.and_eq_true, Bool.or_eq_true] at h
      have inW : (nr T (dw T p own ot i).1).testBit x = true → ot.testBit x = true → (dc T p own ot (i + 1)).2.2.testBit x = true ∨ (dw T p own ot (i + 1)).1.testBit x = true := by
        intro h1 h2
        cases w : own.testBit x with
        | true => exact Or.inr (q2 x h1 w)
        | false => exact Or.inl (q3 x h1 w h2)
      rcases h with h | ⟨h | h, h2⟩
      · rcases (p4 x).2 h with r | r
        · exact Or.inl (by rw [tSB, r]; rfl)
        · exact Or.inr ((dw_up i).1 r)
      · exact inW h h2
      · have m := nr_mono (b := (dc T p own ot i).2.2 ||| (dw T p own ot i).1) (fun y hy => by
          rw [Nat.testBit_or, Bool.or_eq_true]
          exact (p4 y).2 hy) h
        rw [tb_nr_or, Bool.or_eq_true] at m
        rcases m with m | m
        · exact Or.inl (q4 x m h2)
        · exact inW m h2
/-- the new ones are reached, and what is reached first is among the new -/
theorem dc_in {T : tT} (hT : tG T) {p own ot i x : Nat} (hp : p < tC T) (h : ((dc T p own ot i).1.1 ||| (dc T p own ot i).1.2).testBit x = true) : (dwU T p own ot i).testBit x = true := by
  obtain ⟨s1, ⟨W0, w1, -, -⟩, ⟨B0, b1, -⟩, p4⟩ := dc_all hT (own := own) (ot := ot) hp i
  unfold dwU
  rw [Nat.testBit_or, Bool.or_eq_true] at h ⊢
  rcases h with h | h
  · exact Or.inl (by rw [w1, h, Bool.or_true])
  · exact Or.inr ((p4 x).1 (by rw [b1, h, Bool.or_true]))
theorem dc_new {T : tT} (hT : tG T) {p own ot x : Nat} (hp : p < tC T) : ∀ i, (dwU T p own ot i).testBit x = true → (∀ j, j < i → (dwU T p own ot j).testBit x = false) → ((dc T p own ot i).1.1 ||| (dc T p own ot i).1.2).testBit x = true
  | 0, h, _ => by
    have h : (1 <<< p ||| 0).testBit x = true := h
    exact h
  | i + 1, h, hn => by
    obtain ⟨s1, -, -, p4⟩ := dc_all hT (own := own) (ot := ot) hp (i + 1)
    obtain ⟨t1, -, -, r4⟩ := dc_all hT (own := own) (ot := ot) hp i
    have eSF : (dc T p own ot (i + 1)).2.1 = (dc T p own ot i).2.1 ||| (dc T p own ot (i + 1)).1.1 := rfl
    have eSB : (dc T p own ot (i + 1)).2.2 = (dc T p own ot i).2.2 ||| (dc T p own ot (i + 1)).1.2 := rfl
    have no := hn i (by omega)
    unfold dwU at h no
    rw [Nat.testBit_or, Bool.or_eq_false_iff] at no
    rw [Nat.testBit_or, Bool.or_eq_true] at h
    rw [Nat.testBit_or, Bool.or_eq_true]
    have inF : (dw T p own ot (i + 1)).1.testBit x = true → (dc T p own ot (i + 1)).1.1.testBit x = true := by
      intro w
      rw [← s1, eSF, Nat.testBit_or, t1, no.1, Bool.false_or] at w
      exact w
    rcases h with h | h
    · exact Or.inl (inF h)
    · rcases (p4 x).2 h with w | w
      · rw [eSB, Nat.testBit_or, Bool.or_eq_true] at w
        rcases w with w | w
        · rw [(r4 x).1 w] at no
          exact absurd no.2 (by decide)
        · exact Or.inr w
      · exact Or.inl (inF w)
theorem dc_stop {T : tT} {p own ot i : Nat} (h : (dc T p own ot i).1.1 ||| (dc T p own ot i).1.2 = 0) : ∀ d, (dc T p own ot (i + d)).1.1 = 0 ∧ (dc T p own ot (i + d)).1.2 = 0
  | 0 => Nat.or_eq_zero_iff.mp h
  | d + 1 => by
    obtain ⟨h1, h2⟩ := dc_stop h d
    have eF : (dc T p own ot (i + d + 1)).1.1 = (nr T (dc T p own ot (i + d)).1.1 &&& own) &&& cm (dc T p own ot (i + d)).2.1 := rfl
    have eB : (dc T p own ot (i + d + 1)).1.2 = (((nr T (dc T p own ot (i + d)).1.1 &&& cm own) ||| nr T (dc T p own ot (i + d)).1.2) &&& ot) &&& cm (dc T p own ot (i + d)).2.2 := rfl
    rw [show i + (d + 1) = i + d + 1 from rfl, eF, eB, h1, h2, nr_0]
    simp

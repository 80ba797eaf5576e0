/-! putting out at dawn: where one comes -/
/-- in the light of the one put out last, and by others' light; after i steps or fewer -/
def dw (T : tT) (p own ot : Nat) : Nat → Nat × Nat
  | 0 => (1 <<< p, 0)
  | i + 1 => ((dw T p own ot i).1 ||| (nr T (dw T p own ot i).1 &&& own), (dw T p own ot i).2 ||| ((nr T (dw T p own ot i).1 ||| nr T (dw T p own ot i).2) &&& ot))
def dwU (T : tT) (p own ot i : Nat) : Nat := (dw T p own ot i).1 ||| (dw T p own ot i).2
theorem dw_lt {T : tT} (hT : tG T) {p own ot : Nat} (hp : p < tC T) : ∀ i, (dw T p own ot i).1 < 2 ^ tC T ∧ (dw T p own ot i).2 < 2 ^ tC T
  | 0 => ⟨one_lt hp, Nat.two_pow_pos _⟩
  | i + 1 => by
    obtain ⟨h1, h2⟩ := dw_lt hT (own := own) (ot := ot) hp i
    exact ⟨or_lt h1 (and_lt _ (nr_ltC hT _)), or_lt h2 (and_lt _ (or_lt (nr_ltC hT _) (nr_ltC hT _)))⟩
theorem dw_up {T : tT} {p own ot x : Nat} (i : Nat) : ((dw T p own ot i).1.testBit x = true → (dw T p own ot (i + 1)).1.testBit x = true) ∧ ((dw T p own ot i).2.testBit x = true → (dw T p own ot (i + 1)).2.testBit x = true) := by
  refine ⟨fun h => ?_, fun h => ?_⟩
  · show ((dw T p own ot i).1 ||| _).testBit x = true
    rw [Nat.testBit_or, h]
    rfl
  · show ((dw T p own ot i).2 ||| _).testBit x = true
    rw [Nat.testBit_or, h]
    rfl
theorem dw_up' {T : tT} {p own ot x i : Nat} : ∀ d, ((dw T p own ot i).1.testBit x = true → (dw T p own ot (i + d)).1.testBit x = true) ∧ ((dw T p own ot i).2.testBit x = true → (dw T p own ot (i + d)).2.testBit x = true)
  | 0 => ⟨id, id⟩
  | d + 1 => by
    obtain ⟨h1, h2⟩ := dw_up' (T := T) (p := p) (own := own) (ot := ot) (x := x) (i := i) d
    exact ⟨fun h => (dw_up (i + d)).1 (h1 h), fun h => (dw_up (i + d)).2 (h2 h)⟩
/-- the inside grows a cell at least while it grows -/
theorem dw_w {T : tT} (hT : tG T) {p own ot : Nat} (hp : p < tC T) : ∀ i, (∃ x, (dw T p own ot i).1.testBit x = true ∧ ∀ j, j < i → (dw T p own ot j).1.testBit x = false) → i + 1 ≤ pcn (tC T) (dw T p own ot i).1
  | 0, _ => by
    have := (pcn_sub (tC T) 0 (1 <<< p) (fun j _ e => by simp at e)).2 ⟨p, hp, by simp, by rw [tb_one]; exact decide_eq_true rfl⟩
    show 0 + 1 ≤ pcn (tC T) (1 <<< p)
    omega
  | i + 1, ⟨x, hx, hn⟩ => by
    have xi := hn i (by omega)
    have e1 : (dw T p own ot (i + 1)).1 = (dw T p own ot i).1 ||| (nr T (dw T p own ot i).1 &&& own) := rfl
    have hx2 := hx
    rw [e1, Nat.testBit_or, xi, Bool.false_or, Nat.testBit_and, Bool.and_eq_true] at hx2
    -- a neighbour that is new, too
    have ex : ∃ y, (dw T p own ot i).1.testBit y = true ∧ ∀ j, j < i → (dw T p own ot j).1.testBit y = false := by
      cases i with
      | zero => exact ⟨p, by show (1 <<< p).testBit p = true; rw [tb_one]; exact decide_eq_true rfl, fun j hj => by omega⟩
      | succ i =>
        by_cases q : ∃ y, (dw T p own ot (i + 1)).1.testBit y = true ∧ (dw T p own ot i).1.testBit y = false
        · obtain ⟨y, y1, y2⟩ := q
          refine ⟨y, y1, fun j hj => ?_⟩
          cases w : (dw T p own ot j).1.testBit y with
          | false => rfl
          | true =>
            have := (dw_up' (T := T) (p := p) (own := own) (ot := ot) (x := y) (i := j) (i - j)).1 w
            rw [show j + (i - j) = i by omega, y2] at this
            cases this
        · exfalso
          have same : (dw T p own ot (i + 1)).1 = (dw T p own ot i).1 := by
            apply Nat.eq_of_testBit_eq
            intro y
            cases w : (dw T p own ot i).1.testBit y with
            | true => exact (dw_up i).1 w
            | false =>
              cases w2 : (dw T p own ot (i + 1)).1.testBit y with
              | false => rfl
              | true => exact absurd ⟨y, w2, w⟩ q
          have e2 : (dw T p own ot (i + 1)).1 = (dw T p own ot i).1 ||| (nr T (dw T p own ot i).1 &&& own) := rfl
          have e3 : (dw T p own ot (i + 1 + 1)).1 = (dw T p own ot (i + 1)).1 := by
            rw [e1, same]
            exact e2.symm.trans same
          rw [e3, xi] at hx
          cases hx
    have ih := dw_w hT (own := own) (ot := ot) hp i ex
    have lt := dw_lt hT (own := own) (ot := ot) hp (i + 1)
    have xl : x < tC T := by
      by_cases q : x < tC T
      · exact q
      · rw [tb_big lt.1 (by omega)] at hx
        cases hx
    have := (pcn_sub (tC T) (dw T p own ot i).1 (dw T p own ot (i + 1)).1 (fun j _ e => (dw_up i).1 e)).2 ⟨x, xl, xi, hx⟩
    omega
/-- first reached by others' light: a way of as many cells -/
theorem dw_a {T : tT} (hT : tG T) {p own ot : Nat} (hp : p < tC T) : ∀ (i x : Nat), (dw T p own ot (i + 1)).2.testBit x = true → (dw T p own ot i).2.testBit x = false → (dw T p own ot i).1.testBit x = false → ∃ M, M < 2 ^ tC T ∧ M.testBit x = true ∧ i + 2 ≤ pcn (tC T) M ∧ ∀ y, M.testBit y = true → (dw T p own ot i).1.testBit y = true ∨ (dw T p own ot (i + 1)).2.testBit y = true
  | i, x, h1, h2, h3 => by
    have lt := dw_lt hT (own := own) (ot := ot) hp i
    have lt1 := dw_lt hT (own := own) (ot := ot) hp (i + 1)
    have xl : x < tC T := by
      by_cases q : x < tC T
      · exact q
      · rw [tb_big lt1.2 (by omega)] at h1
        cases h1
    have add : ∀ M, M < 2 ^ tC T → M.testBit x = false → i + 1 ≤ pcn (tC T) M → (∀ y, M.testBit y = true → (dw T p own ot i).1.testBit y = true ∨ (dw T p own ot i).2.testBit y = true) → ∃ M, M < 2 ^ tC T ∧ M.testBit x = true ∧ i + 2 ≤ pcn (tC T) M ∧ ∀ y, M.testBit y = true → (dw T p own ot i).1.testBit y = true ∨ (dw T p own ot (i + 1)).2.testBit y = true := by
      intro M m1 m2 m3 m4
      refine ⟨M ||| 1 <<< x, or_lt m1 (one_lt xl), ?_, ?_, fun y hy => ?_⟩
      · rw [Nat.testBit_or, tb_one, decide_eq_true rfl, Bool.or_true]
      · have := (pcn_sub (tC T) M (M ||| 1 <<< x) (fun j _ e => by rw [Nat.testBit_or, e]; rfl)).2 ⟨x, xl, m2, by rw [Nat.testBit_or, tb_one, decide_eq_true rfl, Bool.or_true]⟩
        omega
      · rw [Nat.testBit_or, tb_one, Bool.or_eq_true] at hy
        rcases hy with hy | hy
        · rcases m4 y hy with q | q
          · exact Or.inl q
          · exact Or.inr ((dw_up i).2 q)
        · have : x = y := of_decide_eq_true hy
          subst this
          exact Or.inr h1
    have e1 : (dw T p own ot (i + 1)).2 = (dw T p own ot i).2 ||| ((nr T (dw T p own ot i).1 ||| nr T (dw T p own ot i).2) &&& ot) := rfl
    have h1' := h1
    rw [e1, Nat.testBit_or, h2, Bool.false_or, Nat.testBit_and, Nat.testBit_or, Bool.and_eq_true, Bool.or_eq_true] at h1'
    cases i with
    | zero =>
      refine add (1 <<< p) (one_lt hp) h3 ?_ (fun y hy => Or.inl hy)
      have := (pcn_sub (tC T) 0 (1 <<< p) (fun j _ e => by simp at e)).2 ⟨p, hp, by simp, by rw [tb_one]; exact decide_eq_true rfl⟩
      omega
    | succ i =>
      -- nothing old leads here
      have old : ¬ ((nr T (dw T p own ot i).1).testBit x = true ∨ (nr T (dw T p own ot i).2).testBit x = true) := by
        intro w
        have : (dw T p own ot (i + 1)).2.testBit x = true := by
          show ((dw T p own ot i).2 ||| ((nr T (dw T p own ot i).1 ||| nr T (dw T p own ot i).2) &&& ot)).testBit x = true
          rw [Nat.testBit_or, Nat.testBit_and, Nat.testBit_or, h1'.2]
          rcases w with w | w <;> rw [w] <;> simp
        rw [h2] at this
        cases this
      rcases h1'.1 with q | q
      · -- from inside: the inside has grown
        have ex : ∃ y, (dw T p own ot (i + 1)).1.testBit y = true ∧ (dw T p own ot i).1.testBit y = false := by
          by_cases w : ∃ y, (dw T p own ot (i + 1)).1.testBit y = true ∧ (dw T p own ot i).1.testBit y = false
          · exact w
          · exfalso
            refine old (Or.inl (nr_mono (fun y hy => ?_) q))
            cases w2 : (dw T p own ot i).1.testBit y with
            | true => rfl
            | false => exact absurd ⟨y, hy, w2⟩ w
        obtain ⟨y, y1, y2⟩ := ex
        have gw := dw_w hT (own := own) (ot := ot) hp (i + 1) ⟨y, y1, fun j hj => by
          cases w : (dw T p own ot j).1.testBit y with
          | false => rfl
          | true =>
            have := (dw_up' (T := T) (p := p) (own := own) (ot := ot) (x := y) (i := j) (i - j)).1 w
            rw [show j + (i - j) = i by omega, y2] at this
            cases this⟩
        exact add _ lt.1 h3 gw (fun y hy => Or.inl hy)
      · -- from others' light: a cell that was new there
        have ex : ∃ y, (dw T p own ot (i + 1)).2.testBit y = true ∧ (dw T p own ot i).2.testBit y = false ∧ (dw T p own ot i).1.testBit y = false := by
          by_cases w : ∃ y, (dw T p own ot (i + 1)).2.testBit y = true ∧ (dw T p own ot i).2.testBit y = false ∧ (dw T p own ot i).1.testBit y = false
          · exact w
          · exfalso
            have m := nr_mono (b := (dw T p own ot i).1 ||| (dw T p own ot i).2) (fun y hy => by
              rw [Nat.testBit_or, Bool.or_eq_true]
              cases w1 : (dw T p own ot i).1.testBit y with
              | true => exact Or.inl rfl
              | false =>
                cases w2 : (dw T p own ot i).2.testBit y with
                | true => exact Or.inr rfl
                | false => exact absurd ⟨y, hy, w2, w1⟩ w) q
            rw [nr_or, Nat.testBit_or, Bool.or_eq_true] at m
            exact old m
        obtain ⟨y, y1, y2, y3⟩ := ex
        obtain ⟨M, m1, m2, m3, m4⟩ := dw_a hT (own := own) (ot := ot) hp i y y1 y2 y3
        refine add M m1 ?_ m3 (fun z hz => ?_)
        · cases w : M.testBit x with
          | false => rfl
          | true =>
            exfalso
            rcases m4 x w with r | r
            · rw [(dw_up i).1 r] at h3
              cases h3
            · rw [h2] at r
              cases r
        · rcases m4 z hz with r | r
          · exact Or.inl ((dw_up i).1 r)
          · exact Or.inr r
/-- what is reached at all is reached in fewer steps than there are cells -/
theorem dw_end {T : tT} (hT : tG T) {p own ot x i : Nat} (hp : p < tC T) (h : fstN 49 (fun i => (dwU T p own ot i).testBit x) = some i) : i + 1 ≤ tC T := by
  obtain ⟨h1, h2, h3⟩ := (fstN_some _ _ _).mp h
  have lt := dw_lt hT (own := own) (ot := ot) hp i
  unfold dwU at h2
  rw [Nat.testBit_or, Bool.or_eq_true] at h2
  have h3' : ∀ j, j < i → (dw T p own ot j).1.testBit x = false ∧ (dw T p own ot j).2.testBit x = false := by
    intro j hj
    have := h3 j hj
    unfold dwU at this
    rw [Nat.testBit_or, Bool.or_eq_false_iff] at this
    exact this
  rcases h2 with h2 | h2
  · have := dw_w hT (own := own) (ot := ot) hp i ⟨x, h2, fun j hj => (h3' j hj).1⟩
    have := pcn_le (tC T) (dw T p own ot i).1
    omega
  · cases i with
    | zero =>
      have h2 : (0 : Nat).testBit x = true := h2
      rw [Nat.zero_testBit] at h2
      cases h2
    | succ i =>
      obtain ⟨M, m1, m2, m3, m4⟩ := dw_a hT (own := own) (ot := ot) hp i x h2 (h3' i (by omega)).2 (h3' i (by omega)).1
      have := pcn_le (tC T) M
      omega

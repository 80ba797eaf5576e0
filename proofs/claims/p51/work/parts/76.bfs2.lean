/-! steps from lamp to lamp: they end -/
theorem pcn_sub : ∀ (n a b : Nat), (∀ i, i < n → a.testBit i = true → b.testBit i = true) → pcn n a ≤ pcn n b ∧ ((∃ i, i < n ∧ a.testBit i = false ∧ b.testBit i = true) → pcn n a < pcn n b)
  | 0, a, b, _ => ⟨Nat.le_refl _, fun ⟨i, hi, _⟩ => by omega⟩
  | n + 1, a, b, h => by
    rw [pcn_s, pcn_s]
    have d : ∀ s i : Nat, (s / 2).testBit i = s.testBit (i + 1) := fun s i => by rw [Nat.testBit_succ]
    obtain ⟨g1, g2⟩ := pcn_sub n (a / 2) (b / 2) (fun i hi e => by rw [d] at e ⊢; exact h (i + 1) (by omega) e)
    have h0 := h 0 (by omega)
    rw [Nat.testBit_zero, Nat.testBit_zero, decide_eq_true_eq, decide_eq_true_eq] at h0
    refine ⟨by omega, ?_⟩
    rintro ⟨i, hi, e1, e2⟩
    cases i with
    | zero =>
      rw [Nat.testBit_zero, decide_eq_false_iff_not] at e1
      rw [Nat.testBit_zero, decide_eq_true_eq] at e2
      omega
    | succ i =>
      have := g2 ⟨i, by omega, by rw [d]; exact e1, by rw [d]; exact e2⟩
      omega
theorem wo_stop {T : tT} {f own br i : Nat} (h : wo T f own br (i + 1) = wo T f own br i) : ∀ d, wo T f own br (i + d) = wo T f own br i
  | 0 => rfl
  | d + 1 => by
    have ih := wo_stop h d
    have e : ∀ j, wo T f own br (j + 1) = ((wo T f own br j).1 ||| ((nr T (wo T f own br j).1 &&& cm br) &&& own), (wo T f own br j).2 ||| (((nr T (wo T f own br j).1 ||| nr T (wo T f own br j).2) &&& cm br) &&& cm own)) := fun j => rfl
    rw [show i + (d + 1) = i + d + 1 from rfl, e (i + d), ih, ← e i]
    exact h
theorem wo_ltC {T : tT} {f own br : Nat} (hT : tG T) (hf : f < 2 ^ tC T) : ∀ i, (wo T f own br i).1 < 2 ^ tC T ∧ (wo T f own br i).2 < 2 ^ tC T
  | 0 => ⟨and_lt _ hf, and_lt _ hf⟩
  | i + 1 => by
    obtain ⟨h1, h2⟩ := wo_ltC hT hf i
    exact ⟨or_lt h1 (and_lt _ (and_lt _ (nr_ltC hT _))), or_lt h2 (and_lt _ (and_lt _ (or_lt (nr_ltC hT _) (nr_ltC hT _))))⟩
theorem wo_grow {T : tT} {f own br : Nat} (hT : tG T) (hf : f < 2 ^ tC T) (h0 : f ≠ 0) : ∀ i, (∀ j, j < i → wo T f own br (j + 1) ≠ wo T f own br j) → i + 1 ≤ pcn (tC T) ((wo T f own br i).1 ||| (wo T f own br i).2)
  | 0, _ => by
    have f24 : f < 2 ^ 24 := Nat.lt_of_lt_of_le hf (Nat.pow_le_pow_right (by decide) hT.c24)
    have ef : (wo T f own br 0).1 ||| (wo T f own br 0).2 = f := by
      apply Nat.eq_of_testBit_eq
      intro x
      show ((f &&& own) ||| (f &&& cm own)).testBit x = _
      rw [Nat.testBit_or, Nat.testBit_and, tb_and_cm (w24 f24)]
      cases f.testBit x <;> cases own.testBit x <;> rfl
    rw [ef]
    obtain ⟨i, hi⟩ := Nat.exists_testBit_of_ne_zero h0
    have hi2 : i < tC T := by
      by_cases q : i < tC T
      · exact q
      · rw [tb_big hf (by omega)] at hi
        cases hi
    have := (pcn_sub (tC T) 0 f (fun j _ e => by simp at e)).2 ⟨i, hi2, by simp, hi⟩
    omega
  | i + 1, h => by
    have ih := wo_grow hT hf h0 i (fun j hj => h j (by omega))
    have f24 : f < 2 ^ 24 := Nat.lt_of_lt_of_le hf (Nat.pow_le_pow_right (by decide) hT.c24)
    obtain ⟨s1, gA, gB⟩ := fq_s hT (fq_all (own := own) (br := br) hT f24 i)
    have q0 := fq_all (own := own) (br := br) hT f24 i
    obtain ⟨A', B', hA, hB, cA, cB, hs, oA, oB, big⟩ := id q0
    obtain ⟨A2, B2, hA2, hB2, cA2, cB2, hs2, oA2, oB2, big2⟩ := id s1
    have sub := pcn_sub (tC T) ((wo T f own br i).1 ||| (wo T f own br i).2) ((wo T f own br (i + 1)).1 ||| (wo T f own br (i + 1)).2) (fun x hx e => by
      rw [gA, gB]
      rw [Nat.testBit_or, Bool.or_eq_true] at e
      simp only [Nat.testBit_or, Bool.or_eq_true]
      rcases e with e | e
      · exact Or.inl (Or.inl e)
      · exact Or.inr (Or.inl e))
    have c24 := hT.c24
    have ex : ∃ x, x < tC T ∧ ((wo T f own br i).1 ||| (wo T f own br i).2).testBit x = false ∧ ((wo T f own br (i + 1)).1 ||| (wo T f own br (i + 1)).2).testBit x = true := by
      by_cases q : ∃ x, x < tC T ∧ ((wo T f own br i).1 ||| (wo T f own br i).2).testBit x = false ∧ ((wo T f own br (i + 1)).1 ||| (wo T f own br (i + 1)).2).testBit x = true
      · exact q
      · refine absurd ?_ (h i (by omega))
        have same : ∀ x, x < tC T → (wo T f own br (i + 1)).1.testBit x = (wo T f own br i).1.testBit x ∧ (wo T f own br (i + 1)).2.testBit x = (wo T f own br i).2.testBit x := by
          intro x hx
          have nq : ¬ (((wo T f own br i).1 ||| (wo T f own br i).2).testBit x = false ∧ ((wo T f own br (i + 1)).1 ||| (wo T f own br (i + 1)).2).testBit x = true) := fun w => q ⟨x, hx, w⟩
          have a1 := oA x (by omega)
          have a2 := oA2 x (by omega)
          have b1 := oB x (by omega)
          have b2 := oB2 x (by omega)
          rw [gA, gB] at nq
          rw [gA] at a2
          rw [gB] at b2
          rw [gA, gB]
          simp only [Nat.testBit_or] at *
          generalize (wo T f own br i).1.testBit x = p1 at *
          generalize (wo T f own br i).2.testBit x = p2 at *
          generalize (fq T f own br (i + 1)).1.1.testBit x = p3 at *
          generalize (fq T f own br (i + 1)).1.2.testBit x = p4 at *
          generalize own.testBit x = o at *
          revert nq a1 a2 b1 b2
          cases p1 <;> cases p2 <;> cases p3 <;> cases p4 <;> cases o <;> simp
        obtain ⟨l1, l2⟩ := wo_ltC (own := own) (br := br) hT hf i
        obtain ⟨m1, m2⟩ := wo_ltC (own := own) (br := br) hT hf (i + 1)
        exact Prod.ext (tb_ext m1 l1 (fun x hx => (same x hx).1)) (tb_ext m2 l2 (fun x hx => (same x hx).2))
    have := sub.2 ex
    omega
/-- after as many steps as there are cells nothing new is reached -/
theorem wo_end {T : tT} {f own br : Nat} (hT : tG T) (hf : f < 2 ^ tC T) (h0 : f ≠ 0) (d : Nat) : wo T f own br (tC T + d) = wo T f own br (tC T) := by
  have hx : ∃ j, j < tC T ∧ wo T f own br (j + 1) = wo T f own br j := by
    by_cases q : ∃ j, j < tC T ∧ wo T f own br (j + 1) = wo T f own br j
    · exact q
    · have := wo_grow (own := own) (br := br) hT hf h0 (tC T) (fun j hj e => q ⟨j, hj, e⟩)
      have l := pcn_le (tC T) ((wo T f own br (tC T)).1 ||| (wo T f own br (tC T)).2)
      omega
  obtain ⟨j, hj, e⟩ := hx
  have h1 := wo_stop e (tC T - j)
  have h2 := wo_stop e (tC T - j + d)
  rw [show j + (tC T - j) = tC T by omega] at h1
  rw [show j + (tC T - j + d) = tC T + d by omega] at h2
  rw [h1, h2]
theorem fst_end {p : Nat → Bool} {n : Nat} (h : ∀ d, p (n + d) = p n) : ∀ k, fstN (n + 1 + k) p = fstN (n + 1) p
  | 0 => rfl
  | k + 1 => by
    have ih := fst_end h k
    show (match fstN (n + 1 + k) p with
    | some i => some i
    | none => if p (n + 1 + k) then some (n + 1 + k) else none) = _
    rw [ih]
    cases e : fstN (n + 1) p with
    | some i => rfl
    | none =>
      have := (fstN_none (n + 1) p).mp e n (by omega)
      have h2 := h (1 + k)
      rw [show n + (1 + k) = n + 1 + k by omega] at h2
      simp only [h2, this]
      rfl
theorem pace_end {T : tT} {f own br p : Nat} (hT : tG T) (hf : f < 2 ^ tC T) (h0 : f ≠ 0) : fstN 25 (fun i => (wo T f own br i).2.testBit p) = fstN (tC T + 1) (fun i => (wo T f own br i).2.testBit p) := by
  have c24 := hT.c24
  have := fst_end (p := fun i => (wo T f own br i).2.testBit p) (n := tC T) (fun d => by show (wo T f own br (tC T + d)).2.testBit p = _; rw [wo_end hT hf h0 d]) (24 - tC T)
  rw [show tC T + 1 + (24 - tC T) = 25 by omega] at this
  exact this

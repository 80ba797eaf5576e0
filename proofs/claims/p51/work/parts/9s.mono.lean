/-! shading all, nothing is lost -/
theorem nr_mono {T : tT} {a b : Nat} (h : ∀ x, a.testBit x = true → b.testBit x = true) {x : Nat} (hx : (nr T a).testBit x = true) : (nr T b).testBit x = true := by
  have e : a ||| b = b := by
    apply Nat.eq_of_testBit_eq
    intro i
    rw [Nat.testBit_or]
    cases q : a.testBit i with
    | true => rw [h i q]; rfl
    | false => rw [Bool.false_or]
  rw [← e, nr_or, Nat.testBit_or, hx]
  rfl
theorem wo_mono {T : tT} (hT : tG T) {p own br own' br' : Nat} (hp : p < tC T) (h1 : own.testBit p = true) (h2 : ∀ x, own'.testBit x = true ↔ x = p) (h3 : ∀ x, br'.testBit x = true → br.testBit x = true) : ∀ i, (wo T (1 <<< p) own' br' i).1.testBit p = true ∧ ∀ x, x ≠ p → ((wo T (1 <<< p) own br i).1.testBit x = true ∨ (wo T (1 <<< p) own br i).2.testBit x = true) → (wo T (1 <<< p) own' br' i).2.testBit x = true
  | 0 => by
    have c24 := hT.c24
    have f24 : 1 <<< p < 2 ^ 32 := one_lt (by omega)
    refine ⟨?_, fun x hx h => ?_⟩
    · show (1 <<< p &&& own').testBit p = true
      rw [Nat.testBit_and, (h2 p).mpr rfl, tb_one]
      simp
    · exfalso
      rcases h with h | h
      · have h : (1 <<< p &&& own).testBit x = true := h
        rw [Nat.testBit_and, tb_one, Bool.and_eq_true] at h
        exact hx (of_decide_eq_true h.1).symm
      · have h : (1 <<< p &&& cm own).testBit x = true := h
        rw [tb_and_cm f24, tb_one, Bool.and_eq_true] at h
        exact hx (of_decide_eq_true h.1).symm
  | i + 1 => by
    obtain ⟨g1, g2⟩ := wo_mono hT hp h1 h2 h3 i
    have c24 := hT.c24
    have f24 : (1 <<< p : Nat) < 2 ^ tC T := one_lt hp
    have lt := wo_ltC (own := own) (br := br) hT f24 (i + 1)
    have p24 := Nat.pow_le_pow_right (n := 2) (by decide) c24
    refine ⟨?_, fun x hx h => ?_⟩
    · show ((wo T (1 <<< p) own' br' i).1 ||| _).testBit p = true
      rw [Nat.testBit_or, g1]
      rfl
    · have x32 : x < 32 := by
        by_cases q : x < 32
        · exact q
        · rcases h with h | h
          · rw [tb_big lt.1 (by omega)] at h
            cases h
          · rw [tb_big lt.2 (by omega)] at h
            cases h
      have sub : ∀ y, ((wo T (1 <<< p) own br i).1.testBit y = true ∨ (wo T (1 <<< p) own br i).2.testBit y = true) → ((wo T (1 <<< p) own' br' i).1 ||| (wo T (1 <<< p) own' br' i).2).testBit y = true := by
        intro y hy
        rw [Nat.testBit_or, Bool.or_eq_true]
        by_cases q : y = p
        · subst q
          exact Or.inl g1
        · exact Or.inr (g2 y q hy)
      have eB' : (wo T (1 <<< p) own' br' (i + 1)).2 = (wo T (1 <<< p) own' br' i).2 ||| (((nr T (wo T (1 <<< p) own' br' i).1 ||| nr T (wo T (1 <<< p) own' br' i).2) &&& cm br') &&& cm own') := rfl
      have eA : (wo T (1 <<< p) own br (i + 1)).1 = (wo T (1 <<< p) own br i).1 ||| ((nr T (wo T (1 <<< p) own br i).1 &&& cm br) &&& own) := rfl
      have eB : (wo T (1 <<< p) own br (i + 1)).2 = (wo T (1 <<< p) own br i).2 ||| (((nr T (wo T (1 <<< p) own br i).1 ||| nr T (wo T (1 <<< p) own br i).2) &&& cm br) &&& cm own) := rfl
      have fin : ((nr T (wo T (1 <<< p) own br i).1).testBit x = true ∨ (nr T (wo T (1 <<< p) own br i).2).testBit x = true) → br.testBit x = false → (wo T (1 <<< p) own' br' (i + 1)).2.testBit x = true := by
        intro hn hb
        have m : (nr T ((wo T (1 <<< p) own' br' i).1 ||| (wo T (1 <<< p) own' br' i).2)).testBit x = true := by
          rcases hn with hn | hn
          · exact nr_mono (fun y hy => sub y (Or.inl hy)) hn
          · exact nr_mono (fun y hy => sub y (Or.inr hy)) hn
        rw [nr_or] at m
        have b' : br'.testBit x = false := by
          cases q : br'.testBit x with
          | false => rfl
          | true => rw [h3 x q] at hb; cases hb
        have o' : own'.testBit x = false := by
          cases q : own'.testBit x with
          | false => rfl
          | true => exact absurd ((h2 x).mp q) hx
        rw [eB', Nat.testBit_or, Nat.testBit_and, Nat.testBit_and, m, tb_cm x32, tb_cm x32, b', o']
        simp
      have old : ((wo T (1 <<< p) own br i).1.testBit x = true ∨ (wo T (1 <<< p) own br i).2.testBit x = true) → (wo T (1 <<< p) own' br' (i + 1)).2.testBit x = true := by
        intro hy
        rw [eB', Nat.testBit_or, g2 x hx hy]
        rfl
      rcases h with h | h
      · rw [eA, Nat.testBit_or, Nat.testBit_and, Nat.testBit_and, tb_cm x32] at h
        simp only [Bool.or_eq_true, Bool.and_eq_true, Bool.not_eq_true'] at h
        rcases h with h | h
        · exact old (Or.inl h)
        · exact fin (Or.inl h.1.1) h.1.2
      · rw [eB, Nat.testBit_or, Nat.testBit_and, Nat.testBit_and, Nat.testBit_or, tb_cm x32, tb_cm x32] at h
        simp only [Bool.or_eq_true, Bool.and_eq_true, Bool.not_eq_true'] at h
        rcases h with h | h
        · exact old (Or.inr h)
        · exact fin h.1.1 h.1.2
theorem gap_mono {T : tT} (hok : tOk T) {sh s l k : Nat} (h : gap T sh s l k ≠ none) : gap T (al T) s l k ≠ none := by
  have hG := hok.1
  have n6 := hok.2.2.2.1
  unfold gap at h ⊢
  by_cases q : s ≤ al T ∧ k < tN T ∧ (if s = 0 then l = 7 else s.testBit l = true)
  · rw [if_pos q] at h ⊢
    obtain ⟨q1, q2, q3⟩ := q
    unfold gap0 at h ⊢
    by_cases s0 : s = 0
    · rw [if_pos s0] at h ⊢
      exact h
    · rw [if_neg s0] at h ⊢
      rw [if_neg s0] at q3
      have p := Nat.two_pow_pos (tN T)
      have p6 := Nat.pow_le_pow_right (n := 2) (by decide) n6
      have s64 : s < 64 := by unfold al at q1; omega
      have ln : l < tN T := by
        by_cases w : l < tN T
        · exact w
        · rw [tb_big (n := tN T) (by unfold al at q1; omega) (by omega)] at q3
          cases q3
      have lp := hok.2.2.2.2.1 l ln
      have own' : ∀ x, (shn T (al T) l).testBit x = true ↔ x = tP T l := by
        intro x
        unfold shn
        rw [if_pos (by rw [tb_al]; exact decide_eq_true ln), tb_one, decide_eq_true_iff]
        exact eq_comm
      have br' : ∀ x, (lit T (al T) (s - 2 ^ l) ||| 0).testBit x = true → (lit T sh (s - 2 ^ l) ||| 0).testBit x = true := by
        intro x hx
        rw [Nat.or_zero] at hx ⊢
        obtain ⟨j, j1, j2, j3⟩ := tb_lit.mp hx
        unfold shn at j3
        rw [if_pos (by rw [tb_al]; exact decide_eq_true j1), tb_one] at j3
        have : tP T j = x := of_decide_eq_true j3
        rw [← this]
        exact lit_self j1 j2
      have mono := wo_mono hG lp.2.1 (shn_self T sh l) own' br'
      unfold pace at h ⊢
      by_cases b : (shn T sh l).testBit (tP T k) = true ∨ (lit T sh (s - 2 ^ l) ||| 0).testBit (tP T k) = true
      · rw [if_pos b] at h
        exact absurd rfl h
      · rw [if_neg b] at h
        have kp : tP T k ≠ tP T l := fun e => b (Or.inl (by rw [e]; exact shn_self T sh l))
        rw [if_neg (fun w => by
          rcases w with w | w
          · exact kp ((own' _).mp w)
          · exact b (Or.inr (br' _ w)))]
        intro e
        have no := (fstN_none _ _).mp e
        apply h
        rw [fstN_none]
        intro j hj
        have := no j hj
        cases w : (wo T (1 <<< tP T l) (shn T sh l) (lit T sh (s - 2 ^ l) ||| 0) j).2.testBit (tP T k) with
        | false => rfl
        | true =>
          rw [(mono j).2 _ kp (Or.inr w)] at this
          cases this
  · rw [if_neg q] at h
    exact absurd rfl h
theorem cst_mono {T : tT} (hok : tOk T) (sh : Nat) : ∀ (r : List Nat) (s l : Nat), cst (gap T sh) s l r ≠ none → cst (gap T (al T)) s l r ≠ none
  | [], _, _, h => h
  | k :: r, s, l, h => by
    have h : oadd (gap T sh s l k) (cst (gap T sh) (s + 2 ^ k) k r) ≠ none := h
    have h1 : gap T sh s l k ≠ none := fun e => h (by rw [e]; rfl)
    have h2 : cst (gap T sh) (s + 2 ^ k) k r ≠ none := fun e => h (by rw [e, oadd_n])
    have g1 := gap_mono hok h1
    have g2 := cst_mono hok sh r _ _ h2
    show oadd (gap T (al T) s l k) (cst (gap T (al T)) (s + 2 ^ k) k r) ≠ none
    intro e
    rcases oadd_none.mp e with e | e
    · exact g1 e
    · exact g2 e
theorem Fm_mono {T : tT} (hok : tOk T) (sh : Nat) (h : Fm (gap T sh) (al T) ≠ none) : Fm (gap T (al T)) (al T) ≠ none := by
  have a64 := al_lt (Or.inl hok)
  rw [Fm_rows _ a64] at h ⊢
  intro e
  apply h
  rw [ominL_none]
  intro r hr
  have := (ominL_none _).mp e r hr
  cases w : cst (gap T sh) 0 7 r with
  | none => rfl
  | some v => exact absurd this (cst_mono hok sh r 0 7 (by rw [w]; exact fun q => by cases q))

/-! the law: from lamp to lamp, the steps of the shortest order -/
/-- how he stands when a set is lit, a lamp last -/
def wkS (T : tT) (s l : Nat) : sT := if s = 0 then rd0 T else (tP T l, s, nI l, true)
theorem wkS_2 (T : tT) (s l : Nat) : (wkS T s l).2.1 = s := by
  unfold wkS
  by_cases q : s = 0
  · rw [if_pos q, q]
    rfl
  · rw [if_neg q]
theorem un_nI6 {l : Nat} (h : l < 6) : un (nI l) = l := by
  have key : ∀ l, l < 6 → un (nI l) = l := by decide +kernel
  exact key l h
theorem pace_some {T : tT} {f own br p v : Nat} (hT : tG T) (hf : f < 2 ^ tC T) (h0 : f ≠ 0) (e : pace T f own br p = some v) : own.testBit p = false ∧ br.testBit p = false ∧ lv T f own br v (2 * p) = true ∧ (∀ i, i < v → lv T f own br i (2 * p) = false) ∧ v ≤ tC T := by
  by_cases q : own.testBit p = true ∨ br.testBit p = true
  · have : pace T f own br p = none := if_pos q
    rw [this] at e
    exact absurd e.symm (Option.some_ne_none _)
  · have e2 : pace T f own br p = fstN 25 (fun i => (wo T f own br i).2.testBit p) := if_neg q
    rw [e2, pace_end hT hf h0] at e
    obtain ⟨h1, h2, h3⟩ := (fstN_some _ _ _).mp e
    refine ⟨?_, ?_, ?_, fun i hi => ?_, by omega⟩
    · cases z : own.testBit p with
      | false => rfl
      | true => exact absurd (Or.inl z) q
    · cases z : br.testBit p with
      | false => rfl
      | true => exact absurd (Or.inr z) q
    · rw [lv_even]
      exact h2
    · rw [lv_even]
      exact h3 i hi
theorem gap_c {T : tT} {s l k v : Nat} (e : gap T 0 s l k = some v) : s ≤ al T ∧ k < tN T ∧ (if s = 0 then l = 7 else s.testBit l = true) ∧ gap0 T 0 (tD T) 0 s l k = some v := by
  by_cases q : s ≤ al T ∧ k < tN T ∧ (if s = 0 then l = 7 else s.testBit l = true)
  · have e2 : gap T 0 s l k = gap0 T 0 (tD T) 0 s l k := if_pos q
    rw [e2] at e
    exact ⟨q.1, q.2.1, q.2.2, e⟩
  · have e2 : gap T 0 s l k = none := if_neg q
    rw [e2] at e
    exact absurd e.symm (Option.some_ne_none _)
theorem walk_st {T : tT} (hok : tOk T) {s l k v : Nat} (e : gap T 0 s l k = some v) : ∃ own br, gIn T 0 (wkS T s l) own br ∧ own.testBit (wkS T s l).1 = (wkS T s l).2.2.2 ∧ own.testBit (tP T k) = false ∧ br.testBit (tP T k) = false ∧ lv T (1 <<< (wkS T s l).1) own br v (2 * tP T k) = true ∧ (∀ i, i < v → lv T (1 <<< (wkS T s l).1) own br i (2 * tP T k) = false) ∧ v ≤ tC T := by
  have hT := hok.1
  have h6 : tN T ≤ 6 := hok.2.2.2.1
  have p6 := Nat.pow_le_pow_right (n := 2) (by decide) h6
  have pp := Nat.two_pow_pos (tN T)
  obtain ⟨q1, q2, q3, q4⟩ := gap_c e
  by_cases s0 : s = 0
  · have e1 : wkS T s l = rd0 T := if_pos s0
    have e2 : gap0 T 0 (tD T) 0 s l k = pace T (1 <<< tD T) 0 0 (tP T k) := if_pos s0
    rw [e2] at q4
    have f0 : 1 <<< tD T < 2 ^ tC T := one_lt hok.2.1
    have f1 : 1 <<< tD T ≠ 0 := by rw [Nat.one_shiftLeft]; have := Nat.two_pow_pos (tD T); omega
    obtain ⟨a1, a2, a3, a4, a5⟩ := pace_some hT f0 f1 q4
    rw [e1]
    refine ⟨0, 0, ⟨fun x => ?_, Or.inl rfl⟩, ?_, a1, a2, a3, a4, a5⟩
    · show (lit T 0 0).testBit x = _
      rw [lit_0, Nat.zero_testBit]
      rfl
    · exact Nat.zero_testBit _
  · have e1 : wkS T s l = (tP T l, s, nI l, true) := if_neg s0
    have e2 : gap0 T 0 (tD T) 0 s l k = pace T (1 <<< tP T l) (shn T 0 l) (lit T 0 (s - 2 ^ l) ||| 0) (tP T k) := if_neg s0
    rw [e2, Nat.or_zero] at q4
    rw [if_neg s0] at q3
    have s64 : s < 64 := by unfold al at q1; omega
    have hl : l < tN T := by
      by_cases z : l < tN T
      · exact z
      · rw [tb_big (n := tN T) (by unfold al at q1; omega) (by omega)] at q3
        cases q3
    have lp := hok.2.2.2.2.1 l hl
    have f0 : 1 <<< tP T l < 2 ^ tC T := one_lt lp.2.1
    have f1 : 1 <<< tP T l ≠ 0 := by rw [Nat.one_shiftLeft]; have := Nat.two_pow_pos (tP T l); omega
    obtain ⟨a1, a2, a3, a4, a5⟩ := pace_some hT f0 f1 q4
    have ul := un_nI6 (l := l) (by omega)
    rw [e1]
    refine ⟨shn T 0 l, lit T 0 (s - 2 ^ l), ⟨fun x => ?_, Or.inr ⟨?_, ?_⟩⟩, ?_, a1, a2, a3, a4, a5⟩
    · exact lit_cut 0 s64 (by omega) hl q3
    · show shn T 0 l = shn T 0 (un (nI l))
      rw [ul]
    · show lit T 0 (s &&& cm (1 <<< un (nI l))) = _
      rw [ul, and_cm1 s s64 l (by omega) q3]
    · exact shn_self T 0 l
theorem walk_on {T : tT} (hok : tOk T) {s l k : Nat} (hk : k < tN T) (s64 : s < 64) (hb : s.testBit k = false) (hd : (lit T 0 s).testBit (tP T k) = false) : may1 T 0 (nd (wkS T s l) (2 * tP T k)) 4 = true ∧ do1 T 0 (nd (wkS T s l) (2 * tP T k)) 4 = wkS T (s + 2 ^ k) k := by
  have h6 : tN T ≤ 6 := hok.2.2.2.1
  have e : nd (wkS T s l) (2 * tP T k) = (tP T k, s, (wkS T s l).2.2.1, false) := by
    rw [← (nd_mk (s := wkS T s l) (tP T k)).2, wkS_2]
  have lo := lampO_some hok hk rfl
  rw [e]
  constructor
  · unfold may1
    rw [if_pos rfl]
    show ((lampO T (tP T k)).isSome && !(lit T 0 s).testBit (tP T k)) = true
    rw [lo, hd]
    rfl
  · unfold do1
    rw [if_pos rfl]
    show (match lampO T (tP T k) with | some k' => (tP T k, s ||| 1 <<< k', nI k', true) | none => (tP T k, s, (wkS T s l).2.2.1, false)) = _
    rw [lo]
    show (tP T k, s ||| 1 <<< k, nI k, true) = _
    rw [(bit_up s s64 k (by omega) hb).1]
    unfold wkS
    have := Nat.two_pow_pos k
    rw [if_neg (by omega)]
theorem pQ_set : ∀ n, n < 7 → (pQ (2 ^ n - 1) 64 0).all (fun r => setL 0 r == 2 ^ n - 1) = true := by decide +kernel
theorem oadd_sum {a b : Option Nat} {v : Nat} (h : oadd a b = some v) : ∃ x y, a = some x ∧ b = some y ∧ v = x + y := by
  cases a with
  | none => cases h
  | some x => cases b with
    | none => cases h
    | some y => exact ⟨x, y, rfl, rfl, (Option.some.inj h).symm⟩
/-- the row that shortest() tells -/
theorem walk_row {T : tT} (h6 : tN T ≤ 6) {v : Nat} (e : Bo (gap T 0) (tN T) (al T) 0 7 = some v) : (gd (gap T 0) (tN T) (al T) 64 0 7).length = tN T ∧ cst (gap T 0) 0 7 (gd (gap T 0) (tN T) (al T) 64 0 7) = some v ∧ vr (al T) 0 (gd (gap T 0) (tN T) (al T) 64 0 7) ∧ setL 0 (gd (gap T 0) (tN T) (al T) 64 0 7) = al T := by
  have p6 := Nat.pow_le_pow_right (n := 2) (by decide) h6
  have a1 : al T = 2 ^ tN T - 1 := rfl
  have f := gd_find h6 a1 64 0 7 v (by omega) (Nat.zero_le _) e
  have m := List.mem_of_find?_eq_some f
  have c := List.find?_some f
  have c : cst (gap T 0) 0 7 (gd (gap T 0) (tN T) (al T) 64 0 7) = some v := of_decide_eq_true c
  refine ⟨(pQ_len (n := tN T) (by omega) m).1, c, pQ_vr _ _ _ _ m, ?_⟩
  have := List.all_eq_true.mp (pQ_set (tN T) (by omega)) _ m
  exact eq_of_beq this
theorem ct_ok {c k a b : Nat} (h1 : c ≤ a) (h2 : k ≤ b) : (Nat.ble c a && Nat.ble k b) = true := by
  rw [Nat.ble_eq_true_of_le h1, Nat.ble_eq_true_of_le h2]
  rfl
theorem gC_ok : ∀ i, i < 6 → gC (63 + 3 * i) := by
  intro i hi
  refine ⟨by omega, by omega, ?_⟩
  have key : ∀ i, i < 6 → am_SH (63 + 3 * i) = (100, 48) ∧ am_SH (63 + 3 * i + 1) = (100, 48) ∧ am_SH (63 + 3 * i + 2) = (100, 48) := by decide
  exact key i hi
section CS
variable {G : am_G} {l : Launch} {t : am_T} {I : am_I} {L : am_J} {Q : bm_P} {T : tT} {sh : Nat}
/-- the fewest steps, told into row 1 -/
theorem cc_shortest (h : cB T 0 t I) (h0 : Fm (gap T 0) (al T) = none → ∀ I', frN exL I I' → cB T 0 (t.1, some 7, some 12) I' → Q (some (.int (-9))) (t.1, some 7, some 12) I' L) (h1 : ∀ v I', Bo (gap T 0) (tN T) (al T) 0 7 = some v → frN (40 :: 41 :: exL) I I' → cB T 0 (t.1, some 7, some 12) I' → I' 40 1 = nI (tN T) → (∀ j, j < tN T → I' 41 j = nI (rwF (gd (gap T 0) (tN T) (al T) 64 0 7) j)) → Q (some (.int (nI v))) (t.1, some 7, some 12) I' L) : bm_C G l 26 [.ref 0, .int 1] t I L Q := by
  have h' := h
  obtain ⟨hok, hc, hs, a1, hL, a4, hO, a13⟩ := h
  have h6 : tN T ≤ 6 := hok.2.2.2.1
  refine sp_shortest_1 0 hok hc hL hO (fun I' f e1 e3 e4 tb e => ?_) (fun v I' f e1 e3 e4 tb e z1 z2 => ?_) (fun v e => (walk_row h6 e).1) rfl
  · rw [Fm_Bo _ h6] at e
    exact h0 e I' f (h'.ln f (by decide) e1 e3 e4 tb)
  · exact h1 v I' e f (h'.ln f (by decide) e1 e3 e4 tb) z1 z2
end CS

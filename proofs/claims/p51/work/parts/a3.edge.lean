/-! steps from cell to cell, as edges: how the sets of cells that he comes to grow by them -/
theorem nr_bs (T : tT) (s : Nat) : nr T s = (bs T 0 s ||| bs T 2 s) ||| (bs T 1 s ||| bs T 3 s) := by
  show ((s >>> tW T ||| s <<< tW T) ||| ((s &&& cm (rB T)) <<< 1 ||| (s &&& cm (lA T)) >>> 1)) &&& tS T = _
  rw [Nat.and_or_distrib_right, Nat.and_or_distrib_right, Nat.and_or_distrib_right]
  rfl
theorem nr_one {T : tT} (h : tG T) {c j : Nat} (hc : c < tC T) : (nr T (1 <<< c)).testBit j = true ↔ ∃ w, w < 4 ∧ nx T c w = some j := by
  rw [nr_bs, bs_one h hc (by decide), bs_one h hc (by decide), bs_one h hc (by decide), bs_one h hc (by decide)]
  simp only [Nat.testBit_or, Bool.or_eq_true, tb_oneO, decide_eq_true_eq]
  constructor
  · rintro ((q | q) | (q | q))
    · exact ⟨0, by decide, q⟩
    · exact ⟨2, by decide, q⟩
    · exact ⟨1, by decide, q⟩
    · exact ⟨3, by decide, q⟩
  · rintro ⟨w, hw, q⟩
    rcases (by omega : w = 0 ∨ w = 1 ∨ w = 2 ∨ w = 3) with rfl | rfl | rfl | rfl
    · exact Or.inl (Or.inl q)
    · exact Or.inr (Or.inl q)
    · exact Or.inl (Or.inr q)
    · exact Or.inr (Or.inr q)
theorem nr_0 (T : tT) : nr T 0 = 0 := by
  unfold nr
  simp
theorem nr_orN (T : tT) : ∀ (n : Nat) (f : Nat → Nat), nr T (orN n f) = orN n (fun i => nr T (f i))
  | 0, _ => nr_0 T
  | n + 1, f => by
    show nr T (orN n f ||| f n) = orN n (fun i => nr T (f i)) ||| nr T (f n)
    rw [nr_or, nr_orN T n f]
theorem orN_bits {n s : Nat} (hs : s < 2 ^ n) : s = orN n (fun c => if s.testBit c then 1 <<< c else 0) := by
  apply Nat.eq_of_testBit_eq
  intro i
  rw [Bool.eq_iff_iff, tb_orN]
  constructor
  · intro h
    have hi : i < n := by
      by_cases q : i < n
      · exact q
      · rw [tb_big hs (by omega)] at h
        cases h
    refine ⟨i, hi, ?_⟩
    rw [if_pos h, tb_one]
    simp
  · rintro ⟨k, hk, q⟩
    by_cases e : s.testBit k = true
    · rw [if_pos e, tb_one] at q
      have : k = i := by simpa using q
      rw [← this]
      exact e
    · rw [if_neg e, Nat.zero_testBit] at q
      cases q
theorem tb_nr {T : tT} (h : tG T) {s j : Nat} (hs : s < 2 ^ tC T) : (nr T s).testBit j = true ↔ ∃ c w, c < tC T ∧ s.testBit c = true ∧ w < 4 ∧ nx T c w = some j := by
  have e : nr T s = orN (tC T) (fun c => nr T (if s.testBit c then 1 <<< c else 0)) := by
    rw [← nr_orN T (tC T) (fun c => if s.testBit c then 1 <<< c else 0), ← orN_bits hs]
  rw [e, tb_orN]
  constructor
  · rintro ⟨c, hc, q⟩
    by_cases b : s.testBit c = true
    · rw [if_pos b] at q
      obtain ⟨w, hw, q⟩ := (nr_one h hc).mp q
      exact ⟨c, w, hc, b, hw, q⟩
    · rw [if_neg b, nr_0, Nat.zero_testBit] at q
      cases q
  · rintro ⟨c, w, hc, b, hw, q⟩
    refine ⟨c, hc, ?_⟩
    rw [if_pos b]
    exact (nr_one h hc).mpr ⟨w, hw, q⟩
/-- a place and whether inside, as one number -/
def nd (s : sT) (k : Nat) : sT := (k / 2, s.2.1, s.2.2.1, k % 2 == 1)
def edg (T : tT) (sh : Nat) (s : sT) (p w q : Nat) : Prop := w < 4 ∧ may1 T sh (nd s p) w = true ∧ do1 T sh (nd s p) w = nd s q
def lv (T : tT) (f own br n k : Nat) : Bool := if k % 2 = 1 then (wo T f own br n).1.testBit (k / 2) else (wo T f own br n).2.testBit (k / 2)
/-- own: the light he may be in; br: the others' -/
def gIn (T : tT) (sh : Nat) (s : sT) (own br : Nat) : Prop := (∀ x, (lit T sh s.2.1).testBit x = (own.testBit x || br.testBit x)) ∧ (own = 0 ∨ (own = shn T sh (un s.2.2.1) ∧ lit T sh (s.2.1 &&& cm (1 <<< un s.2.2.1)) = br))
theorem nd_odd {s : sT} {k : Nat} (h : k % 2 = 1) : nd s k = (k / 2, s.2.1, s.2.2.1, true) := by
  unfold nd
  rw [h]
  rfl
theorem nd_even {s : sT} {k : Nat} (h : k % 2 = 0) : nd s k = (k / 2, s.2.1, s.2.2.1, false) := by
  unfold nd
  rw [h]
  rfl
theorem wo_own0 {T : tT} {f br : Nat} : ∀ n, (wo T f 0 br n).1 = 0
  | 0 => Nat.and_zero f
  | n + 1 => by
    show (wo T f 0 br n).1 ||| _ &&& 0 = 0
    rw [wo_own0 n, Nat.and_zero]
    rfl
theorem may_in {T : tT} {sh : Nat} {s : sT} {k w j : Nat} (hk : k % 2 = 1) (hw : w < 4) (e : nx T (k / 2) w = some j) : may1 T sh (nd s k) w = !(lit T sh (s.2.1 &&& cm (1 <<< un s.2.2.1))).testBit j := by
  rw [nd_odd hk, may1_some (by omega) e]
  rfl
theorem may_out {T : tT} {sh : Nat} {s : sT} {k w j : Nat} (hk : k % 2 = 0) (hw : w < 4) (e : nx T (k / 2) w = some j) : may1 T sh (nd s k) w = !(lit T sh s.2.1).testBit j := by
  rw [nd_even hk, may1_some (by omega) e]
  rfl
theorem do_in {T : tT} {sh : Nat} {s : sT} {k w j : Nat} (hk : k % 2 = 1) (hw : w < 4) (e : nx T (k / 2) w = some j) : do1 T sh (nd s k) w = (j, s.2.1, s.2.2.1, (shn T sh (un s.2.2.1)).testBit j) := by
  rw [nd_odd hk]
  unfold do1
  rw [if_neg (by omega), e]
  simp
theorem do_out {T : tT} {sh : Nat} {s : sT} {k w j : Nat} (hk : k % 2 = 0) (hw : w < 4) (e : nx T (k / 2) w = some j) : do1 T sh (nd s k) w = (j, s.2.1, s.2.2.1, false) := by
  rw [nd_even hk]
  unfold do1
  rw [if_neg (by omega), e]
  simp
theorem nd_inj {s : sT} {c k : Nat} {b : Bool} (h : (c, s.2.1, s.2.2.1, b) = nd s k) : k / 2 = c ∧ (k % 2 == 1) = b := by
  unfold nd at h
  have h1 := congrArg Prod.fst h
  have h2 := congrArg (fun z : sT => z.2.2.2) h
  exact ⟨h1.symm, h2.symm⟩
theorem nd_mk {s : sT} (c : Nat) : (c, s.2.1, s.2.2.1, true) = nd s (2 * c + 1) ∧ (c, s.2.1, s.2.2.1, false) = nd s (2 * c) := by
  constructor
  · rw [nd_odd (by omega), show (2 * c + 1) / 2 = c by omega]
  · rw [nd_even (by omega), show 2 * c / 2 = c by omega]
section LV
variable {T : tT} {sh f own br : Nat} {s : sT}
theorem lv_odd {n c : Nat} : lv T f own br n (2 * c + 1) = (wo T f own br n).1.testBit c := by
  unfold lv
  rw [if_pos (by omega), show (2 * c + 1) / 2 = c by omega]
theorem lv_even {n c : Nat} : lv T f own br n (2 * c) = (wo T f own br n).2.testBit c := by
  unfold lv
  rw [if_neg (by omega), show 2 * c / 2 = c by omega]
theorem wo1_s (hT : tG T) (hf : f < 2 ^ tC T) (ho : own < 2 ^ 24) {n c : Nat} (hc : c < 32) : (wo T f own br (n + 1)).1.testBit c = ((wo T f own br n).1.testBit c || ((nr T (wo T f own br n).1).testBit c && !br.testBit c && own.testBit c)) := by
  show ((wo T f own br n).1 ||| ((nr T (wo T f own br n).1 &&& cm br) &&& own)).testBit c = _
  rw [Nat.testBit_or, Nat.testBit_and, Nat.testBit_and, tb_cm hc]
theorem wo2_s {n c : Nat} (hc : c < 32) : (wo T f own br (n + 1)).2.testBit c = ((wo T f own br n).2.testBit c || (((nr T (wo T f own br n).1).testBit c || (nr T (wo T f own br n).2).testBit c) && !br.testBit c && !own.testBit c)) := by
  show ((wo T f own br n).2 ||| (((nr T (wo T f own br n).1 ||| nr T (wo T f own br n).2) &&& cm br) &&& cm own)).testBit c = _
  rw [Nat.testBit_or, Nat.testBit_and, Nat.testBit_and, Nat.testBit_or, tb_cm hc, tb_cm hc]
theorem lv_up {n k : Nat} (h : lv T f own br n k = true) : lv T f own br (n + 1) k = true := by
  unfold lv at h ⊢
  split
  · rename_i q
    rw [if_pos q] at h
    show ((wo T f own br n).1 ||| _).testBit (k / 2) = true
    rw [Nat.testBit_or, h]
    rfl
  · rename_i q
    rw [if_neg q] at h
    show ((wo T f own br n).2 ||| _).testBit (k / 2) = true
    rw [Nat.testBit_or, h]
    rfl
theorem lv_mono {n k : Nat} (h : lv T f own br n k = true) : ∀ d, lv T f own br (n + d) k = true
  | 0 => h
  | d + 1 => lv_up (lv_mono h d)
theorem lv_le {n m k : Nat} (h : lv T f own br n k = true) (hm : n ≤ m) : lv T f own br m k = true := by
  have := lv_mono h (m - n)
  rw [show n + (m - n) = m by omega] at this
  exact this
theorem lv_C (hT : tG T) (hf : f < 2 ^ tC T) {n k : Nat} (h : lv T f own br n k = true) : k / 2 < tC T := by
  have w := wo_ltC (own := own) (br := br) hT hf n
  unfold lv at h
  by_cases q : k / 2 < tC T
  · exact q
  · split at h
    · rw [tb_big w.1 (by omega)] at h
      cases h
    · rw [tb_big w.2 (by omega)] at h
      cases h
/-- what he may do takes him from level to level -/
theorem lv_edge (hT : tG T) (hf : f < 2 ^ tC T) (hg : gIn T sh s own br) {n p w q : Nat} (h : lv T f own br n p = true) (e : edg T sh s p w q) : lv T f own br (n + 1) q = true := by
  have h24 := hT.c24
  obtain ⟨hw, em, ed⟩ := e
  have pC := lv_C hT hf h
  have wl := wo_ltC (own := own) (br := br) hT hf n
  cases en : nx T (p / 2) w with
  | none =>
    have : may1 T sh (nd s p) w = false := by
      rcases Nat.mod_two_eq_zero_or_one p with hp | hp
      · rw [nd_even hp]; exact may1_none (by omega) en
      · rw [nd_odd hp]; exact may1_none (by omega) en
    rw [this] at em
    cases em
  | some j =>
    have hj := (nx_lt hT en).1
    rcases Nat.mod_two_eq_zero_or_one p with hp | hp
    · rw [may_out hp hw en] at em
      rw [do_out hp hw en] at ed
      obtain ⟨e1, e2⟩ := nd_inj ed
      have q0 : q % 2 = 0 := by
        have : ¬ q % 2 = 1 := by simpa using e2
        omega
      have eq : q = 2 * j := by omega
      have ep : p = 2 * (p / 2) := by omega
      rw [ep, lv_even] at h
      have hn : (nr T (wo T f own br n).2).testBit j = true := (tb_nr hT wl.2).mpr ⟨p / 2, w, pC, h, hw, en⟩
      have hl := hg.1 j
      rw [eq, lv_even, wo2_s (by omega), hn]
      have em : (lit T sh s.2.1).testBit j = false := by simpa using em
      rw [em] at hl
      cases ho : own.testBit j <;> cases hb : br.testBit j <;> rw [ho, hb] at hl <;> simp at hl ⊢
    · have ep : p = 2 * (p / 2) + 1 := by omega
      rw [ep, lv_odd] at h
      rcases hg.2 with o0 | ⟨g1, g2⟩
      · rw [o0, wo_own0, Nat.zero_testBit] at h
        cases h
      · rw [may_in hp hw en, g2] at em
        rw [do_in hp hw en, ← g1] at ed
        obtain ⟨e1, e2⟩ := nd_inj ed
        have hn : (nr T (wo T f own br n).1).testBit j = true := (tb_nr hT wl.1).mpr ⟨p / 2, w, pC, h, hw, en⟩
        have em : br.testBit j = false := by simpa using em
        cases ho : own.testBit j with
        | true =>
          rw [ho] at e2
          have : q % 2 = 1 := by simpa using e2
          have eq : q = 2 * j + 1 := by omega
          have o24 : own < 2 ^ 24 ∨ True := Or.inr trivial
          rw [eq, lv_odd]
          show ((wo T f own br n).1 ||| ((nr T (wo T f own br n).1 &&& cm br) &&& own)).testBit j = true
          rw [Nat.testBit_or, Nat.testBit_and, Nat.testBit_and, tb_cm (by omega), hn, em, ho]
          simp
        | false =>
          rw [ho] at e2
          have : ¬ q % 2 = 1 := by simpa using e2
          have eq : q = 2 * j := by omega
          rw [eq, lv_even, wo2_s (by omega), hn, em, ho]
          simp
/-- and nothing else does -/
theorem lv_back (hT : tG T) (hf : f < 2 ^ tC T) (hg : gIn T sh s own br) {n q : Nat} (h : lv T f own br (n + 1) q = true) : lv T f own br n q = true ∨ ∃ p w, p < 2 * tC T ∧ lv T f own br n p = true ∧ edg T sh s p w q := by
  have h24 := hT.c24
  have qC := lv_C hT hf h
  have wl := wo_ltC (own := own) (br := br) hT hf n
  rcases Nat.mod_two_eq_zero_or_one q with hq | hq
  · have eq : q = 2 * (q / 2) := by omega
    rw [eq, lv_even, wo2_s (by omega)] at h
    rw [eq, lv_even]
    generalize q / 2 = j at *
    cases h0 : (wo T f own br n).2.testBit j with
    | true => exact Or.inl rfl
    | false =>
      right
      rw [h0] at h
      simp only [Bool.false_or, Bool.and_eq_true, Bool.or_eq_true, Bool.not_eq_true'] at h
      obtain ⟨⟨h1, h2⟩, h3⟩ := h
      rcases h1 with h1 | h1
      · obtain ⟨c, w, hc, hb, hw, en⟩ := (tb_nr hT wl.1).mp h1
        rcases hg.2 with o0 | ⟨g1, g2⟩
        · rw [o0, wo_own0, Nat.zero_testBit] at hb
          cases hb
        · have en' : nx T ((2 * c + 1) / 2) w = some j := by rw [show (2 * c + 1) / 2 = c by omega]; exact en
          refine ⟨2 * c + 1, w, by omega, by rw [lv_odd]; exact hb, hw, ?_, ?_⟩
          · rw [may_in (by omega) hw en', g2, h2]
            rfl
          · rw [do_in (by omega) hw en', ← g1, h3]
            exact (nd_mk j).2
      · obtain ⟨c, w, hc, hb, hw, en⟩ := (tb_nr hT wl.2).mp h1
        have en' : nx T (2 * c / 2) w = some j := by rw [show 2 * c / 2 = c by omega]; exact en
        refine ⟨2 * c, w, by omega, by rw [lv_even]; exact hb, hw, ?_, ?_⟩
        · rw [may_out (by omega) hw en', hg.1 j, h2, h3]
          rfl
        · rw [do_out (by omega) hw en']
          exact (nd_mk j).2
  · have eq : q = 2 * (q / 2) + 1 := by omega
    rw [eq, lv_odd] at h
    rw [eq, lv_odd]
    generalize q / 2 = j at *
    have h : ((wo T f own br n).1 ||| ((nr T (wo T f own br n).1 &&& cm br) &&& own)).testBit j = true := h
    rw [Nat.testBit_or, Nat.testBit_and, Nat.testBit_and, tb_cm (by omega)] at h
    cases h0 : (wo T f own br n).1.testBit j with
    | true => exact Or.inl rfl
    | false =>
      right
      rw [h0] at h
      simp only [Bool.false_or, Bool.and_eq_true, Bool.not_eq_true'] at h
      obtain ⟨⟨h1, h2⟩, h3⟩ := h
      obtain ⟨c, w, hc, hb, hw, en⟩ := (tb_nr hT wl.1).mp h1
      rcases hg.2 with o0 | ⟨g1, g2⟩
      · rw [o0, Nat.zero_testBit] at h3
        cases h3
      · have en' : nx T ((2 * c + 1) / 2) w = some j := by rw [show (2 * c + 1) / 2 = c by omega]; exact en
        refine ⟨2 * c + 1, w, by omega, by rw [lv_odd]; exact hb, hw, ?_, ?_⟩
        · rw [may_in (by omega) hw en', g2, h2]
          rfl
        · rw [do_in (by omega) hw en', ← g1, h3]
          exact (nd_mk j).1
end LV

/-! the law's search for a way: what it knows on the way (over naturals) -/
theorem runS_c {T : tT} {sh : Nat} {b : sT} {a a' : Nat → Nat} : ∀ d, (∀ i, i < d → a' i = a i) → runS T sh b a' d = runS T sh b a d
  | 0, _ => rfl
  | d + 1, h => by
    show do1 T sh (runS T sh b a' d) (a' d) = do1 T sh (runS T sh b a d) (a d)
    rw [runS_c d (fun i hi => h i (by omega)), h d (by omega)]
theorem cR.c {T : tT} {sh d : Nat} {a a' : Nat → Nat} {I : am_I} (h : cR T sh d a I) (e : ∀ i, i < d → a' i = a i) : cR T sh d a' I := by
  obtain ⟨h1, h2, h3, h4, h5⟩ := h
  refine ⟨h1, h2, by rw [runS_c d e]; exact h3, h4, fun i hi => ?_⟩
  rw [runS_c i (fun j hj => e j (by omega)), e i hi]
  exact h5 i hi
/-- a way of m steps, the last of its numbers first -/
def pf (T : tT) (sh : Nat) (s : sT) (wy : Nat → Nat) (q : Nat) : Nat → Nat → Prop
  | 0, p => p = q
  | m + 1, p => ∃ r, edg T sh s p (wy m) r ∧ pf T sh s wy q m r
theorem pf_c {T : tT} {sh : Nat} {s : sT} {wy wy' : Nat → Nat} {q : Nat} : ∀ (m p : Nat), (∀ i, i < m → wy' i = wy i) → pf T sh s wy q m p → pf T sh s wy' q m p
  | 0, _, _, h => h
  | m + 1, p, e, ⟨r, h1, h2⟩ => ⟨r, by rw [e m (by omega)]; exact h1, pf_c m r (fun i hi => e i (by omega)) h2⟩
theorem edg_det {T : tT} {sh : Nat} {s : sT} {p w q q' : Nat} (h : edg T sh s p w q) (h' : edg T sh s p w q') : q = q' := by
  have e : nd s q = nd s q' := h.2.2.symm.trans h'.2.2
  unfold nd at e
  have e1 := congrArg Prod.fst e
  have e2 := congrArg (fun z : sT => z.2.2.2) e
  have e1 : q / 2 = q' / 2 := e1
  have e2 : (q % 2 == 1) = (q' % 2 == 1) := e2
  have : (q % 2 = 1) ↔ (q' % 2 = 1) := by
    constructor
    · intro h
      rw [h] at e2
      simpa using e2.symm
    · intro h
      rw [h] at e2
      simpa using e2
  omega
/-- what is known of how far the places are -/
def BF (T : tT) (sh : Nat) (s : sT) (f own br bg nn : Nat) (far : Nat → Option Nat) (cm : Nat → Nat) : Prop :=
  (∀ k m, far k = some m → k < 2 * tC T ∧ m ≤ nn ∧ lv T f own br m k = true) ∧
  (∀ k m, far k = some (m + 1) → ∃ p w, w < 4 ∧ cm k = 4 * p + w ∧ far p = some m ∧ edg T sh s p w k) ∧
  (∀ k, far k = some 0 ↔ k = bg)
def BC (T : tT) (f own br nn : Nat) (far : Nat → Option Nat) : Prop := ∀ k, lv T f own br nn k = true → ∃ i, i ≤ nn ∧ far k = some i
def BD (T : tT) (sh : Nat) (s : sT) (nn k0 w0 : Nat) (far : Nat → Option Nat) : Prop := ∀ p w q, (p < k0 ∨ (p = k0 ∧ w < w0)) → far p = some nn → edg T sh s p w q → far q ≠ none
theorem BF.up {T : tT} {sh : Nat} {s : sT} {f own br bg nn : Nat} {far : Nat → Option Nat} {cm : Nat → Nat} (h : BF T sh s f own br bg nn far cm) : BF T sh s f own br bg (nn + 1) far cm :=
  ⟨fun k m e => ⟨(h.1 k m e).1, by have := (h.1 k m e).2.1; omega, (h.1 k m e).2.2⟩, h.2.1, h.2.2⟩
def fup (far : Nat → Option Nat) (q v : Nat) : Nat → Option Nat := fun x => if x = q then some v else far x
def cup (cm : Nat → Nat) (q v : Nat) : Nat → Nat := fun x => if x = q then v else cm x
theorem fup_eq {far : Nat → Option Nat} {q v : Nat} : fup far q v q = some v := if_pos rfl
theorem fup_ne {far : Nat → Option Nat} {q v x : Nat} (h : x ≠ q) : fup far q v x = far x := if_neg h
theorem cup_eq {cm : Nat → Nat} {q v : Nat} : cup cm q v q = v := if_pos rfl
theorem cup_ne {cm : Nat → Nat} {q v x : Nat} (h : x ≠ q) : cup cm q v x = cm x := if_neg h
section BM
variable {T : tT} {sh f own br bg nn : Nat} {s : sT} {far : Nat → Option Nat} {cm : Nat → Nat}
theorem BF.new (hT : tG T) (hf : f < 2 ^ tC T) (hg : gIn T sh s own br) (h : BF T sh s f own br bg (nn + 1) far cm) {p w q : Nat} (hp : far p = some nn) (he : edg T sh s p w q) (hq : far q = none) : BF T sh s f own br bg (nn + 1) (fup far q (nn + 1)) (cup cm q (4 * p + w)) := by
  obtain ⟨h1, h2, h3⟩ := h
  have lq := lv_edge hT hf hg (h1 p nn hp).2.2 he
  have ne : ∀ x v, far x = some v → x ≠ q := fun x v e1 e2 => by rw [e2, hq] at e1; cases e1
  refine ⟨fun k m e => ?_, fun k m e => ?_, fun k => ?_⟩
  · by_cases ek : k = q
    · subst ek
      rw [fup_eq] at e
      cases e
      have := lv_C hT hf lq
      exact ⟨by omega, Nat.le_refl _, lq⟩
    · rw [fup_ne ek] at e
      exact h1 k m e
  · by_cases ek : k = q
    · subst ek
      rw [fup_eq] at e
      cases e
      exact ⟨p, w, he.1, cup_eq, by rw [fup_ne (ne p nn hp)]; exact hp, he⟩
    · rw [fup_ne ek] at e
      obtain ⟨p', w', a1, a2, a3, a4⟩ := h2 k m e
      exact ⟨p', w', a1, by rw [cup_ne ek]; exact a2, by rw [fup_ne (ne p' m a3)]; exact a3, a4⟩
  · by_cases ek : k = q
    · subst ek
      rw [fup_eq]
      constructor
      · intro e
        cases e
      · intro e
        rw [(h3 k).mpr e] at hq
        cases hq
    · rw [fup_ne ek]
      exact h3 k
theorem BC.new (h : BC T f own br nn far) {q : Nat} (hq : far q = none) (v : Nat) : BC T f own br nn (fup far q v) := by
  intro k hk
  obtain ⟨i, hi, e⟩ := h k hk
  refine ⟨i, hi, ?_⟩
  rw [fup_ne (fun e2 => by rw [e2, hq] at e; cases e)]
  exact e
theorem BD.new {k0 w0 : Nat} (h : BD T sh s nn k0 w0 far) {q : Nat} (hq : far q = none) (he : edg T sh s k0 w0 q) : BD T sh s nn k0 (w0 + 1) (fup far q (nn + 1)) := by
  intro p w r hpw hp e
  by_cases er : r = q
  · rw [er, fup_eq]
    exact fun z => by cases z
  · have pq : p ≠ q := fun z => by
      rw [z, fup_eq] at hp
      have := Option.some.inj hp
      omega
    rw [fup_ne pq] at hp
    rw [fup_ne er]
    by_cases e0 : p = k0 ∧ w = w0
    · obtain ⟨rfl, rfl⟩ := e0
      exact absurd (edg_det e he) er
    · exact h p w r (by omega) hp e
theorem BD.same {k0 w0 : Nat} (h : BD T sh s nn k0 w0 far) (hs : ∀ q, edg T sh s k0 w0 q → far q ≠ none) : BD T sh s nn k0 (w0 + 1) far := by
  intro p w r hpw hp e
  by_cases e0 : p = k0 ∧ w = w0
  · obtain ⟨rfl, rfl⟩ := e0
    exact hs r e
  · exact h p w r (by omega) hp e
theorem BD.next {k0 : Nat} (h : BD T sh s nn k0 4 far) : BD T sh s nn (k0 + 1) 0 far := by
  intro p w r hpw hp e
  exact h p w r (by have := e.1; omega) hp e
theorem BD.skip {k0 : Nat} (h : BD T sh s nn k0 0 far) (hk : far k0 ≠ some nn) : BD T sh s nn (k0 + 1) 0 far := by
  intro p w r hpw hp e
  by_cases e0 : p = k0
  · rw [e0] at hp
    exact absurd hp hk
  · exact h p w r (by omega) hp e
/-- a level is through -/
theorem BC.next (hT : tG T) (hf : f < 2 ^ tC T) (hg : gIn T sh s own br) (hF : BF T sh s f own br bg (nn + 1) far cm) (h : BC T f own br nn far) (hd : BD T sh s nn (2 * tC T) 0 far) : BC T f own br (nn + 1) far := by
  intro k hk
  rcases lv_back hT hf hg hk with h0 | ⟨p, w, hp, hl, he⟩
  · obtain ⟨i, hi, e⟩ := h k h0
    exact ⟨i, by omega, e⟩
  · obtain ⟨i, hi, e⟩ := h p hl
    by_cases q : i = nn
    · subst q
      cases ek : far k with
      | none => exact absurd ek (hd p w k (Or.inl hp) e he)
      | some j => exact ⟨j, (hF.1 k j ek).2.1, rfl⟩
    · have l1 := lv_edge hT hf hg (hF.1 p i e).2.2 he
      obtain ⟨j, hj, e2⟩ := h k (lv_le l1 (by omega))
      exact ⟨j, by omega, e2⟩
/-- at first -/
def far0 (bg : Nat) : Nat → Option Nat := fun k => if k = bg then some 0 else none
theorem lv_0 {c : Nat} {b : Bool} (hb : own.testBit c = b) {k : Nat} (hc : c < 24) : lv T (1 <<< c) own br 0 k = true ↔ k = 2 * c + (if b then 1 else 0) := by
  have e1 : (wo T (1 <<< c) own br 0).1 = 1 <<< c &&& own := rfl
  have e2 : (wo T (1 <<< c) own br 0).2 = 1 <<< c &&& cm own := rfl
  unfold lv
  rw [e1, e2, Nat.testBit_and, tb_and_cm (one_lt (by omega)), tb_one]
  split
  · rename_i q
    rw [Bool.and_eq_true, decide_eq_true_eq]
    constructor
    · rintro ⟨h1, h2⟩
      rw [← h1, hb] at h2
      rw [h2, if_pos rfl]
      omega
    · intro h
      cases b with
      | true =>
        rw [if_pos rfl] at h
        have : k / 2 = c := by omega
        rw [this]
        exact ⟨rfl, hb⟩
      | false =>
        rw [if_neg (by decide)] at h
        omega
  · rename_i q
    rw [Bool.and_eq_true, decide_eq_true_eq, Bool.not_eq_true']
    constructor
    · rintro ⟨h1, h2⟩
      rw [← h1, hb] at h2
      rw [h2, if_neg (by decide)]
      omega
    · intro h
      cases b with
      | false =>
        rw [if_neg (by decide)] at h
        have : k / 2 = c := by omega
        rw [this]
        exact ⟨rfl, hb⟩
      | true =>
        rw [if_pos rfl] at h
        omega
theorem BF_0 {c : Nat} {b : Bool} (hb : own.testBit c = b) (hc : c < tC T) (h24 : tC T ≤ 24) (hbg : bg = 2 * c + (if b then 1 else 0)) : BF T sh s (1 <<< c) own br bg 0 (far0 bg) cm ∧ BC T (1 <<< c) own br 0 (far0 bg) ∧ BD T sh s 0 0 0 (far0 bg) := by
  have z : ∀ k m, far0 bg k = some m → k = bg ∧ m = 0 := by
    intro k m e
    unfold far0 at e
    split at e
    · rename_i q
      cases e
      exact ⟨q, rfl⟩
    · cases e
  have zb : far0 bg bg = some 0 := if_pos rfl
  refine ⟨⟨fun k m e => ?_, fun k m e => ?_, fun k => ?_⟩, fun k hk => ?_, fun p w q h => by omega⟩
  · obtain ⟨rfl, rfl⟩ := z k m e
    refine ⟨?_, Nat.le_refl 0, (lv_0 hb (by omega)).mpr hbg⟩
    rw [hbg]
    split <;> omega
  · have := (z k _ e).2
    omega
  · constructor
    · intro e
      exact (z k 0 e).1
    · intro e
      rw [e]
      exact zb
  · have := (lv_0 hb (by omega)).mp hk
    rw [← hbg] at this
    rw [this]
    exact ⟨0, Nat.le_refl 0, zb⟩
end BM

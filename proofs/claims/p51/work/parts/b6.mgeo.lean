/-! light, thieves, what an order bars (over naturals) -/
/-- each lamp shines on streets alone -/
theorem cor_st {T : tT} (hT : tG T) {c : Nat} (hc : (tS T).testBit c = true) : ∀ (n x : Nat), (cor T c n).testBit x = true → (tS T).testBit x = true
  | 0, x, h => by
    have h : (1 <<< c).testBit x = true := h
    rw [tb_one] at h
    have : c = x := by simpa using h
    rw [← this]
    exact hc
  | n + 1, x, h => by
    have h : (cor T c n ||| nr T (cor T c n)).testBit x = true := h
    rw [Nat.testBit_or, Bool.or_eq_true] at h
    rcases h with h | h
    · exact cor_st hT hc n x h
    · rw [← nr_sub, Nat.testBit_and, Bool.and_eq_true] at h
      exact h.2
theorem lnAt_st {T : tT} (hT : tG T) {c way : Nat} (hc : (tS T).testBit c = true) : ∀ (i j : Nat), lnAt T c way i = some j → (tS T).testBit j = true
  | 0, j, e => by cases e; exact hc
  | i + 1, j, e => by
    unfold lnAt at e
    split at e
    · exact (nx_lt hT e).2
    · cases e
theorem ln_st {T : tT} (hT : tG T) {c n ways x : Nat} (hc : (tS T).testBit c = true) (h : (ln T c n ways).testBit x = true) : (tS T).testBit x = true := by
  unfold ln at h
  rw [Nat.testBit_or, Bool.or_eq_true, tb_one] at h
  rcases h with h | h
  · have : c = x := by simpa using h
    rw [← this]
    exact hc
  · obtain ⟨way, _, h⟩ := (tb_orN _ _ _).mp h
    split at h
    · obtain ⟨i, _, h⟩ := (tb_orN _ _ _).mp h
      rw [tb_oneO, decide_eq_true_eq] at h
      exact lnAt_st hT hc i x h
    · rw [Nat.zero_testBit] at h
      cases h
theorem shn_st {T : tT} (hT : tOk T) {sh k x : Nat} (hk : k < tN T) (h : (shn T sh k).testBit x = true) : (tS T).testBit x = true := by
  have hs := (hT.2.2.2.2.1 k hk).2.2.1
  unfold shn at h
  split at h
  · rw [tb_one] at h
    have : tP T k = x := by simpa using h
    rw [← this]
    exact hs
  · unfold bare at h
    split at h
    · exact cor_st hT.1 hs _ _ h
    · exact ln_st hT.1 hs h
theorem lit_sub {T : tT} {sh a b : Nat} (h : ∀ k, a.testBit k = true → b.testBit k = true) {x : Nat} (hx : (lit T sh a).testBit x = true) : (lit T sh b).testBit x = true := by
  obtain ⟨k, h1, h2, h3⟩ := tb_lit.mp hx
  exact tb_lit.mpr ⟨k, h1, h k h2, h3⟩
theorem pc_sub {a b : Nat} (h : ∀ x, a.testBit x = true → b.testBit x = true) : pc a ≤ pc b := (pcn_sub 32 a b (fun i _ => h i)).1
/-! an order: who is lit later doesn't stand in the light of who is lit ahead -/
theorem gap_lit {T : tT} {sh s l k : Nat} (h6 : tN T ≤ 6) (h : gap T sh s l k ≠ none) : k < tN T ∧ s ≤ al T ∧ (lit T sh s).testBit (tP T k) = false := by
  have p6 := Nat.pow_le_pow_right (n := 2) (by decide) h6
  by_cases q : s ≤ al T ∧ k < tN T ∧ (if s = 0 then l = 7 else s.testBit l = true)
  · have e : gap T sh s l k = gap0 T sh (tD T) 0 s l k := if_pos q
    rw [e] at h
    obtain ⟨q1, q2, q3⟩ := q
    refine ⟨q2, q1, ?_⟩
    unfold gap0 at h
    by_cases s0 : s = 0
    · rw [s0, lit_0, Nat.zero_testBit]
    · rw [if_neg s0] at h q3
      have hl : l < tN T := by
        by_cases z : l < tN T
        · exact z
        · have : s.testBit l = false := Nat.testBit_lt_two_pow (by
            have := Nat.pow_le_pow_right (n := 2) (by decide) (show tN T ≤ l by omega)
            unfold al at q1
            have := Nat.two_pow_pos (tN T)
            omega)
          rw [this] at q3
          cases q3
      have s64 : s < 64 := by unfold al at q1; omega
      rw [lit_cut sh s64 (by omega) hl q3]
      cases e1 : (shn T sh l).testBit (tP T k) with
      | true =>
        have : pace T (1 <<< tP T l) (shn T sh l) (lit T sh (s - 2 ^ l) ||| 0) (tP T k) = none := if_pos (Or.inl e1)
        exact absurd this h
      | false => cases e2 : (lit T sh (s - 2 ^ l)).testBit (tP T k) with
        | true =>
          have : pace T (1 <<< tP T l) (shn T sh l) (lit T sh (s - 2 ^ l) ||| 0) (tP T k) = none := if_pos (Or.inr (by rw [Nat.or_zero]; exact e2))
          exact absurd this h
        | false => rfl
  · have e : gap T sh s l k = none := if_neg q
    exact absurd e h
theorem tb_add : ∀ s, s < 64 → ∀ k, k < 6 → s.testBit k = false → ∀ j, j < 8 → (s + 2 ^ k).testBit j = (s.testBit j || decide (j = k)) := by decide +kernel
def dimR (T : tT) (sh m k : Nat) : Prop := (shn T sh m).testBit (tP T k) = false
theorem cst_dim {T : tT} {sh : Nat} (h6 : tN T ≤ 6) : ∀ (r : List Nat) (s l : Nat), vr (al T) s r → cst (gap T sh) s l r ≠ none → (∀ m, m < tN T → s.testBit m = true → ∀ k, k ∈ r → dimR T sh m k) ∧ r.Pairwise (dimR T sh)
  | [], s, l, _, _ => ⟨fun _ _ _ k hk => absurd hk List.not_mem_nil, List.Pairwise.nil⟩
  | k :: r, s, l, hv, h => by
    obtain ⟨v1, v2, v3, v4⟩ := hv
    have h : oadd (gap T sh s l k) (cst (gap T sh) (s + 2 ^ k) k r) ≠ none := h
    have hg : gap T sh s l k ≠ none := fun e => h (by rw [e]; rfl)
    have hc : cst (gap T sh) (s + 2 ^ k) k r ≠ none := fun e => h (by
      rw [e]
      cases gap T sh s l k <;> rfl)
    obtain ⟨g1, g2, g3⟩ := gap_lit h6 hg
    have p6 := Nat.pow_le_pow_right (n := 2) (by decide) h6
    have s64 : s < 64 := by unfold al at g2; omega
    obtain ⟨i1, i2⟩ := cst_dim h6 r (s + 2 ^ k) k v4 hc
    refine ⟨fun m hm hs k' hk' => ?_, List.Pairwise.cons (fun k' hk' => i1 k g1 (by rw [tb_add s s64 k v1 v3 k (by omega)]; simp) k' hk') i2⟩
    rcases List.mem_cons.mp hk' with rfl | hk'
    · unfold dimR
      cases e : (shn T sh m).testBit (tP T k') with
      | false => rfl
      | true =>
        rw [tb_lit.mpr ⟨m, hm, hs, e⟩] at g3
        cases g3
    · exact i1 m hm (by rw [tb_add s s64 k v1 v3 m (by omega), hs]; rfl) k' hk'
/-- where there is an order of all, nothing is in a ring -/
theorem ring_none {T : tT} {sh : Nat} (h6 : tN T ≤ 6) (h : Fm (gap T sh) (al T) ≠ none) {k : Nat} (hk : k < tN T) : inR T sh k = false := by
  have p6 := Nat.pow_le_pow_right (n := 2) (by decide) h6
  obtain ⟨r, hr, hc⟩ := (Fm_ex sh (by unfold al; omega)).mp h
  have hd := (cst_dim h6 r 0 7 (pQ_vr _ _ _ _ hr) hc).2
  obtain ⟨len, -⟩ := pQ_len (n := tN T) (by omega) hr
  have edge : ∀ m j, m < tN T → (bar T sh m).testBit j = true → pos (tN T) r j < pos (tN T) r m := by
    intro m j hm hb
    obtain ⟨b1, b2, b3⟩ := tb_bar.mp hb
    have pm := pos_at (n := tN T) (by omega) hr hm
    have pj := pos_at (n := tN T) (by omega) hr b1
    have ne : pos (tN T) r j ≠ pos (tN T) r m := fun e => by
      have h1 := pj.2.1
      rw [e, pm.2.1] at h1
      exact b2 h1.symm
    by_cases q : pos (tN T) r j < pos (tN T) r m
    · exact q
    · exfalso
      have := List.pairwise_iff_getElem.mp hd (pos (tN T) r m) (pos (tN T) r j) (by omega) (by omega) (by omega)
      have e1 : r[pos (tN T) r m]'(by omega) = m := by
        have := pm.2.1
        unfold rwF at this
        rw [List.getD_eq_getElem?_getD, List.getElem?_eq_getElem (by omega)] at this
        exact this
      have e2 : r[pos (tN T) r j]'(by omega) = j := by
        have := pj.2.1
        unfold rwF at this
        rw [List.getD_eq_getElem?_getD, List.getElem?_eq_getElem (by omega)] at this
        exact this
      rw [e1, e2] at this
      unfold dimR at this
      rw [b3] at this
      cases this
  have path : ∀ i j, (rg T sh k (i + 1)).testBit j = true → pos (tN T) r j < pos (tN T) r k := by
    intro i
    induction i with
    | zero =>
      intro j h
      obtain ⟨m, hm, h1, h2⟩ := rg_back.mp h
      rw [rg_0] at h1
      subst h1
      exact edge m j hm h2
    | succ i ih =>
      intro j h
      obtain ⟨m, hm, h1, h2⟩ := rg_back.mp h
      have := ih m h1
      have := edge m j hm h2
      omega
  cases e : inR T sh k with
  | false => rfl
  | true =>
    obtain ⟨i, _, h2⟩ := inR_iff.mp e
    have := path i k h2
    omega
/-! where a thief comes to -/
theorem nq_sym {T : tT} (hT : tG T) {c w j : Nat} (hc : c < tC T) (hw : w < 4) (h : nq T c w = some j) : ∃ w', w' < 4 ∧ nq T j w' = some c := by
  have w2 := hT.1
  rcases (by omega : w = 0 ∨ w = 1 ∨ w = 2 ∨ w = 3) with rfl | rfl | rfl | rfl
  · have h : (if c < tW T then none else some (c - tW T)) = some j := h
    split at h
    · cases h
    · cases h
      refine ⟨2, by decide, ?_⟩
      show (if c - tW T + tW T < tC T then some (c - tW T + tW T) else none) = some c
      rw [if_pos (by omega), show c - tW T + tW T = c by omega]
  · have h : (if c % tW T + 1 = tW T then none else some (c + 1)) = some j := h
    split at h
    · cases h
    · rename_i q
      cases h
      refine ⟨3, by decide, ?_⟩
      show (if (c + 1) % tW T = 0 then none else some (c + 1 - 1)) = some c
      have ml := Nat.mod_lt c (show 0 < tW T by omega)
      have : (c + 1) % tW T = c % tW T + 1 := by
        rw [Nat.add_mod, Nat.mod_eq_of_lt (show 1 < tW T by omega), Nat.mod_eq_of_lt (by omega)]
      rw [if_neg (by omega)]
      rfl
  · have h : (if c + tW T < tC T then some (c + tW T) else none) = some j := h
    split at h
    · cases h
      refine ⟨0, by decide, ?_⟩
      show (if c + tW T < tW T then none else some (c + tW T - tW T)) = some c
      rw [if_neg (by omega), show c + tW T - tW T = c by omega]
    · cases h
  · have h : (if c % tW T = 0 then none else some (c - 1)) = some j := h
    split at h
    · cases h
    · rename_i q
      cases h
      refine ⟨1, by decide, ?_⟩
      show (if (c - 1) % tW T + 1 = tW T then none else some (c - 1 + 1)) = some c
      have ml := Nat.mod_lt c (show 0 < tW T by omega)
      have c1 : 1 ≤ c := by
        by_cases z : c = 0
        · rw [z, Nat.zero_mod] at q
          exact absurd rfl q
        · omega
      have e : ((c - 1) + 1) % tW T = ((c - 1) % tW T + 1 % tW T) % tW T := Nat.add_mod _ _ _
      rw [show c - 1 + 1 = c by omega, Nat.mod_eq_of_lt (show 1 < tW T by omega)] at e
      have ml2 := Nat.mod_lt (c - 1) (show 0 < tW T by omega)
      by_cases z : (c - 1) % tW T + 1 = tW T
      · rw [z, Nat.mod_self] at e
        omega
      · rw [if_neg z, show c - 1 + 1 = c by omega]
theorem nx_sym {T : tT} (hT : tG T) {c w j : Nat} (hc : c < tC T) (hs : (tS T).testBit c = true) (hw : w < 4) (h : nx T c w = some j) : ∃ w', w' < 4 ∧ nx T j w' = some c := by
  have hq : nq T c w = some j := by
    unfold nx at h
    split at h
    · rename_i j' e
      split at h
      · cases h
        exact e
      · cases h
    · cases h
  obtain ⟨w', hw', h'⟩ := nq_sym hT hc hw hq
  refine ⟨w', hw', ?_⟩
  unfold nx
  rw [h']
  show (if (tS T).testBit c then some c else none) = some c
  rw [if_pos hs]
section DK
variable {T : tT} {b : Nat}
theorem dk_up {f i x : Nat} (h : (dk T b f i).testBit x = true) : (dk T b f (i + 1)).testBit x = true := by
  show (dk T b f i ||| _).testBit x = true
  rw [Nat.testBit_or, h]
  rfl
theorem dk_mono {f i x : Nat} (h : (dk T b f i).testBit x = true) : ∀ d, (dk T b f (i + d)).testBit x = true
  | 0 => h
  | d + 1 => dk_up (dk_mono h d)
theorem dk_in (hT : tG T) {f i x : Nat} (h : (dk T b f i).testBit x = true) : x < tC T ∧ (tS T).testBit x = true ∧ b.testBit x = false := by
  have h24 := hT.c24
  have xC : x < tC T := by
    by_cases q : x < tC T
    · exact q
    · rw [tb_big (dk_lt hT b f i) (by omega)] at h
      cases h
  rw [← (dk_step hT b f i).2, Nat.testBit_and, Nat.testBit_and, tb_cm (by omega), Bool.and_eq_true, Bool.and_eq_true, Bool.not_eq_true'] at h
  exact ⟨xC, h.2.1, h.2.2⟩
theorem dk_s (hT : tG T) {f i x : Nat} : (dk T b f (i + 1)).testBit x = true ↔ (dk T b f i).testBit x = true ∨ ∃ c w, c < tC T ∧ (dk T b f i).testBit c = true ∧ w < 4 ∧ nx T c w = some x ∧ b.testBit x = false := by
  have h24 := hT.c24
  show (dk T b f i ||| (nr T (dk T b f i) &&& cm b)).testBit x = true ↔ _
  rw [Nat.testBit_or, Bool.or_eq_true, Nat.testBit_and, Bool.and_eq_true]
  constructor
  · rintro (h | ⟨h1, h2⟩)
    · exact Or.inl h
    · obtain ⟨c, w, hc, hb, hw, e⟩ := (tb_nr hT (dk_lt hT b f i)).mp h1
      have := (nx_lt hT e).1
      rw [tb_cm (by omega), Bool.not_eq_true'] at h2
      exact Or.inr ⟨c, w, hc, hb, hw, e, h2⟩
  · rintro (h | ⟨c, w, hc, hb, hw, e, h2⟩)
    · exact Or.inl h
    · have := (nx_lt hT e).1
      exact Or.inr ⟨(tb_nr hT (dk_lt hT b f i)).mpr ⟨c, w, hc, hb, hw, e⟩, by rw [tb_cm (by omega), h2]; rfl⟩
theorem dk_0 (hT : tG T) {c x : Nat} (hc : c < tC T) : (dk T b (1 <<< c) 0).testBit x = true ↔ x = c ∧ (tS T).testBit c = true ∧ b.testBit c = false := by
  have h24 := hT.c24
  show (((1 <<< c) &&& tS T) &&& cm b).testBit x = true ↔ _
  rw [Nat.testBit_and, Nat.testBit_and, tb_one, Bool.and_eq_true, Bool.and_eq_true, decide_eq_true_eq]
  constructor
  · rintro ⟨⟨h1, h2⟩, h3⟩
    subst h1
    rw [tb_cm (by omega), Bool.not_eq_true'] at h3
    exact ⟨rfl, h2, h3⟩
  · rintro ⟨h1, h2, h3⟩
    subst h1
    exact ⟨⟨rfl, h2⟩, by rw [tb_cm (by omega), h3]; rfl⟩
/-- as far as he comes in the end -/
theorem dk_fix (hT : tG T) {f i x : Nat} (h : (dk T b f i).testBit x = true) : (dk T b f (tC T)).testBit x = true := by
  by_cases q : i ≤ tC T
  · have := dk_mono h (tC T - i)
    rw [show i + (tC T - i) = tC T by omega] at this
    exact this
  · have e := grow (dk T b f) (dk_lt hT b f) (fun i q hq => dk_up hq) (fun i j e => by
      show (dk T b f i ||| (nr T (dk T b f i) &&& cm b)) = (dk T b f j ||| (nr T (dk T b f j) &&& cm b))
      rw [e]) i (by omega)
    rw [← e]
    exact h
theorem dk_close (hT : tG T) {f c w x : Nat} (h : (dk T b f (tC T)).testBit c = true) (hw : w < 4) (e : nx T c w = some x) (hb : b.testBit x = false) : (dk T b f (tC T)).testBit x = true :=
  dk_fix (i := tC T + 1) hT ((dk_s hT).mpr (Or.inr ⟨c, w, (dk_in hT h).1, h, hw, e, hb⟩))
theorem dk_trans (hT : tG T) {c a : Nat} (ha : a < tC T) (h : (dk T b (1 <<< c) (tC T)).testBit a = true) : ∀ i x, (dk T b (1 <<< a) i).testBit x = true → (dk T b (1 <<< c) (tC T)).testBit x = true
  | 0, x, hx => by
    obtain ⟨rfl, -⟩ := (dk_0 hT ha).mp hx
    exact h
  | i + 1, x, hx => by
    rcases (dk_s hT).mp hx with hx | ⟨c', w, _, h1, hw, e, hb⟩
    · exact dk_trans hT ha h i x hx
    · exact dk_close hT (dk_trans hT ha h i c' h1) hw e hb
theorem dk_sym (hT : tG T) {c : Nat} (hc : c < tC T) : ∀ i a, (dk T b (1 <<< c) i).testBit a = true → (dk T b (1 <<< a) (tC T)).testBit c = true
  | 0, a, h => by
    obtain ⟨rfl, h1, h2⟩ := (dk_0 hT hc).mp h
    exact dk_fix (i := 0) hT ((dk_0 hT hc).mpr ⟨rfl, h1, h2⟩)
  | i + 1, a, h => by
    rcases (dk_s hT).mp h with h | ⟨c', w, hc', h1, hw, e, hb⟩
    · exact dk_sym hT hc i a h
    · have ih := dk_sym hT hc i c' h1
      obtain ⟨d1, d2, d3⟩ := dk_in hT h1
      obtain ⟨w', hw', e'⟩ := nx_sym hT d1 d2 hw e
      obtain ⟨g1, g2⟩ := nx_lt hT e
      have a0 : (dk T b (1 <<< a) (tC T)).testBit a = true := dk_fix (i := 0) hT ((dk_0 hT g1).mpr ⟨rfl, g2, hb⟩)
      exact dk_trans hT d1 (dk_close hT a0 hw' e' d3) (tC T) c ih
theorem dk_same (hT : tG T) {c a : Nat} (hc : c < tC T) (h : (dk T b (1 <<< c) (tC T)).testBit a = true) : dk T b (1 <<< a) (tC T) = dk T b (1 <<< c) (tC T) := by
  have ha := (dk_in hT h).1
  apply Nat.eq_of_testBit_eq
  intro x
  rw [Bool.eq_iff_iff]
  exact ⟨fun hx => dk_trans hT ha h _ x hx, fun hx => dk_trans hT hc (dk_sym hT hc _ a h) _ x hx⟩
theorem dk_none (hT : tG T) {c : Nat} (hc : c < tC T) : dk T b (1 <<< c) (tC T) = 0 ↔ (b.testBit c = true ∨ (tS T).testBit c = false) := by
  constructor
  · intro h
    apply Classical.byContradiction
    intro q
    have h1 : b.testBit c = false := by
      cases e : b.testBit c with
      | false => rfl
      | true => exact absurd (Or.inl e) q
    have h2 : (tS T).testBit c = true := by
      cases e : (tS T).testBit c with
      | true => rfl
      | false => exact absurd (Or.inr e) q
    have := dk_fix (i := 0) hT ((dk_0 hT hc).mpr ⟨rfl, h2, h1⟩)
    rw [h, Nat.zero_testBit] at this
    cases this
  · intro h
    have z : dk T b (1 <<< c) 0 = 0 := by
      apply Nat.eq_of_testBit_eq
      intro x
      rw [Nat.zero_testBit]
      cases e : (dk T b (1 <<< c) 0).testBit x with
      | false => rfl
      | true =>
        obtain ⟨_, h1, h2⟩ := (dk_0 hT hc).mp e
        rcases h with h | h
        · rw [h] at h2; cases h2
        · rw [h] at h1; cases h1
    have all : ∀ i, dk T b (1 <<< c) i = 0 := by
      intro i
      induction i with
      | zero => exact z
      | succ i ih =>
        show dk T b (1 <<< c) i ||| (nr T (dk T b (1 <<< c) i) &&& cm b) = 0
        rw [ih, nr_0, Nat.zero_and]
        rfl
    exact all _
end DK

/-! two lamplighters: the second one's steps -/
def secS (T : tT) (sh c s : Nat) : Option Nat := if s = al T then some 0 else if (lit T sh s).testBit c = true then none else ominN (tN T) (fun k => oadd (pace T (1 <<< c) 0 (lit T sh s) (tP T k)) (Bo (gap T sh) (tN T) (al T) (s ||| 1 <<< k) k))
theorem lit_union {T : tT} (sh a b : Nat) : lit T sh (a ||| b) = lit T sh a ||| lit T sh b := by
  apply Nat.eq_of_testBit_eq
  intro x
  rw [Nat.testBit_or, Bool.eq_iff_iff, Bool.or_eq_true, tb_lit, tb_lit, tb_lit]
  constructor
  · rintro ⟨k, h1, h2, h3⟩
    rw [Nat.testBit_or, Bool.or_eq_true] at h2
    rcases h2 with h2 | h2
    · exact Or.inl ⟨k, h1, h2, h3⟩
    · exact Or.inr ⟨k, h1, h2, h3⟩
  · rintro (⟨k, h1, h2, h3⟩ | ⟨k, h1, h2, h3⟩)
    · exact ⟨k, h1, by rw [Nat.testBit_or, h2]; rfl, h3⟩
    · exact ⟨k, h1, by rw [Nat.testBit_or, h2, Bool.or_true], h3⟩
theorem sub_dis (s : Nat) (hs : s < 64) (r : Nat) (hr : r < 64) (hd : s &&& r = 0) (l : Nat) (hl : l < 6) (hb : r.testBit l = true) : s + r - 2 ^ l = s ||| (r - 2 ^ l) ∧ (s + r).testBit l = true ∧ s + r < 64 := by
  have e := add_or s hs r hr hd
  have le := two_le hb
  have ac := and_cm1 r hr l hl hb
  have lt : r - 2 ^ l < 64 := Nat.lt_of_le_of_lt (Nat.sub_le _ _) hr
  have d2 : s &&& (r - 2 ^ l) = 0 := by
    rw [← ac, ← Nat.and_assoc, hd, Nat.zero_and]
  have e2 := add_or s hs (r - 2 ^ l) lt d2
  refine ⟨?_, ?_, ?_⟩
  · rw [← e2]
    omega
  · rw [e, Nat.testBit_or, hb, Bool.or_true]
  · rw [e]
    exact or_lt (n := 6) hs hr
theorem dis_up (s : Nat) (hs : s < 64) (r : Nat) (hr : r < 64) (hd : s &&& r = 0) (l : Nat) (hl : l < 6) (hb : r.testBit l = false) (hsb : s.testBit l = false) : s &&& (r + 2 ^ l) = 0 := by
  rw [← (bit_up r hr l hl hb).1, Nat.and_or_distrib_left, hd, Nat.zero_or]
  exact and_one.mpr hsb
/-- behind the first step the second one goes as one does who lit them all -/
theorem gr_shift {T : tT} (sh c s R : Nat) (h6 : tN T ≤ 6) (hs : s ≤ al T) (hR : R = al T - s) {r l k : Nat} (h0 : r ≠ 0) (hl : l < tN T) (hb : r.testBit l = true) (hk : R.testBit k = true) (hkn : k < 6) (hrk : r.testBit k = false) (hd : s &&& r = 0) (hr : r ≤ al T) (hsr : s + r ≤ al T) : gr T sh c (lit T sh s) R r l k = gap T sh (s + r) l k := by
  have p := Nat.two_pow_pos (tN T)
  have p6 := Nat.pow_le_pow_right (n := 2) (by decide) h6
  have a64 : al T < 64 := by unfold al; omega
  have rb := sub_bit (tN T) (by omega) s (by omega) (by unfold al at hs; omega) k hkn
  have e : (2 ^ tN T - 1 - s) = R := by rw [hR]; rfl
  rw [e, hk] at rb
  have rb := rb.symm
  rw [Bool.and_eq_true] at rb
  have kn : k < tN T := of_decide_eq_true rb.1
  obtain ⟨d1, d2, d3⟩ := sub_dis s (by omega) r (by omega) hd l (by omega) hb
  unfold gr
  rw [if_pos ⟨hr, kn, hk, hrk, by rw [if_neg h0]; exact ⟨hl, hb⟩⟩, gap_l hsr d2 kn]
  unfold gap0
  rw [if_neg h0, if_neg (by omega), d1, lit_union, Nat.or_zero, Nat.or_comm]
theorem cst_shift {T : tT} (sh c s R : Nat) (h6 : tN T ≤ 6) (hs : s ≤ al T) (hR : R = al T - s) : ∀ (q : List Nat) (r l : Nat), vr R r q → r ≠ 0 → l < tN T → r.testBit l = true → s &&& r = 0 → r ≤ al T → s + r ≤ al T → cst (gr T sh c (lit T sh s) R) r l q = cst (fun r l k => gap T sh (s + r) l k) r l q := by
  intro q
  induction q with
  | nil =>
    intro r l _ _ _ _ _ _ _
    show (some 0 : Option Nat) = some 0
    rfl
  | cons k q ih =>
    intro r l hv h0 hl hb hd hr hsr
    have p := Nat.two_pow_pos (tN T)
    have p6 := Nat.pow_le_pow_right (n := 2) (by decide) h6
    have a64 : al T < 64 := by unfold al; omega
    obtain ⟨v1, v2, v3, v4⟩ := hv
    have rb := sub_bit (tN T) (by omega) s (by omega) (by unfold al at hs; omega) k v1
    have e : (2 ^ tN T - 1 - s) = R := by rw [hR]; rfl
    rw [e, v2] at rb
    have rb := rb.symm
    rw [Bool.and_eq_true, Bool.not_eq_true'] at rb
    have kn : k < tN T := of_decide_eq_true rb.1
    obtain ⟨u1, u2⟩ := up_al h6 hr kn v3
    have du := dis_up s (by omega) r (by omega) hd k v1 v3 rb.2
    have sb : (s + r).testBit k = false := by
      rw [add_or s (by omega) r (by omega) hd, Nat.testBit_or, rb.2, v3]
      rfl
    obtain ⟨w1, w2⟩ := up_al h6 hsr kn sb
    have pk := Nat.two_pow_pos k
    show oadd (gr T sh c (lit T sh s) R r l k) (cst (gr T sh c (lit T sh s) R) (r + 2 ^ k) k q) = oadd (gap T sh (s + r) l k) (cst (fun r l k => gap T sh (s + r) l k) (r + 2 ^ k) k q)
    rw [gr_shift sh c s R h6 hs hR h0 hl hb v2 v1 v3 hd hr hsr, ih (r + 2 ^ k) k v4 (by omega) kn (bit_up r (by omega) k v1 v3).2.2 du u1 (by omega)]
theorem secS_Fm {T : tT} (sh c s : Nat) (hok : tOk T) (hs : s ≤ al T) (hc : s = al T ∨ (lit T sh s).testBit c = false) : Fm (gr T sh c (lit T sh s) (al T - s)) (al T - s) = secS T sh c s := by
  have h6 := hok.2.2.2.1
  have p := Nat.two_pow_pos (tN T)
  have p6 := Nat.pow_le_pow_right (n := 2) (by decide) h6
  have a64 : al T < 64 := by unfold al; omega
  unfold secS
  by_cases e : s = al T
  · rw [if_pos e, e, Nat.sub_self, Fm_0]
  · rw [if_neg e, if_neg (by rw [hc.resolve_left e]; decide)]
    have R0 : 0 < al T - s := by omega
    rw [Fm_rows _ (by omega), P_head R0, ominL_flat]
    have rb := fun k hk => sub_bit (tN T) (by omega) s (by omega) (by unfold al at hs; omega) k hk
    have eR : (2 ^ tN T - 1 - s) = al T - s := rfl
    rw [eR] at rb
    have big := ominN_more (f := fun k => ominL (cst (gr T sh c (lit T sh s) (al T - s)) 0 7) (if (al T - s).testBit k && !(0 : Nat).testBit k then (pQ (al T - s) 63 (0 + 2 ^ k)).map (fun r => k :: r) else [])) (n := tN T) (6 - tN T) (fun i i1 i2 => by
      show ominL _ (if (al T - s).testBit i && !(0 : Nat).testBit i then _ else []) = none
      rw [rb i (by omega), decide_eq_false (by omega)]
      rfl)
    rw [show tN T + (6 - tN T) = 6 by omega] at big
    rw [big]
    refine ominN_c _ (fun k hk => ?_)
    have bk := rb k (by omega)
    rw [decide_eq_true hk, Bool.true_and] at bk
    show ominL _ (if (al T - s).testBit k && !(0 : Nat).testBit k then _ else []) = _
    rw [bk]
    cases hsk : s.testBit k with
    | true =>
      have pn : pace T (1 <<< c) 0 (lit T sh s) (tP T k) = none := by
        unfold pace
        rw [if_pos (Or.inr (lit_self hk hsk))]
      rw [pn]
      rfl
    | false =>
      simp only [Bool.not_false, Nat.zero_testBit, Bool.and_self, if_true, Nat.zero_add]
      rw [ominL_map]
      have g0 : gr T sh c (lit T sh s) (al T - s) 0 7 k = pace T (1 <<< c) 0 (lit T sh s) (tP T k) := by
        unfold gr
        rw [if_pos ⟨Nat.zero_le _, hk, by rw [bk, hsk]; rfl, Nat.zero_testBit k, by rw [if_pos rfl]⟩]
        unfold gap0
        rw [if_pos rfl]
      have bu := bit_up s (by omega) k (by omega) hsk
      have up := up_al h6 hs hk hsk
      have pk := Nat.two_pow_pos k
      have d0 : s &&& 2 ^ k = 0 := by
        rw [← n_one, and_one]
        exact hsk
      have lek : 2 ^ k ≤ al T := by omega
      have rows := Bo_rows (gap T sh) (n := tN T) (a := al T) (u := s) (R := al T - s) h6 rfl hs rfl 63 (2 ^ k) k (by omega) (by rw [Nat.and_comm]; exact d0) lek
      have tbk : (2 ^ k).testBit k = true := by rw [Nat.testBit_two_pow]; exact decide_eq_true rfl
      rw [bu.1, rows, ← ominL_add']
      refine ominL_cong _ (fun r hr => ?_)
      show oadd (gr T sh c (lit T sh s) (al T - s) 0 7 k) (cst (gr T sh c (lit T sh s) (al T - s)) (0 + 2 ^ k) k r) = _
      rw [g0, Nat.zero_add, cst_shift sh c s (al T - s) h6 hs rfl r (2 ^ k) k (pQ_vr _ _ _ _ hr) (by omega) hk tbk d0 lek (by omega)]

/-! how many orders: what a table holds on the way; there are some just where there are fewest steps -/
def aw : Nat → Nat → Bool := fun _ _ => true
theorem sumN_c {f g : Nat → Nat} : ∀ (n : Nat), (∀ i, i < n → f i = g i) → sumN n f = sumN n g
  | 0, _ => rfl
  | n + 1, h => by
    show sumN n f + f n = sumN n g + g n
    rw [sumN_c n (fun i hi => h i (by omega)), h n (by omega)]
theorem sumN_le {f : Nat → Nat} {b : Nat} : ∀ (n : Nat), (∀ i, i < n → f i ≤ b) → sumN n f ≤ n * b
  | 0, _ => by simp [sumN]
  | n + 1, h => by
    have := sumN_le n (fun i hi => h i (by omega))
    have := h n (by omega)
    show sumN n f + f n ≤ (n + 1) * b
    rw [Nat.succ_mul]
    omega
theorem sumN_0 {f : Nat → Nat} : ∀ (n : Nat), sumN n f = 0 ↔ ∀ i, i < n → f i = 0
  | 0 => ⟨fun _ i hi => by omega, fun _ => rfl⟩
  | n + 1 => by
    show sumN n f + f n = 0 ↔ _
    rw [Nat.add_eq_zero_iff, sumN_0 n]
    constructor
    · rintro ⟨h1, h2⟩ i hi
      by_cases q : i = n
      · subst q; exact h2
      · exact h1 i (by omega)
    · intro h
      exact ⟨fun i hi => h i (by omega), h n (by omega)⟩
theorem omin_none {a b : Option Nat} : omin a b = none ↔ a = none ∧ b = none := by
  cases a <;> cases b <;> simp [omin]
theorem oadd_none {a b : Option Nat} : oadd a b = none ↔ a = none ∨ b = none := by
  cases a <;> cases b <;> simp [oadd]
theorem ominN_none {f : Nat → Option Nat} : ∀ (n : Nat), ominN n f = none ↔ ∀ i, i < n → f i = none
  | 0 => ⟨fun _ i hi => by omega, fun _ => rfl⟩
  | n + 1 => by
    show omin (ominN n f) (f n) = none ↔ _
    rw [omin_none, ominN_none n]
    constructor
    · rintro ⟨h1, h2⟩ i hi
      by_cases q : i = n
      · subst q; exact h2
      · exact h1 i (by omega)
    · intro h
      exact ⟨fun i hi => h i (by omega), h n (by omega)⟩
theorem Wo_eq (g : Nat → Nat → Nat → Option Nat) (ok : Nat → Nat → Bool) (s l : Nat) : Wo g ok s l = if s = 0 then (if l = 7 then 1 else 0) else if s.testBit l = true then sumN 8 (fun last => if (g (s - 2 ^ l) last l).isSome && ok (s - 2 ^ l) l then Wo g ok (s - 2 ^ l) last else 0) else 0 := by
  rw [Wo]
  by_cases q : s = 0
  · rw [if_pos q, if_pos q]
  · rw [if_neg q, if_neg q]
    by_cases h : s.testBit l = true
    · rw [dif_pos h, if_pos h]
    · rw [dif_neg h, if_neg h]
theorem Wo_Fo (g : Nat → Nat → Nat → Option Nat) : ∀ (s l : Nat), Wo g aw s l = 0 ↔ Fo g s l = none := by
  intro s
  induction s using Nat.strongRecOn with
  | ind s ih =>
    intro l
    rw [Wo_eq, Fo_eq]
    by_cases q : s = 0
    · rw [if_pos q, if_pos q]
      by_cases q7 : l = 7
      · rw [if_pos q7, if_pos q7]; simp
      · rw [if_neg q7, if_neg q7]; simp
    · rw [if_neg q, if_neg q]
      by_cases h : s.testBit l = true
      · rw [if_pos h, if_pos h, sumN_0, ominN_none]
        have := two_le h
        have := Nat.two_pow_pos l
        have key : ∀ i, ((if (g (s - 2 ^ l) i l).isSome && aw (s - 2 ^ l) l then Wo g aw (s - 2 ^ l) i else 0) = 0) ↔ (oadd (Fo g (s - 2 ^ l) i) (g (s - 2 ^ l) i l) = none) := by
          intro i
          have e := ih (s - 2 ^ l) (by omega) i
          rw [oadd_none, ← e]
          cases g (s - 2 ^ l) i l with
          | none => simp
          | some v => simp [aw]
        constructor
        · intro w i hi
          exact (key i).mp (w i hi)
        · intro w i hi
          exact (key i).mpr (w i hi)
      · rw [if_neg h, if_neg h]; simp
theorem pc_dn : ∀ s, s < 64 → ∀ k, k < 6 → s.testBit k = true → pcn 6 (s - 2 ^ k) + 1 = pcn 6 s := by decide +kernel
theorem bit_6 {s k : Nat} (h : s.testBit k = true) (hs : s < 64) : k < 6 := by
  by_cases w : k < 6
  · exact w
  · rw [tb_big (n := 6) hs (by omega)] at h
    cases h
theorem Wo_le (g : Nat → Nat → Nat → Option Nat) (ok : Nat → Nat → Bool) : ∀ (s l : Nat), s < 64 → Wo g ok s l ≤ 8 ^ pcn 6 s := by
  intro s
  induction s using Nat.strongRecOn with
  | ind s ih =>
    intro l hs
    rw [Wo_eq]
    have p : 0 < 8 ^ pcn 6 s := Nat.pow_pos (by decide)
    by_cases q : s = 0
    · rw [if_pos q]
      split <;> omega
    · rw [if_neg q]
      by_cases h : s.testBit l = true
      · rw [if_pos h]
        have := two_le h
        have := Nat.two_pow_pos l
        have e := pc_dn s hs l (bit_6 h hs) h
        rw [← e, Nat.pow_succ, Nat.mul_comm]
        refine sumN_le 8 (fun i _ => ?_)
        split
        · exact ih (s - 2 ^ l) (by omega) i (by omega)
        · exact Nat.zero_le _
      · rw [if_neg h]
        omega
theorem Wo_lt (g : Nat → Nat → Nat → Option Nat) (ok : Nat → Nat → Bool) {s : Nat} (l : Nat) (hs : s < 64) : Wo g ok s l ≤ 262144 := by
  have h1 := Wo_le g ok s l hs
  have h2 := Nat.pow_le_pow_right (n := 8) (by decide) (pcn_le 6 s)
  omega
def eW (g : Nat → Nat → Nat → Option Nat) (ok : Nat → Nat → Bool) (s l k S' l' : Nat) : Nat :=
  if S' = 0 then (if l' = 7 then 1 else 0)
  else if S'.testBit l' = true then
    (if S' - 2 ^ l' < s then Wo g ok S' l' else if S' - 2 ^ l' = s then sumN (if l' < k then l + 1 else l) (fun last => if (g s last l').isSome && ok s l' then Wo g ok s last else 0) else 0)
  else 0
theorem eW_lt {g : Nat → Nat → Nat → Option Nat} {ok : Nat → Nat → Bool} {s l k S' l' : Nat} (hs : s < 64) (hl : l < 8) (hS : S' < 64) : eW g ok s l k S' l' ≤ 2097152 := by
  unfold eW
  split
  · split <;> omega
  · split
    · split
      · have := Wo_lt g ok l' hS
        omega
      · split
        · have := sumN_le (f := fun last => if (g s last l').isSome && ok s l' then Wo g ok s last else 0) (b := 262144) (if l' < k then l + 1 else l) (fun i _ => by
            show (if (g s i l').isSome && ok s l' then Wo g ok s i else 0) ≤ _
            split
            · exact Wo_lt g ok i hs
            · omega)
          refine Nat.le_trans this ?_
          split <;> omega
        · omega
    · omega
theorem eW_now (g : Nat → Nat → Nat → Option Nat) (ok : Nat → Nat → Bool) (s l k : Nat) : eW g ok s l k s l = Wo g ok s l := by
  rw [Wo_eq]
  unfold eW
  by_cases q : s = 0
  · rw [if_pos q, if_pos q]
  · rw [if_neg q, if_neg q]
    by_cases h : s.testBit l = true
    · have := two_le h
      have := Nat.two_pow_pos l
      rw [if_pos h, if_pos h, if_pos (by omega), Wo_eq, if_neg q, if_pos h]
    · rw [if_neg h, if_neg h]
theorem eW_next (g : Nat → Nat → Nat → Option Nat) (ok : Nat → Nat → Bool) (s S' l' : Nat) : eW g ok (s + 1) 0 0 S' l' = eW g ok s 8 0 S' l' := by
  unfold eW
  by_cases q : S' = 0
  · rw [if_pos q, if_pos q]
  · rw [if_neg q, if_neg q]
    by_cases h : S'.testBit l' = true
    · rw [if_pos h, if_pos h]
      by_cases c : S' - 2 ^ l' < s
      · rw [if_pos c, if_pos (by omega)]
      · rw [if_neg c]
        by_cases c2 : S' - 2 ^ l' = s
        · rw [if_pos c2, if_pos (by omega), if_neg (Nat.not_lt_zero _), Wo_eq, if_neg q, if_pos h, c2]
        · rw [if_neg c2, if_neg (by omega)]
          by_cases c3 : S' - 2 ^ l' = s + 1
          · rw [if_pos c3]
            rfl
          · rw [if_neg c3]
    · rw [if_neg h, if_neg h]
theorem eW_skip {g : Nat → Nat → Nat → Option Nat} {ok : Nat → Nat → Bool} {s l : Nat} (h : Wo g ok s l = 0) (S' l' : Nat) : eW g ok s (l + 1) 0 S' l' = eW g ok s l 0 S' l' := by
  unfold eW
  have e : ∀ n f, f n = 0 → sumN (n + 1) f = sumN n f := by
    intro n f e
    show sumN n f + f n = _
    rw [e]
    rfl
  rw [if_neg (Nat.not_lt_zero _), if_neg (Nat.not_lt_zero _), e l _ (by rw [h]; exact ite_self _)]
theorem eW_step {g : Nat → Nat → Nat → Option Nat} {ok : Nat → Nat → Bool} {s l k : Nat} (hs : s < 64) (hk : k < 6) (hb : s.testBit k = false) : eW g ok s l (k + 1) (s + 2 ^ k) k = eW g ok s l k (s + 2 ^ k) k + (if (g s l k).isSome && ok s k then Wo g ok s l else 0) := by
  obtain ⟨_, b2, b3⟩ := bit_up s hs k hk hb
  have p := Nat.two_pow_pos k
  unfold eW
  have e0 : ¬ (s + 2 ^ k = 0) := by omega
  have e1 : ¬ (s + 2 ^ k - 2 ^ k < s) := by omega
  have e2 : s + 2 ^ k - 2 ^ k = s := by omega
  have e3 : k < k + 1 := by omega
  have e4 : ¬ (k < k) := by omega
  simp only [if_neg e0, if_pos b3, if_neg e1, if_pos e2, if_pos e3, if_neg e4]
  rfl
theorem eW_same {g : Nat → Nat → Nat → Option Nat} {ok : Nat → Nat → Bool} {s l k S' l' : Nat} (h : ¬ (l' = k ∧ S'.testBit k = true ∧ S' - 2 ^ k = s)) : eW g ok s l (k + 1) S' l' = eW g ok s l k S' l' := by
  unfold eW
  by_cases q : S' = 0
  · rw [if_pos q, if_pos q]
  · rw [if_neg q, if_neg q]
    by_cases hb : S'.testBit l' = true
    · rw [if_pos hb, if_pos hb]
      by_cases c : S' - 2 ^ l' < s
      · rw [if_pos c, if_pos c]
      · rw [if_neg c, if_neg c]
        by_cases c2 : S' - 2 ^ l' = s
        · rw [if_pos c2, if_pos c2]
          by_cases e : l' = k
          · subst e
            exact absurd ⟨rfl, hb, c2⟩ h
          · by_cases w : l' < k
            · rw [if_pos w, if_pos (by omega)]
            · rw [if_neg w, if_neg (by omega)]
        · rw [if_neg c2, if_neg c2]
    · rw [if_neg hb, if_neg hb]
theorem eW_row {g : Nat → Nat → Nat → Option Nat} {ok : Nat → Nat → Bool} {s l n : Nat} (h : ∀ k, n ≤ k → g s l k = none) (S' l' : Nat) : eW g ok s (l + 1) 0 S' l' = eW g ok s l n S' l' := by
  unfold eW
  by_cases q : S' = 0
  · rw [if_pos q, if_pos q]
  · rw [if_neg q, if_neg q]
    by_cases hb : S'.testBit l' = true
    · rw [if_pos hb, if_pos hb]
      by_cases c : S' - 2 ^ l' < s
      · rw [if_pos c, if_pos c]
      · rw [if_neg c, if_neg c]
        by_cases c2 : S' - 2 ^ l' = s
        · rw [if_pos c2, if_pos c2, if_neg (Nat.not_lt_zero _)]
          by_cases w : l' < n
          · rw [if_pos w]
          · rw [if_neg w]
            show sumN l _ + (if (g s l l').isSome && ok s l' then Wo g ok s l else 0) = _
            rw [h l' (by omega)]
            rfl
        · rw [if_neg c2, if_neg c2]
    · rw [if_neg hb, if_neg hb]
/-- nothing changes where no step is -/
theorem eS_none {g : Nat → Nat → Nat → Option Nat} {s l k : Nat} (h : g s l k = none) (S' l' : Nat) : eS g s l (k + 1) S' l' = eS g s l k S' l' := by
  by_cases q : l' = k ∧ S'.testBit k = true ∧ S' - 2 ^ k = s
  · obtain ⟨rfl, q2, q3⟩ := q
    unfold eS
    have e0 : ¬ S' = 0 := fun e => by rw [e] at q2; simp at q2
    have e3 : l' < l' + 1 := by omega
    have e4 : ¬ (l' < l') := by omega
    have e5 : ¬ (S' - 2 ^ l' < s) := by omega
    simp only [if_neg e0, if_pos q2, if_neg e5, if_pos q3, if_pos e3, if_neg e4]
    show omin (ominN l _) (oadd (Fo g s l) (g s l l')) = _
    rw [h]
    cases Fo g s l <;> cases ominN l (fun last => oadd (Fo g s last) (g s last l')) <;> rfl
  · exact eS_same q
theorem eW_none {g : Nat → Nat → Nat → Option Nat} {ok : Nat → Nat → Bool} {s l k : Nat} (h : ((g s l k).isSome && ok s k) = false) (S' l' : Nat) : eW g ok s l (k + 1) S' l' = eW g ok s l k S' l' := by
  by_cases q : l' = k ∧ S'.testBit k = true ∧ S' - 2 ^ k = s
  · obtain ⟨rfl, q2, q3⟩ := q
    unfold eW
    have e0 : ¬ S' = 0 := fun e => by rw [e] at q2; simp at q2
    have e3 : l' < l' + 1 := by omega
    have e4 : ¬ (l' < l') := by omega
    have e5 : ¬ (S' - 2 ^ l' < s) := by omega
    simp only [if_neg e0, if_pos q2, if_neg e5, if_pos q3, if_pos e3, if_neg e4]
    show sumN l _ + (if (g s l l').isSome && ok s l' then Wo g ok s l else 0) = _
    rw [h]
    rfl
  · exact eW_same q

/-! orders: how many, what a sighting leaves, what rings bar (over naturals) -/
theorem Fm_ex {T : tT} (sh : Nat) (h64 : al T < 64) : Fm (gap T sh) (al T) ≠ none ↔ ∃ r, r ∈ pQ (al T) 64 0 ∧ cst (gap T sh) 0 7 r ≠ none := by
  rw [Fm_rows _ h64, Ne, ominL_none]
  constructor
  · intro h
    apply Classical.byContradiction
    intro q
    exact h (fun r hr => by
      apply Classical.byContradiction
      intro z
      exact q ⟨r, hr, z⟩)
  · rintro ⟨r, hr, z⟩ h
    exact z (h r hr)
/-- there are orders, just where one is the shortest -/
theorem Ws_pos {T : tT} (sh : Nat) (h64 : al T < 64) : Ws (gap T sh) aw (al T) ≠ 0 ↔ Fm (gap T sh) (al T) ≠ none := by
  rw [← all_Ws sh h64, Fm_ex sh h64]
  constructor
  · intro h
    obtain ⟨r, hr, z⟩ := List.countP_pos_iff.mp (Nat.pos_of_ne_zero h)
    refine ⟨r, hr, ?_⟩
    unfold cA at z
    intro q
    rw [q] at z
    cases z
  · rintro ⟨r, hr, z⟩ h
    have := List.countP_pos_iff.mpr ⟨r, hr, show cA T sh r = true by
      unfold cA
      cases e : cst (gap T sh) 0 7 r with
      | none => exact absurd e z
      | some v => rfl⟩
    omega
theorem al_n {T : tT} : al T = 2 ^ tN T - 1 := rfl
theorem first_0 {T : tT} (sh : Nat) (h6 : tN T ≤ 6) (h0 : 0 < tN T) : bO (tN T) (fun k => (fby T sh k).isSome) = 0 ↔ Fm (gap T sh) (al T) = none := by
  have p6 := Nat.pow_le_pow_right (n := 2) (by decide) h6
  have h64 : al T < 64 := by unfold al; omega
  constructor
  · intro h
    apply Classical.byContradiction
    intro q
    obtain ⟨r, hr, z⟩ := (Fm_ex sh h64).mp q
    have hk := (pQ_len (n := tN T) (by omega) hr).2 0 h0
    have := (fby_rows sh h6 hk).mpr ⟨r, hr, rfl, z⟩
    have b : (bO (tN T) (fun k => (fby T sh k).isSome)).testBit (rwF r 0) = true := by
      rw [tb_bO, decide_eq_true hk]
      cases e : fby T sh (rwF r 0) with
      | none => exact absurd e this
      | some v => rfl
    rw [h, Nat.zero_testBit] at b
    cases b
  · intro h
    apply Nat.eq_of_testBit_eq
    intro k
    rw [tb_bO, Nat.zero_testBit]
    by_cases hk : k < tN T
    · have : fby T sh k = none := by
        apply Classical.byContradiction
        intro q
        obtain ⟨r, hr, _, z⟩ := (fby_rows sh h6 hk).mp q
        exact ((Fm_ex sh h64).mpr ⟨r, hr, z⟩) h
      rw [this]
      simp
    · rw [decide_eq_false hk]
      rfl
theorem Wf_0 (T : tT) (sh : Nat) (a b : Nat → Nat) : Wf T sh 0 a b = Ws (gap T sh) aw (al T) := by
  have : okD (dmd a b 0) = aw := okD_0
  unfold Wf
  rw [this]
def sees (T : tT) (m : Nat) (a b : Nat → Nat) : Prop := ∀ i, i < m → a i < tN T ∧ b i < tN T ∧ a i ≠ b i
theorem Wf_cnt {T : tT} (sh : Nat) {m : Nat} {a b : Nat → Nat} (h6 : tN T ≤ 6) (hs : sees T m a b) : Wf T sh m a b = (pQ (al T) 64 0).countP (cF T sh a b m) := by
  have p6 := Nat.pow_le_pow_right (n := 2) (by decide) h6
  exact (fit_Ws sh m a b h6 (by unfold al; omega) hs).symm
theorem Wh_cnt {T : tT} (sh : Nat) {m j k : Nat} {a b : Nat → Nat} (h6 : tN T ≤ 6) (hs : sees T m a b) (hj : j < tN T) (hk : k < tN T) (jk : j ≠ k) : Wh T sh m a b j k = (pQ (al T) 64 0).countP (cH T sh a b m j k) := by
  have p6 := Nat.pow_le_pow_right (n := 2) (by decide) h6
  exact (ahead_Ws sh m j k a b h6 (by unfold al; omega) hs hj hk jk).symm
theorem seenB_c {n : Nat} {a b a' b' : Nat → Nat} {x : List Nat} : ∀ m, (∀ i, i < m → a' i = a i ∧ b' i = b i) → seenB n a' b' x m = seenB n a b x m
  | 0, _ => rfl
  | m + 1, h => by
    show (seenB n a' b' x m && decide (pos n x (a' m) < pos n x (b' m))) = (seenB n a b x m && decide (pos n x (a m) < pos n x (b m)))
    rw [seenB_c m (fun i hi => h i (by omega)), (h m (by omega)).1, (h m (by omega)).2]
/-- one thing more was seen -/
theorem Wf_next {T : tT} (sh : Nat) {m j k : Nat} {a b : Nat → Nat} (h6 : tN T ≤ 6) (hs : sees T m a b) (hj : j < tN T) (hk : k < tN T) (jk : j ≠ k) : Wf T sh (m + 1) (fun i => if i = m then j else a i) (fun i => if i = m then k else b i) = Wh T sh m a b j k := by
  have e1 : (fun i => if i = m then j else a i) m = j := if_pos rfl
  have e2 : (fun i => if i = m then k else b i) m = k := if_pos rfl
  rw [Wh_cnt sh h6 hs hj hk jk, Wf_cnt sh h6 (fun i hi => ?_)]
  · refine List.countP_congr (fun r _ => ?_)
    have e3 : seenB (tN T) (fun i => if i = m then j else a i) (fun i => if i = m then k else b i) r m = seenB (tN T) a b r m := seenB_c m (fun i hi => ⟨if_neg (by omega), if_neg (by omega)⟩)
    unfold cH cF
    show (cA T sh r && (seenB (tN T) (fun i => if i = m then j else a i) (fun i => if i = m then k else b i) r m && decide (pos (tN T) r ((fun i => if i = m then j else a i) m) < pos (tN T) r ((fun i => if i = m then k else b i) m)))) = true ↔ _
    rw [e3, e1, e2]
    have : (j != k) = true := by simpa using jk
    rw [this, Bool.true_and, Bool.and_assoc]
  · by_cases e : i = m
    · subst e
      rw [if_pos (rfl : i = i), if_pos (rfl : i = i)]
      exact ⟨hj, hk, jk⟩
    · show (if i = m then j else a i) < _ ∧ (if i = m then k else b i) < _ ∧ (if i = m then j else a i) ≠ (if i = m then k else b i)
      rw [if_neg e, if_neg e]
      exact hs i (by omega)
theorem countP_add {p q r : List Nat → Bool} : ∀ (A : List (List Nat)), (∀ x, x ∈ A → (p x = (q x || r x)) ∧ (q x && r x) = false) → A.countP p = A.countP q + A.countP r
  | [], _ => rfl
  | x :: A, h => by
    have ih := countP_add A (fun y hy => h y (List.mem_cons_of_mem _ hy))
    obtain ⟨h1, h2⟩ := h x List.mem_cons_self
    have key : (if (q x || r x) = true then 1 else 0) = (if q x = true then 1 else 0) + (if r x = true then 1 else 0) := by
      revert h2
      cases q x <;> cases r x <;> intro h2 <;> first | rfl | cases h2
    rw [List.countP_cons, List.countP_cons, List.countP_cons, ih, h1, key]
    omega
/-- one of two is ahead of the other -/
theorem Wh_two {T : tT} (sh : Nat) {m j k : Nat} {a b : Nat → Nat} (h6 : tN T ≤ 6) (hs : sees T m a b) (hj : j < tN T) (hk : k < tN T) (jk : j ≠ k) : Wf T sh m a b = Wh T sh m a b j k + Wh T sh m a b k j := by
  rw [Wf_cnt sh h6 hs, Wh_cnt sh h6 hs hj hk jk, Wh_cnt sh h6 hs hk hj (Ne.symm jk)]
  refine countP_add _ (fun x hx => ?_)
  have pj := pos_at (n := tN T) (by omega) hx hj
  have pk := pos_at (n := tN T) (by omega) hx hk
  have ne : pos (tN T) x j ≠ pos (tN T) x k := fun e => by
    have h1 := pj.2.1
    rw [e, pk.2.1] at h1
    exact jk h1.symm
  have n1 : (j != k) = true := by simpa using jk
  have n2 : (k != j) = true := by simpa using Ne.symm jk
  unfold cH
  rw [n1, n2, Bool.true_and, Bool.true_and]
  cases cF T sh a b m x with
  | false => simp
  | true =>
    by_cases q : pos (tN T) x j < pos (tN T) x k
    · rw [decide_eq_true q, decide_eq_false (by omega)]
      simp
    · rw [decide_eq_false q, decide_eq_true (by omega)]
      simp
theorem Wf_le {T : tT} (sh : Nat) {m : Nat} {a b : Nat → Nat} (h6 : tN T ≤ 6) (hs : sees T m a b) : Wf T sh m a b ≤ 720 := by
  rw [Wf_cnt sh h6 hs]
  exact cnt_le (n := tN T) (by omega) (A := pQ (al T) 64 0) (B := []) (by rw [List.append_nil]; rfl)
/-! rings -/
theorem tb_bar {T : tT} {sh k j : Nat} : (bar T sh k).testBit j = true ↔ j < tN T ∧ j ≠ k ∧ (shn T sh k).testBit (tP T j) = true := by
  unfold bar
  rw [tb_bO]
  simp
theorem tb_byL {T : tT} {sh k j : Nat} : (byL T sh k).testBit j = true ↔ j < tN T ∧ j ≠ k ∧ (shn T sh j).testBit (tP T k) = true := by
  unfold byL
  rw [tb_bO]
  simp
theorem rg_back {T : tT} {sh k i j : Nat} : (rg T sh k (i + 1)).testBit j = true ↔ ∃ m, m < tN T ∧ (rg T sh k i).testBit m = true ∧ (bar T sh m).testBit j = true := by
  show (orN (tN T) (fun j => if (rg T sh k i).testBit j then bar T sh j else 0)).testBit j = true ↔ _
  rw [tb_orN]
  constructor
  · rintro ⟨m, hm, h⟩
    by_cases q : (rg T sh k i).testBit m = true
    · rw [if_pos q] at h
      exact ⟨m, hm, q, h⟩
    · rw [if_neg q, Nat.zero_testBit] at h
      cases h
  · rintro ⟨m, hm, h1, h2⟩
    exact ⟨m, hm, by rw [if_pos h1]; exact h2⟩
theorem rg_0 {T : tT} {sh k j : Nat} : (rg T sh k 0).testBit j = true ↔ j = k := by
  show (1 <<< k).testBit j = true ↔ _
  rw [tb_one]
  simp [eq_comm]
theorem rg_front {T : tT} {sh : Nat} : ∀ (i k j : Nat), k < tN T → ((rg T sh k (i + 1)).testBit j = true ↔ ∃ m, m < tN T ∧ (bar T sh k).testBit m = true ∧ (rg T sh m i).testBit j = true)
  | 0, k, j, hk => by
    rw [rg_back]
    constructor
    · rintro ⟨m, hm, h1, h2⟩
      rw [rg_0] at h1
      subst h1
      exact ⟨j, (tb_bar.mp h2).1, h2, rg_0.mpr rfl⟩
    · rintro ⟨m, hm, h1, h2⟩
      rw [rg_0] at h2
      subst h2
      exact ⟨k, hk, rg_0.mpr rfl, h1⟩
  | i + 1, k, j, hk => by
    rw [rg_back]
    constructor
    · rintro ⟨m, hm, h1, h2⟩
      obtain ⟨q, hq, h3, h4⟩ := (rg_front i k m hk).mp h1
      exact ⟨q, hq, h3, rg_back.mpr ⟨m, hm, h4, h2⟩⟩
    · rintro ⟨q, hq, h1, h2⟩
      obtain ⟨m, hm, h3, h4⟩ := rg_back.mp h2
      exact ⟨m, hm, (rg_front i k m hk).mpr ⟨q, hq, h1, h3⟩, h4⟩
theorem inR_iff {T : tT} {sh k : Nat} : inR T sh k = true ↔ ∃ i, i < tN T ∧ (rg T sh k (i + 1)).testBit k = true := by
  unfold inR rsz
  cases e : fstN (tN T) (fun i => (rg T sh k (i + 1)).testBit k) with
  | some i =>
    obtain ⟨h1, h2, -⟩ := (fstN_some _ _ _).mp e
    simp
    exact ⟨i, h1, h2⟩
  | none =>
    have := (fstN_none _ _).mp e
    simp
    intro i hi
    exact this i hi
/-- one in a ring bars one in a ring, and is barred by one -/
theorem ring_in {T : tT} {sh k : Nat} (hk : k < tN T) (h : inR T sh k = true) : (∃ m, m < tN T ∧ (bar T sh k).testBit m = true ∧ inR T sh m = true) ∧ ∃ m, m < tN T ∧ (byL T sh k).testBit m = true ∧ inR T sh m = true := by
  obtain ⟨i, hi, h⟩ := inR_iff.mp h
  constructor
  · obtain ⟨m, hm, h1, h2⟩ := (rg_front i k k hk).mp h
    exact ⟨m, hm, h1, inR_iff.mpr ⟨i, hi, rg_back.mpr ⟨k, hk, h2, h1⟩⟩⟩
  · obtain ⟨m, hm, h1, h2⟩ := rg_back.mp h
    obtain ⟨b1, b2, b3⟩ := tb_bar.mp h2
    exact ⟨m, hm, tb_byL.mpr ⟨hm, Ne.symm b2, b3⟩, inR_iff.mpr ⟨i, hi, (rg_front i m m hm).mpr ⟨k, hk, h2, h1⟩⟩⟩
theorem rsz_1 {T : tT} {sh k : Nat} : rsz T sh k ≠ 1 := by
  unfold rsz
  cases e : fstN (tN T) (fun i => (rg T sh k (i + 1)).testBit k) with
  | none => exact fun q => by cases q
  | some i =>
    intro q
    have q : i + 1 = 1 := q
    obtain rfl : i = 0 := by omega
    obtain ⟨h1, h2, -⟩ := (fstN_some _ _ _).mp e
    obtain ⟨m, hm, h3, h4⟩ := rg_back.mp h2
    rw [rg_0] at h3
    subst h3
    exact (tb_bar.mp h4).2.1 rfl
theorem sml_0 {T : tT} {sh : Nat} : ∀ n, sml T sh n = 0 ↔ ∀ k, k < n → inR T sh k = false
  | 0 => ⟨fun _ k hk => by omega, fun _ => rfl⟩
  | n + 1 => by
    have ih := @sml_0 T sh n
    have st : sml T sh (n + 1) = if rsz T sh n = 0 then sml T sh n else if sml T sh n = 0 then rsz T sh n else min (sml T sh n) (rsz T sh n) := rfl
    have ir : inR T sh n = false ↔ rsz T sh n = 0 := by unfold inR; simp
    rw [st]
    constructor
    · intro h k hk
      split at h
      · rename_i q
        by_cases e : k = n
        · subst e
          exact ir.mpr q
        · exact ih.mp h k (by omega)
      · split at h
        · rename_i q q2
          exact absurd h q
        · rename_i q q2
          omega
    · intro h
      rw [if_pos (ir.mp (h n (by omega)))]
      exact ih.mpr (fun k hk => h k (by omega))
theorem sml_1 {T : tT} {sh : Nat} : ∀ n, sml T sh n ≠ 1
  | 0 => fun q => by cases q
  | n + 1 => by
    have ih := @sml_1 T sh n
    have r := @rsz_1 T sh n
    show (if rsz T sh n = 0 then sml T sh n else if sml T sh n = 0 then rsz T sh n else min (sml T sh n) (rsz T sh n)) ≠ 1
    split
    · exact ih
    · split
      · exact r
      · omega
theorem ring_0 {T : tT} {sh : Nat} : bO (tN T) (inR T sh) = 0 ↔ sml T sh (tN T) = 0 := by
  rw [sml_0]
  constructor
  · intro h k hk
    have : (bO (tN T) (inR T sh)).testBit k = false := by rw [h, Nat.zero_testBit]
    rw [tb_bO, decide_eq_true hk, Bool.true_and] at this
    exact this
  · intro h
    apply Nat.eq_of_testBit_eq
    intro k
    rw [tb_bO, Nat.zero_testBit]
    by_cases hk : k < tN T
    · rw [h k hk, Bool.and_false]
    · rw [decide_eq_false hk]
      rfl

/-! the first row of fewest steps, lamp by lamp -/
def sB (g : Nat → Nat → Nat → Option Nat) (n a s l k : Nat) : Option Nat := if s.testBit k then none else oadd (g s l k) (Bo g n a (s + 2 ^ k) k)
def nxt (g : Nat → Nat → Nat → Option Nat) (n a s l : Nat) : Nat := (fstN n (fun k => decide (sB g n a s l k = Bo g n a s l))).getD 0
def gd (g : Nat → Nat → Nat → Option Nat) (n a : Nat) : Nat → Nat → Nat → List Nat
  | 0, _, _ => []
  | d + 1, s, l => if a ≤ s then [] else nxt g n a s l :: gd g n a d (s + 2 ^ nxt g n a s l) (nxt g n a s l)
theorem ominN_le {f : Nat → Option Nat} : ∀ (n v i x : Nat), ominN n f = some v → i < n → f i = some x → v ≤ x
  | 0, _, _, _, _, h, _ => by omega
  | n + 1, v, i, x, e, hi, hx => by
    have e : omin (ominN n f) (f n) = some v := e
    by_cases q : i = n
    · subst q
      rw [hx] at e
      cases h1 : ominN i f with
      | none => rw [h1] at e; cases e; omega
      | some y =>
        rw [h1] at e
        have e : some (min y x) = some v := e
        cases e
        omega
    · cases h1 : ominN n f with
      | none =>
        have := (ominN_none n).mp h1 i (by omega)
        rw [this] at hx
        cases hx
      | some y =>
        have ih := ominN_le n y i x h1 (by omega) hx
        rw [h1] at e
        cases h2 : f n with
        | none => rw [h2] at e; cases e; exact ih
        | some z =>
          rw [h2] at e
          have e : some (min y z) = some v := e
          cases e
          omega
theorem ominL_le {f : List Nat → Option Nat} : ∀ (A : List (List Nat)) (v : Nat) (r : List Nat) (x : Nat), ominL f A = some v → r ∈ A → f r = some x → v ≤ x
  | [], _, _, _, _, h, _ => by cases h
  | q :: A, v, r, x, e, hr, hx => by
    have e : omin (f q) (ominL f A) = some v := e
    rcases List.mem_cons.mp hr with rfl | hr
    · rw [hx] at e
      cases h1 : ominL f A with
      | none => rw [h1] at e; cases e; omega
      | some y =>
        rw [h1] at e
        have e : some (min x y) = some v := e
        cases e
        omega
    · cases h1 : ominL f A with
      | none =>
        have := (ominL_none A).mp h1 r hr
        rw [this] at hx
        cases hx
      | some y =>
        have ih := ominL_le A y r x h1 hr hx
        rw [h1] at e
        cases h2 : f q with
        | none => rw [h2] at e; cases e; exact ih
        | some z =>
          rw [h2] at e
          have e : some (min z y) = some v := e
          cases e
          omega
theorem nxt_spec {g : Nat → Nat → Nat → Option Nat} {n a s l v : Nat} (hs : s < a) (h : Bo g n a s l = some v) : nxt g n a s l < n ∧ sB g n a s l (nxt g n a s l) = some v ∧ ∀ k, k < nxt g n a s l → sB g n a s l k ≠ some v := by
  have e := Bo_eq g n a s l
  rw [if_neg (by omega), h] at e
  obtain ⟨i, h1, h2⟩ := ominN_some _ _ e.symm
  have h2 : sB g n a s l i = some v := h2
  unfold nxt
  cases q : fstN n (fun k => decide (sB g n a s l k = Bo g n a s l)) with
  | none =>
    have := (fstN_none _ _).mp q i h1
    have := of_decide_eq_false this
    rw [h] at this
    exact absurd h2 this
  | some j =>
    obtain ⟨q1, q2, q3⟩ := (fstN_some _ _ _).mp q
    have q2 := of_decide_eq_true q2
    rw [h] at q2
    refine ⟨q1, q2, fun k hk w => ?_⟩
    have := of_decide_eq_false (q3 k hk)
    rw [h] at this
    exact this w
theorem find_flat {p : List Nat → Bool} {F : Nat → List (List Nat)} {k0 : Nat} {r : List Nat} (h1 : ∀ k, k < k0 → (F k).find? p = none) (h2 : (F k0).find? p = some r) : ∀ m, k0 < m → ((List.range m).flatMap F).find? p = some r := by
  have h0 : ∀ m, m ≤ k0 → ((List.range m).flatMap F).find? p = none := by
    intro m
    induction m with
    | zero => intro _; rfl
    | succ m ih =>
      intro hm
      rw [List.range_succ, List.flatMap_append, List.flatMap_singleton, List.find?_append, ih (by omega), h1 m (by omega)]
      rfl
  intro m
  induction m with
  | zero => intro hm; omega
  | succ m ih =>
    intro hm
    rw [List.range_succ, List.flatMap_append, List.flatMap_singleton, List.find?_append]
    by_cases q : k0 = m
    · subst q
      rw [h0 k0 (Nat.le_refl _), h2]
      rfl
    · rw [ih (by omega)]
      rfl
theorem gd_find {g : Nat → Nat → Nat → Option Nat} {n a : Nat} (hn : n ≤ 6) (ha : a = 2 ^ n - 1) : ∀ (d s l v : Nat), a - s ≤ d → s ≤ a → Bo g n a s l = some v → (pQ a d s).find? (fun r => decide (cst g s l r = some v)) = some (gd g n a d s l) := by
  have p := Nat.two_pow_pos n
  have p6 := Nat.pow_le_pow_right (n := 2) (by decide) hn
  intro d
  induction d with
  | zero =>
    intro s l v h1 h2 h3
    rw [Bo_eq, if_pos (by omega)] at h3
    cases h3
    rfl
  | succ d ih =>
    intro s l v h1 h2 h3
    by_cases q : a ≤ s
    · have e := h3
      rw [Bo_eq, if_pos q] at e
      cases e
      unfold pQ gd
      rw [if_pos q, if_pos q]
      rfl
    · obtain ⟨n1, n2, n3⟩ := nxt_spec (by omega) h3
      have e : gd g n a (d + 1) s l = nxt g n a s l :: gd g n a d (s + 2 ^ nxt g n a s l) (nxt g n a s l) := if_neg q
      rw [e]
      generalize nxt g n a s l = k0 at *
      have ab : ∀ k, k < n → a.testBit k = true := fun k hk => by
        rw [ha, Nat.testBit_two_pow_sub_one]
        exact decide_eq_true hk
      have bound : ∀ k, k < n → s.testBit k = false → s + 2 ^ k ≤ a := fun k hk hb => by
        have sb := bit_up s (by omega) k (by omega) hb
        have : s ||| 1 <<< k < 2 ^ n := or_lt (by omega) (one_lt hk)
        rw [sb.1] at this
        omega
      unfold pQ
      rw [if_neg q]
      refine find_flat (k0 := k0) (fun k hk => ?_) ?_ 6 (by omega)
      · by_cases c : s.testBit k = true
        · rw [c]
          simp
        · have c : s.testBit k = false := by simpa using c
          rw [ab k (by omega), c]
          simp only [Bool.not_false, Bool.and_self, if_true]
          rw [List.find?_eq_none]
          intro r' hr w
          obtain ⟨r, hr2, rfl⟩ := List.mem_map.mp hr
          have w : oadd (g s l k) (cst g (s + 2 ^ k) k r) = some v := of_decide_eq_true w
          obtain ⟨x, y, e1, e2, e3⟩ := oadd_some w
          have p2 := Nat.two_pow_pos k
          have rows := Bo_rows g (n := n) (a := a) (u := 0) (R := a) hn ha (Nat.zero_le _) rfl d (s + 2 ^ k) k (by omega) (Nat.and_zero _) (bound k (by omega) c)
          simp only [Nat.zero_add] at rows
          have hB := Bo_eq g n a s l
          rw [if_neg q, h3] at hB
          cases b : Bo g n a (s + 2 ^ k) k with
          | none =>
            rw [b] at rows
            have := (ominL_none _).mp rows.symm r hr2
            rw [this] at e2
            cases e2
          | some z =>
            rw [b] at rows
            have z1 := ominL_le _ z r y rows.symm hr2 e2
            have sb : sB g n a s l k = some (x + z) := by
              unfold sB
              rw [if_neg (by rw [c]; decide), e1, b]
              rfl
            have z2 := ominN_le n v k (x + z) hB.symm (by omega) sb
            refine n3 k hk ?_
            rw [sb]
            congr 1
            omega
      · have c : s.testBit k0 = false := by
          cases w : s.testBit k0 with
          | false => rfl
          | true =>
            unfold sB at n2
            rw [w] at n2
            cases n2
        have sb := n2
        unfold sB at sb
        rw [if_neg (by rw [c]; decide)] at sb
        obtain ⟨x, z, e1, e2, e3⟩ := oadd_some sb
        have p2 := Nat.two_pow_pos k0
        rw [ab k0 n1, c]
        simp only [Bool.not_false, Bool.and_self, if_true]
        rw [List.find?_map]
        have := ih (s + 2 ^ k0) k0 z (by omega) (bound k0 n1 c) e2
        have same : ((fun r => decide (cst g s l r = some v)) ∘ fun r => k0 :: r) = (fun r => decide (cst g (s + 2 ^ k0) k0 r = some z)) := by
          funext r
          show decide (oadd (g s l k0) (cst g (s + 2 ^ k0) k0 r) = some v) = _
          rw [e1]
          cases w : cst g (s + 2 ^ k0) k0 r with
          | none => rfl
          | some y =>
            rw [decide_eq_decide]
            show some (x + y) = some v ↔ some y = some z
            rw [Option.some.injEq, Option.some.injEq]
            omega
        rw [same, this]
        rfl
theorem find_split {p : List Nat → Bool} : ∀ (A : List (List Nat)) (x : List Nat) (B : List (List Nat)), (∀ r, r ∈ A → p r = false) → p x = true → (A ++ x :: B).find? p = some x
  | [], x, B, _, h => by
    show (x :: B).find? p = some x
    rw [List.find?_cons, h]
  | r :: A, x, B, h1, h => by
    show (r :: (A ++ x :: B)).find? p = some x
    rw [List.find?_cons, h1 r List.mem_cons_self]
    exact find_split A x B (fun q hq => h1 q (List.mem_cons_of_mem _ hq)) h

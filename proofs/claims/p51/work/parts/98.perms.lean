/-! the rows of a set, by their ends and by their beginnings, are the same -/
def rcode : List Nat → Nat
  | [] => 0
  | k :: r => k + 6 * rcode r
def mrg : Nat → List (List Nat) → List (List Nat) → List (List Nat)
  | 0, a, b => a ++ b
  | n + 1, a, b => match a with
    | [] => b
    | x :: a' => match b with
      | [] => x :: a'
      | y :: b' => if rcode x.reverse ≤ rcode y.reverse then x :: mrg n a' (y :: b') else y :: mrg n (x :: a') b'
def msort : Nat → List (List Nat) → List (List Nat)
  | 0, l => l
  | n + 1, l => mrg l.length (msort n (l.take (l.length / 2))) (msort n (l.drop (l.length / 2)))
theorem mrg_perm : ∀ (n : Nat) (a b : List (List Nat)), (mrg n a b).Perm (a ++ b)
  | 0, a, b => List.Perm.refl _
  | n + 1, [], b => List.Perm.refl _
  | n + 1, x :: a, [] => by
    show (x :: a).Perm (x :: a ++ [])
    rw [List.append_nil]
  | n + 1, x :: a, y :: b => by
    show (if rcode x.reverse ≤ rcode y.reverse then x :: mrg n a (y :: b) else y :: mrg n (x :: a) b).Perm _
    split
    · exact List.Perm.cons x (mrg_perm n a (y :: b))
    · exact (List.Perm.cons y (mrg_perm n (x :: a) b)).trans (List.perm_middle (l₁ := x :: a) (a := y) (l₂ := b)).symm
theorem msort_perm : ∀ (n : Nat) (l : List (List Nat)), (msort n l).Perm l
  | 0, l => List.Perm.refl _
  | n + 1, l => by
    refine (mrg_perm _ _ _).trans ?_
    have := List.Perm.append (msort_perm n (l.take (l.length / 2))) (msort_perm n (l.drop (l.length / 2)))
    rw [List.take_append_drop] at this
    exact this
def eA (S : Nat) : List (List Nat) := ((List.range 8).flatMap (eE 64 S)).map List.reverse
theorem eP_eq : ∀ S, S < 64 → msort 10 (eA S) = pQ S 64 0 := by decide +kernel
theorem eP (S : Nat) (h : S < 64) : (eA S).Perm (pQ S 64 0) := by
  rw [← eP_eq S h]
  exact (msort_perm 10 _).symm
theorem Fm_rows (g : Nat → Nat → Nat → Option Nat) {S : Nat} (h : S < 64) : Fm g S = ominL (cst g 0 7) (pQ S 64 0) := by
  rw [← ominL_perm (eP S h)]
  unfold eA
  rw [ominL_map, ominL_flat]
  exact ominN_c 8 (fun i _ => Fo_rows g 64 S i (by omega))
theorem Ws_rows (g : Nat → Nat → Nat → Option Nat) (ok : Nat → Nat → Bool) {S : Nat} (h : S < 64) : Ws g ok S = (pQ S 64 0).countP (fea g ok 0 7) := by
  rw [← (eP S h).countP_eq]
  unfold eA
  rw [List.countP_map, cnt_flat]
  exact sumN_c 8 (fun i _ => Wo_rows g ok 64 S i (by omega))
theorem add_or : ∀ u, u < 64 → ∀ s, s < 64 → u &&& s = 0 → u + s = u ||| s := by decide +kernel
theorem sub_bit : ∀ n, n < 7 → ∀ u, u < 64 → u < 2 ^ n → ∀ k, k < 6 → (2 ^ n - 1 - u).testBit k = (decide (k < n) && !u.testBit k) := by decide +kernel
/-- what is left, by rows; a set is lit yet (u) -/
theorem Bo_rows (g : Nat → Nat → Nat → Option Nat) {n a u R : Nat} (hn : n ≤ 6) (ha : a = 2 ^ n - 1) (hu : u ≤ a) (hR : R = a - u) : ∀ (d s l : Nat), R - s ≤ d → s &&& u = 0 → s ≤ a → Bo g n a (u + s) l = ominL (cst (fun s l k => g (u + s) l k) s l) (pQ R d s) := by
  have p := Nat.two_pow_pos n
  have p6 := Nat.pow_le_pow_right (n := 2) (by decide) hn
  intro d
  induction d with
  | zero =>
    intro s l h1 h2 h3
    rw [Bo_eq, if_pos (by omega)]
    rfl
  | succ d ih =>
    intro s l h1 h2 h3
    rw [Bo_eq]
    unfold pQ
    by_cases q : R ≤ s
    · rw [if_pos q, if_pos (by omega)]
      rfl
    · rw [if_neg q, if_neg (by omega), ominL_flat]
      have h2' : u &&& s = 0 := by rw [Nat.and_comm]; exact h2
      have eo := add_or u (by omega) s (by omega) h2'
      have key : ∀ k, k < 6 → (if (u + s).testBit k then none else oadd (g (u + s) l k) (Bo g n a (u + s + 2 ^ k) k)) = (if k < n then ominL (cst (fun s l k => g (u + s) l k) s l) (if R.testBit k && !s.testBit k then (pQ R d (s + 2 ^ k)).map (fun r => k :: r) else []) else (if (u + s).testBit k then none else oadd (g (u + s) l k) (Bo g n a (u + s + 2 ^ k) k))) := by
        intro k hk
        by_cases kn : k < n
        · rw [if_pos kn]
          have rb := sub_bit n (by omega) u (by omega) (by omega) k hk
          rw [← ha, ← hR, decide_eq_true kn, Bool.true_and] at rb
          rw [rb, eo, Nat.testBit_or]
          cases hub : u.testBit k with
          | true => simp [ominL]
          | false =>
            cases hsb : s.testBit k with
            | true => simp [ominL]
            | false =>
              have sb := bit_up s (by omega) k hk hsb
              simp only [Bool.or_self, Bool.not_false, Bool.and_self, if_true, ominL_map]
              show oadd (g (u ||| s) l k) _ = ominL (fun r => oadd (g (u + s) l k) (cst (fun s l k => g (u + s) l k) (s + 2 ^ k) k r)) _
              rw [ominL_add', ← eo]
              have z : (s + 2 ^ k) &&& u = 0 := by
                rw [← sb.1]
                apply Nat.eq_of_testBit_eq
                intro j
                have e := congrArg (fun v => v.testBit j) h2
                simp only [Nat.testBit_and, Nat.zero_testBit] at e
                rw [Nat.testBit_and, Nat.testBit_or, tb_one, Nat.zero_testBit]
                by_cases w : k = j
                · subst w
                  rw [hub, Bool.and_false]
                · simp only [w, decide_false, Bool.or_false]
                  exact e
              have le : s + 2 ^ k ≤ a := by
                have : s ||| 1 <<< k < 2 ^ n := or_lt (by omega) (one_lt kn)
                rw [sb.1] at this
                omega
              have := Nat.two_pow_pos k
              rw [← ih (s + 2 ^ k) k (by omega) z le, Nat.add_assoc]
        · rw [if_neg kn]
      have rest : ∀ k, n ≤ k → k < 6 → ominL (cst (fun s l k => g (u + s) l k) s l) (if R.testBit k && !s.testBit k then (pQ R d (s + 2 ^ k)).map (fun r => k :: r) else []) = none := by
        intro k k1 k2
        have rb := sub_bit n (by omega) u (by omega) (by omega) k k2
        rw [← ha, ← hR, decide_eq_false (by omega), Bool.false_and] at rb
        rw [rb, Bool.false_and]
        rfl
      have big := ominN_more (f := fun k => ominL (cst (fun s l k => g (u + s) l k) s l) (if R.testBit k && !s.testBit k then (pQ R d (s + 2 ^ k)).map (fun r => k :: r) else [])) (n := n) (6 - n) (fun i i1 i2 => rest i i1 (by omega))
      rw [show n + (6 - n) = 6 by omega] at big
      rw [big]
      refine ominN_c n (fun k hk => ?_)
      have := key k (by omega)
      rw [if_pos hk] at this
      exact this
/-- forwards and backwards it is the same -/
theorem Fm_Bo {T : tT} (g : Nat → Nat → Nat → Option Nat) (h6 : tN T ≤ 6) : Bo g (tN T) (al T) 0 7 = Fm g (al T) := by
  have p := Nat.two_pow_pos (tN T)
  have p6 := Nat.pow_le_pow_right (n := 2) (by decide) h6
  have a64 : al T < 64 := by unfold al; omega
  have := Bo_rows g (n := tN T) (a := al T) (u := 0) (R := al T) h6 rfl (Nat.zero_le _) rfl 64 0 7 (by omega) rfl (Nat.zero_le _)
  rw [Fm_rows g a64]
  simp only [Nat.zero_add] at this
  exact this

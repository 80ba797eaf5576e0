/-! from what was seen: the reference counts rows -/
def ok1 (a b s k : Nat) : Bool := (k != b) || s.testBit a
def pos (n : Nat) (x : List Nat) (a : Nat) : Nat := (fstN n (fun i => rwF x i == a)).getD 0
def posC (n : Nat) (x : List Nat) : Bool := (List.range n).all (fun a => (fstN n (fun i => rwF x i == a)).isSome && (List.range n).all (fun b => a == b || (okr (ok1 a b) 0 x == decide (pos n x a < pos n x b))))
theorem posC_ok : ∀ n, n < 7 → (pQ (2 ^ n - 1) 64 0).all (posC n) = true := by decide +kernel
theorem pos_at {n : Nat} (hn : n < 7) {x : List Nat} (hx : x ∈ pQ (2 ^ n - 1) 64 0) {a : Nat} (ha : a < n) : pos n x a < n ∧ rwF x (pos n x a) = a ∧ ∀ i, i < pos n x a → rwF x i ≠ a := by
  have h1 := List.all_eq_true.mp (posC_ok n hn) x hx
  have h2 := List.all_eq_true.mp h1 a (List.mem_range.mpr ha)
  rw [Bool.and_eq_true] at h2
  unfold pos
  cases e : fstN n (fun i => rwF x i == a) with
  | none => rw [e] at h2; exact absurd h2.1 (by decide)
  | some j =>
    obtain ⟨q1, q2, q3⟩ := (fstN_some _ _ _).mp e
    exact ⟨q1, by simpa using q2, fun i hi => by simpa using q3 i hi⟩
theorem pos_ok {n : Nat} (hn : n < 7) {x : List Nat} (hx : x ∈ pQ (2 ^ n - 1) 64 0) {a b : Nat} (ha : a < n) (hb : b < n) (hab : a ≠ b) : okr (ok1 a b) 0 x = decide (pos n x a < pos n x b) := by
  have h1 := List.all_eq_true.mp (posC_ok n hn) x hx
  have h2 := List.all_eq_true.mp h1 a (List.mem_range.mpr ha)
  rw [Bool.and_eq_true] at h2
  have h3 := List.all_eq_true.mp h2.2 b (List.mem_range.mpr hb)
  simp only [Bool.or_eq_true, beq_iff_eq] at h3
  exact h3.resolve_left hab
theorem okr_and (f g : Nat → Nat → Bool) : ∀ (x : List Nat) (s : Nat), okr (fun s k => f s k && g s k) s x = (okr f s x && okr g s x)
  | [], s => rfl
  | k :: x, s => by
    show ((f s k && g s k) && okr (fun s k => f s k && g s k) (s + 2 ^ k) x) = ((f s k && okr f (s + 2 ^ k) x) && (g s k && okr g (s + 2 ^ k) x))
    rw [okr_and f g x]
    cases f s k <;> cases g s k <;> cases okr f (s + 2 ^ k) x <;> cases okr g (s + 2 ^ k) x <;> rfl
theorem okr_aw : ∀ (x : List Nat) (s : Nat), okr aw s x = true
  | [], _ => rfl
  | k :: x, s => by
    show (true && okr aw (s + 2 ^ k) x) = true
    rw [okr_aw x]
    rfl
theorem okD_add (D : Nat → Nat) {a b : Nat} (ha : a < 32) : okD (fun k => if k = b then D k ||| 1 <<< a else D k) = fun s k => okD D s k && ok1 a b s k := by
  funext s k
  unfold okD ok1
  by_cases q : k = b
  · simp only [q, if_true]
    have e : ((D b ||| 1 <<< a) &&& cm s = 0) ↔ (D b &&& cm s = 0 ∧ s.testBit a = true) := by
      rw [Nat.and_or_distrib_right, Nat.or_eq_zero_iff, Nat.and_comm (1 <<< a), and_one, tb_cm ha]
      cases s.testBit a <;> simp
    by_cases w : D b &&& cm s = 0
    · cases c : s.testBit a with
      | true => simp [e, w, c]
      | false => simp [e, w, c]
    · simp [e, w]
  · simp [q]
theorem dmd_s (a b : Nat → Nat) (m : Nat) : dmd a b (m + 1) = fun k => if k = b m then dmd a b m k ||| 1 <<< a m else dmd a b m k := rfl
/-- all that was seen -/
def seenB (n : Nat) (a b : Nat → Nat) (x : List Nat) : Nat → Bool
  | 0 => true
  | m + 1 => seenB n a b x m && decide (pos n x (a m) < pos n x (b m))
theorem okr_dmd {n : Nat} (hn : n < 7) {x : List Nat} (hx : x ∈ pQ (2 ^ n - 1) 64 0) (a b : Nat → Nat) : ∀ m, (∀ i, i < m → a i < n ∧ b i < n ∧ a i ≠ b i) → okr (okD (dmd a b m)) 0 x = seenB n a b x m
  | 0, _ => by
    have : okD (dmd a b 0) = aw := okD_0
    rw [this, okr_aw]
    rfl
  | m + 1, h => by
    obtain ⟨h1, h2, h3⟩ := h m (by omega)
    rw [dmd_s, okD_add (dmd a b m) (show a m < 32 by omega), okr_and, okr_dmd hn hx a b m (fun i hi => h i (by omega)), pos_ok hn hx h1 h2 h3]
    rfl
section PC
variable {G : am_G} {l : Launch} {t : am_T} {I : am_I} {L : am_J} {Q : bm_P}
/-- what is counted -/
def cA (T : tT) (sh : Nat) (x : List Nat) : Bool := (cst (gap T sh) 0 7 x).isSome
def cF (T : tT) (sh : Nat) (a b : Nat → Nat) (m : Nat) (x : List Nat) : Bool := cA T sh x && seenB (tN T) a b x m
def cH (T : tT) (sh : Nat) (a b : Nat → Nat) (m j k : Nat) (x : List Nat) : Bool := cF T sh a b m x && (j != k && decide (pos (tN T) x j < pos (tN T) x k))
theorem cnt_le {p : List Nat → Bool} {A B : List (List Nat)} {n : Nat} (hn : n < 7) (h : pQ (2 ^ n - 1) 64 0 = A ++ B) : A.countP p ≤ 720 := by
  have h1 : (pQ (2 ^ n - 1) 64 0).length ≤ 720 := (by decide +kernel : ∀ n, n < 7 → (pQ (2 ^ n - 1) 64 0).length ≤ 720) n hn
  have h2 := List.countP_le_length (p := p) (l := A)
  rw [h, List.length_append] at h1
  omega
end PC

/-! the next row -/
def tnK (r : Nat → Nat) : Nat → Nat
  | 0 => 0
  | k + 1 => if r (k + 1) < r k then tnK r k else k + 1
def tnJ (r : Nat → Nat) (v : Nat) : Nat → Nat
  | 0 => 0
  | j + 1 => if r (j + 1) < v then tnJ r v j else j + 1
def swp (r : Nat → Nat) (a b : Nat) : Nat → Nat := fun i => if i = b then r a else if i = a then r b else r i
def tnR : Nat → (Nat → Nat) → Nat → Nat → Nat → Nat
  | 0, r, _, _ => r
  | d + 1, r, a, b => if a < b then tnR d (swp r a b) (a + 1) (b - 1) else r
def tn (n : Nat) (r : Nat → Nat) : Nat → Nat := tnR n (swp r (tnK r (n - 1) - 1) (tnJ r (r (tnK r (n - 1) - 1)) (n - 1))) (tnK r (n - 1)) (n - 1)
theorem tnK_le (r : Nat → Nat) : ∀ k, tnK r k ≤ k
  | 0 => Nat.le_refl 0
  | k + 1 => by
    show (if r (k + 1) < r k then tnK r k else k + 1) ≤ k + 1
    split
    · have := tnK_le r k
      omega
    · exact Nat.le_refl _
theorem tnK_at (r : Nat → Nat) : ∀ k, tnK r k ≠ 0 → r (tnK r k - 1) ≤ r (tnK r k)
  | 0, h => absurd rfl h
  | k + 1, h => by
    by_cases q : r (k + 1) < r k
    · have e : tnK r (k + 1) = tnK r k := if_pos q
      rw [e] at h ⊢
      exact tnK_at r k h
    · have e : tnK r (k + 1) = k + 1 := if_neg q
      rw [e]
      show r k ≤ r (k + 1)
      omega
theorem tnJ_le (r : Nat → Nat) (v : Nat) : ∀ j, tnJ r v j ≤ j
  | 0 => Nat.le_refl 0
  | j + 1 => by
    show (if r (j + 1) < v then tnJ r v j else j + 1) ≤ j + 1
    split
    · have := tnJ_le r v j
      omega
    · exact Nat.le_refl _
def rwF (r : List Nat) : Nat → Nat := fun i => r.getD i 0
def chkT (n : Nat) : List (List Nat) → Bool
  | [] => true
  | [x] => tnK (rwF x) (n - 1) == 0
  | x :: y :: R => tnK (rwF x) (n - 1) != 0 && (List.range n).all (fun i => tn n (rwF x) i == rwF y i) && chkT n (y :: R)
theorem chkT_ok : ∀ n, n < 7 → chkT n (pQ (2 ^ n - 1) 64 0) = true := by decide +kernel
theorem hdP_ok : ∀ n, n < 7 → ((pQ (2 ^ n - 1) 64 0).head? = some (List.range n)) ∧ (pQ (2 ^ n - 1) 64 0).all (fun r => r.length == n && r.all (fun k => decide (k < n))) = true := by decide +kernel
theorem chkT_at (n : Nat) : ∀ (P : List (List Nat)) (A : List (List Nat)) (x : List Nat) (B : List (List Nat)), P = A ++ x :: B → chkT n P = true → (B = [] → tnK (rwF x) (n - 1) = 0) ∧ (∀ y B', B = y :: B' → tnK (rwF x) (n - 1) ≠ 0 ∧ ∀ i, i < n → tn n (rwF x) i = rwF y i) := by
  have hd : ∀ x B, chkT n (x :: B) = true → (B = [] → tnK (rwF x) (n - 1) = 0) ∧ (∀ y B', B = y :: B' → tnK (rwF x) (n - 1) ≠ 0 ∧ ∀ i, i < n → tn n (rwF x) i = rwF y i) := by
    intro x B h
    cases B with
    | nil =>
      refine ⟨fun _ => ?_, fun y B' e => by cases e⟩
      exact of_decide_eq_true (by simpa [chkT] using h)
    | cons y B =>
      have h : (tnK (rwF x) (n - 1) != 0 && (List.range n).all (fun i => tn n (rwF x) i == rwF y i) && chkT n (y :: B)) = true := h
      rw [Bool.and_eq_true, Bool.and_eq_true] at h
      refine ⟨fun e => (by cases e), fun y' B' e => ?_⟩
      cases e
      refine ⟨by simpa using h.1.1, fun i hi => ?_⟩
      have := List.all_eq_true.mp h.1.2 i (List.mem_range.mpr hi)
      simpa using this
  intro P A
  induction A generalizing P with
  | nil =>
    intro x B e h
    subst e
    exact hd x B h
  | cons z A ih =>
    intro x B e h
    subst e
    refine ih (A ++ x :: B) x B rfl ?_
    cases A with
    | nil =>
      have h : (tnK (rwF z) (n - 1) != 0 && (List.range n).all (fun i => tn n (rwF z) i == rwF x i) && chkT n (x :: B)) = true := h
      rw [Bool.and_eq_true] at h
      exact h.2
    | cons w A =>
      have h : (tnK (rwF z) (n - 1) != 0 && (List.range n).all (fun i => tn n (rwF z) i == rwF w i) && chkT n (w :: (A ++ x :: B))) = true := h
      rw [Bool.and_eq_true] at h
      exact h.2
theorem dec1 {b : Nat} (h : 1 ≤ b) : nI b + (-1) = nI (b - 1) := by rw [← Int32.sub_eq_add_neg, k1, pk_sub h]
section PT
variable {G : am_G} {l : Launch} {t : am_T} {I : am_I} {L : am_J} {Q : bm_P}
end PT

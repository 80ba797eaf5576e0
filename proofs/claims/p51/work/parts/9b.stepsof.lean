/-! the steps of a row, by the reference's table -/
def vr (S s : Nat) : List Nat → Prop
  | [] => True
  | k :: r => k < 6 ∧ S.testBit k = true ∧ s.testBit k = false ∧ vr S (s + 2 ^ k) r
theorem pQ_vr (S : Nat) : ∀ (d s : Nat) (r : List Nat), r ∈ pQ S d s → vr S s r
  | 0, s, r, h => by
    have : r = [] := List.mem_singleton.mp h
    subst this
    trivial
  | d + 1, s, r, h => by
    unfold pQ at h
    by_cases q : S ≤ s
    · rw [if_pos q] at h
      have : r = [] := List.mem_singleton.mp h
      subst this
      trivial
    · rw [if_neg q] at h
      obtain ⟨k, h1, h2⟩ := List.mem_flatMap.mp h
      by_cases c : (S.testBit k && !s.testBit k) = true
      · rw [if_pos c] at h2
        obtain ⟨r', h3, rfl⟩ := List.mem_map.mp h2
        rw [Bool.and_eq_true, Bool.not_eq_true'] at c
        exact ⟨List.mem_range.mp h1, c.1, c.2, pQ_vr S d (s + 2 ^ k) r' h3⟩
      · rw [if_neg c] at h2
        cases h2
theorem pQ_len {n : Nat} (hn : n < 7) {r : List Nat} (h : r ∈ pQ (2 ^ n - 1) 64 0) : r.length = n ∧ ∀ i, i < n → rwF r i < n := by
  have h1 := List.all_eq_true.mp (hdP_ok n hn).2 r h
  rw [Bool.and_eq_true] at h1
  have h2 : r.length = n := by simpa using h1.1
  refine ⟨h2, fun i hi => ?_⟩
  have h3 := List.all_eq_true.mp h1.2 (rwF r i) (by
    unfold rwF
    rw [List.getD_eq_getElem?_getD, List.getElem?_eq_getElem (by omega)]
    exact List.getElem_mem _)
  exact of_decide_eq_true h3
section PS
variable {G : am_G} {l : Launch} {t : am_T} {I : am_I} {L : am_J} {Q : bm_P}
end PS

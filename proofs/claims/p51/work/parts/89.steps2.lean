/-! steps from lamp to lamp: the reference, all of it -/
theorem tb_lit {T : tT} {sh s x : Nat} : (lit T sh s).testBit x = true ↔ ∃ k, k < tN T ∧ s.testBit k = true ∧ (shn T sh k).testBit x = true := by
  unfold lit
  rw [tb_orN]
  constructor
  · rintro ⟨k, hk, e⟩
    by_cases q : s.testBit k = true
    · rw [if_pos q] at e
      exact ⟨k, hk, q, e⟩
    · rw [if_neg q] at e
      simp at e
  · rintro ⟨k, hk, q, e⟩
    exact ⟨k, hk, by rw [if_pos q]; exact e⟩
theorem lit_cut {T : tT} (sh : Nat) {s la x : Nat} (hs : s < 64) (h6 : la < 6) (hl : la < tN T) (hsl : s.testBit la = true) : (lit T sh s).testBit x = ((shn T sh la).testBit x || (lit T sh (s - 2 ^ la)).testBit x) := by
  rw [← and_cm1 s hs la h6 hsl]
  have hb : ∀ j, (s &&& cm (1 <<< la)).testBit j = (s.testBit j && !decide (la = j)) := fun j => by rw [tb_and_cm (by omega), tb_one]
  rw [Bool.eq_iff_iff, Bool.or_eq_true, tb_lit, tb_lit]
  constructor
  · rintro ⟨k, hk, q, e⟩
    by_cases w : la = k
    · subst w; exact Or.inl e
    · exact Or.inr ⟨k, hk, by rw [hb, q]; simp [w], e⟩
  · rintro (e | ⟨k, hk, q, e⟩)
    · exact ⟨la, hl, hsl, e⟩
    · rw [hb, Bool.and_eq_true] at q
      exact ⟨k, hk, q.1, e⟩
section PS
variable {G : am_G} {l : Launch} {t : am_T} {I : am_I} {L : am_J} {Q : bm_P}
end PS

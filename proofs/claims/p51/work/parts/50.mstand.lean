/-! the reference: steps of a round -/
theorem cor_self (T : tT) (c : Nat) : ∀ n, (cor T c n).testBit c = true
  | 0 => by show (1 <<< c).testBit c = true; rw [tb_one]; simp
  | n + 1 => by
    show (cor T c n ||| _).testBit c = true
    rw [Nat.testBit_or, cor_self T c n]
    rfl
theorem shn_self (T : tT) (sh k : Nat) : (shn T sh k).testBit (tP T k) = true := by
  unfold shn bare
  split
  · rw [tb_one]; simp
  · split
    · exact cor_self T _ _
    · unfold ln
      rw [Nat.testBit_or, tb_one]
      simp
theorem lit_self {T : tT} {sh s k : Nat} (hk : k < tN T) (h : s.testBit k = true) : (lit T sh s).testBit (tP T k) = true := by
  unfold lit
  rw [tb_orN]
  exact ⟨k, hk, by rw [if_pos h]; exact shn_self T sh k⟩
section SM
variable {G : am_G} {l : Launch} {t : am_T} {I : am_I} {L : am_J} {Q : bm_P}
theorem may1_some {T : tT} {sh : Nat} {s : sT} {w j : Nat} (h4 : ¬ w = 4) (e : nx T s.1 w = some j) : may1 T sh s w = !(lit T sh (barS s)).testBit j := by
  unfold may1
  rw [if_neg h4, e]
theorem may1_none {T : tT} {sh : Nat} {s : sT} {w : Nat} (h4 : ¬ w = 4) (e : nx T s.1 w = none) : may1 T sh s w = false := by
  unfold may1
  rw [if_neg h4, e]
theorem bI_ti (b : Bool) : (bI b).toInt = 0 ↔ b = false := by
  cases b
  · exact ⟨fun _ => rfl, fun _ => rfl⟩
  · exact ⟨fun h => absurd h (by decide), fun h => absurd h (by decide)⟩
end SM

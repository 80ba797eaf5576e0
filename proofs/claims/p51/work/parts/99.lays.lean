/-! the reference's table of steps -/
theorem gap_d {T : tT} {sh k : Nat} (hk : k < tN T) : gap T sh 0 7 k = pace T (1 <<< tD T) 0 0 (tP T k) := by
  unfold gap
  rw [if_pos ⟨Nat.zero_le _, hk, by rw [if_pos rfl]⟩]
  unfold gap0
  rw [if_pos rfl]
theorem gap_l {T : tT} {sh s l k : Nat} (hs : s ≤ al T) (hb : s.testBit l = true) (hk : k < tN T) : gap T sh s l k = gap0 T sh 0 0 s l k := by
  have s0 : s ≠ 0 := fun e => by rw [e] at hb; simp at hb
  unfold gap
  rw [if_pos ⟨hs, hk, by rw [if_neg s0]; exact hb⟩]
  exact gap0_c s0 0
section PL
variable {G : am_G} {l : Launch} {t : am_T} {I : am_I} {L : am_J} {Q : bm_P}
end PL

/-! pair: first, the reference -/
section PF
variable {G : am_G} {l : Launch} {t : am_T} {I : am_I} {L : am_J} {Q : bm_P}
theorem cst_ob {T : tT} {sh : Nat} : ∀ (r : List Nat) (s l v : Nat), cst (gap T sh) s l r = some v → v ≤ 25 * r.length
  | [], s, l, v, e => by cases e; exact Nat.zero_le _
  | k :: r, s, l, v, e => by
    obtain ⟨x, y, e1, e2, rfl⟩ := oadd_some (show oadd (gap T sh s l k) (cst (gap T sh) (s + 2 ^ k) k r) = some v from e)
    have := gap_lt e1
    have := cst_ob r _ _ y e2
    show x + y ≤ 25 * (r.length + 1)
    omega
theorem cst_obP {T : tT} {sh : Nat} (h6 : tN T ≤ 6) {x : List Nat} (hx : x ∈ pQ (al T) 64 0) : ob (cst (gap T sh) 0 7 x) := fun v e => by
  have := cst_ob x 0 7 v e
  rw [(pQ_len (n := tN T) (by omega) hx).1] at this
  omega
end PF

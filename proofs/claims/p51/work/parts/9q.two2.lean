/-! two lamplighters: the class -/
def frF (I I' : am_I) : Prop := frN [25, 26] I I' ∧ ∀ j, 1 ≤ j → I' 25 j = I 25 j
theorem frF.refl (I : am_I) : frF I I := ⟨frN.refl _ _, fun _ _ => rfl⟩
theorem frF.trans {I I' I'' : am_I} (h : frF I I') (g : frF I' I'') : frF I I'' := ⟨h.1.trans g.1, fun j hj => (g.2 j hj).trans (h.2 j hj)⟩
theorem frF.of {I I' : am_I} (h : frN [26] I I') : frF I I' := ⟨h.mono (by decide), fun _ _ => by rw [h 25 (by decide)]⟩
theorem frF.u {I I' : am_I} (h : frF I I') (v : Int32) : frF I (am_u I' 25 0 v) := ⟨h.1.u (by decide), fun j hj => by rw [u_nj (by omega)]; exact h.2 j hj⟩
def fw (o : Option (Nat × Nat)) : Option Nat := match o with
  | none => none
  | some w => some w.1
section PT
variable {G : am_G} {l : Launch} {t : am_T} {I : am_I} {L : am_J} {Q : bm_P}
end PT

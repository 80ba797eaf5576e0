/-! pairs: dark, bright -/
/-- what holds behind the class's call, and while the reference goes on -/
def lrn (T : tT) (sh : Nat) (I I' : am_I) : Prop := frN exOA I I' ∧ I' 25 1 = 0 ∧ I' 25 3 = nI (tN T) ∧ I' 25 4 = nI (al T) ∧ tabs T sh I'
theorem lrn.go {T : tT} {sh : Nat} {I I' I'' : am_I} (h : lrn T sh I I') (f : frN [31, 32, 33, 74, 75, 76, 77, 78] I' I'') : lrn T sh I I'' := by
  obtain ⟨h1, h2, h3, h4, h5⟩ := h
  refine ⟨h1.trans (f.mono (by decide)), by rw [f 25 (by decide)]; exact h2, by rw [f 25 (by decide)]; exact h3, by rw [f 25 (by decide)]; exact h4, ?_⟩
  unfold tabs at h5 ⊢
  rw [f 27 (by decide), f 28 (by decide), f 29 (by decide), f 30 (by decide)]
  exact h5
theorem lrn.of {T : tT} {sh : Nat} {I I' : am_I} (f : frN exL I I') (e1 : I' 25 1 = 0) (e3 : I' 25 3 = nI (tN T)) (e4 : I' 25 4 = nI (al T)) (tb : tabs T sh I') : lrn T sh I I' := ⟨f.mono (by decide), e1, e3, e4, tb⟩
theorem eM_n {a : Option Nat} (h : ob a) : (eM a).toInt = -9 ↔ a = none := by
  rw [eM_i h]
  cases a with
  | none => exact ⟨fun _ => rfl, fun _ => rfl⟩
  | some v =>
    constructor
    · intro e
      have e : (v : Int) = -9 := e
      omega
    · intro e; cases e
section PD
variable {G : am_G} {l : Launch} {t : am_T} {I : am_I} {L : am_J} {Q : bm_P}
theorem n_dec {i : Nat} : nI (i + 1) + (-1) = nI i := by rw [dec1 (by omega)]; rfl
end PD
section PD
variable {G : am_G} {l : Launch} {t : am_T} {I : am_I} {L : am_J} {Q : bm_P}
end PD

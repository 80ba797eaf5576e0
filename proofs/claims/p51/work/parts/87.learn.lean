/-! the class learns the orders -/
def exL : List Nat := [25, 26, 27, 28, 29, 30]
section PL
variable {G : am_G} {l : Launch} {t : am_T} {I : am_I} {L : am_J} {Q : bm_P}
theorem sp_learn {T : tT} (sh : Nat) (hT : tOk T) (hc : cT T I) (hL : cL T sh 13 I) (hO : InvO T sh t I) (h : ∀ I', frN exL I I' → I' 25 1 = 0 → I' 25 3 = nI (tN T) → I' 25 4 = nI (al T) → tabs T sh I' → Q none (t.1, some 7, some 12) I' L) : bm_C G l 179 [.ref 25, .ref 7, .ref 12] t I L Q := by
  have n6 := hT.2.2.2.1
  have run : I 25 1 = 1 → bm_C G l 179 [.ref 25, .ref 7, .ref 12] t I L Q := by
    intro e
    refine bm_go (am_ok_all 179 (by decide)) 60 ?_
    refine And.intro (fun _ => ?_) (fun cd => absurd (show (I 25 1).toInt = 0 from cd) (by rw [e]; decide))
    refine ⟨Or.inl rfl, ?_⟩
    refine sp_all (Or.inl hT) (by exact hc.2.2.2.1) ?_
    have f0 : frN exL I (am_u (am_u (am_u I 25 1 0) 25 3 (I 7 3)) 25 4 (nI (al T))) := (((frN.refl _ _).u (by decide)).u (by decide)).u (by decide)
    refine sp_learnGaps sh hT (by exact hc) (by exact hL) rfl (fun I1 f1 g1 => ?_)
    refine sp_learnStepsSince sh n6 (by rw [f1 25 (by decide)]; exact hc.2.2.2.1) (by rw [f1 25 (by decide)]; rfl) g1 (fun I2 f2 g2 m2 => ?_)
    have g12 : ∀ s l k, s < 64 → l < 8 → k < 8 → I2 27 (64 * s + 8 * l + k) = eN (gap T sh s l k) := by rw [f2 27 (by decide)]; exact g1
    have e25 : I2 25 = am_u (am_u (am_u I 25 1 0) 25 3 (I 7 3)) 25 4 (nI (al T)) 25 := by
      rw [f2 25 (by decide), f1 25 (by decide)]
      rfl
    refine sp_learnStepsTill sh n6 (by rw [e25]; exact hc.2.2.2.1) (by rw [e25]; rfl) g12 (fun I3 f3 g3 => ?_)
    have e25' : I3 25 = am_u (am_u (am_u I 25 1 0) 25 3 (I 7 3)) 25 4 (nI (al T)) 25 := by rw [f3 25 (by decide), e25]
    refine h I3 (((f0.trans (f1.mono (by decide))).trans (f2.mono (by decide))).trans (f3.mono (by decide))) (by rw [e25']; rfl) (by rw [e25']; exact hc.2.2.2.1) (by rw [e25']; rfl) ⟨?_, ?_, ?_, ?_⟩
    · rw [f3 27 (by decide)]; exact g12
    · rw [f3 28 (by decide)]; exact g2
    · exact g3
    · rw [f3 30 (by decide)]; exact m2
  rcases hO with e | ⟨e1, e2, e3, e4, e5⟩
  · exact run e
  · refine bm_go (am_ok_all 179 (by decide)) 60 ?_
    refine And.intro (fun cd => absurd (show (I 25 1).toInt = 0 by rw [e1]; rfl) cd) (fun _ => ?_)
    have := h I (frN.refl _ _) e1 e3 e4 e5
    rw [← e2] at this
    exact this
end PL

/-! pairs: fits, sure -/
theorem all_Ws {T : tT} (sh : Nat) (h64 : al T < 64) : (pQ (al T) 64 0).countP (cA T sh) = Ws (gap T sh) aw (al T) := by
  rw [Ws_rows _ _ h64]
  refine List.countP_congr (fun r _ => ?_)
  unfold cA fea
  rw [okr_aw, Bool.and_true]
theorem fit_Ws {T : tT} (sh m : Nat) (a b : Nat → Nat) (h6 : tN T ≤ 6) (h64 : al T < 64) (hab : ∀ i, i < m → a i < tN T ∧ b i < tN T ∧ a i ≠ b i) : (pQ (al T) 64 0).countP (cF T sh a b m) = Ws (gap T sh) (okD (dmd a b m)) (al T) := by
  rw [Ws_rows _ _ h64]
  refine List.countP_congr (fun r hr => ?_)
  unfold cF cA fea
  rw [okr_dmd (n := tN T) (by omega) hr a b m hab]
theorem ahead_Ws {T : tT} (sh m j k : Nat) (a b : Nat → Nat) (h6 : tN T ≤ 6) (h64 : al T < 64) (hab : ∀ i, i < m → a i < tN T ∧ b i < tN T ∧ a i ≠ b i) (hj : j < tN T) (hk : k < tN T) (hjk : j ≠ k) : (pQ (al T) 64 0).countP (cH T sh a b m j k) = Ws (gap T sh) (okD (fun q => if q = k then dmd a b m q ||| 1 <<< j else dmd a b m q)) (al T) := by
  rw [Ws_rows _ _ h64]
  refine List.countP_congr (fun r hr => ?_)
  unfold cH cF cA fea
  rw [okD_add (dmd a b m) (show j < 32 by omega), okr_and, okr_dmd (n := tN T) (by omega) hr a b m hab, pos_ok (n := tN T) (by omega) hr hj hk hjk]
  have : (j != k) = true := by simpa using hjk
  rw [this]
  cases (cst (gap T sh) 0 7 r).isSome <;> cases seenB (tN T) a b r m <;> simp
section PF
variable {G : am_G} {l : Launch} {t : am_T} {I : am_I} {L : am_J} {Q : bm_P}
end PF

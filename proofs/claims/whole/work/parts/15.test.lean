section T
variable {G : am_G} {l : Launch} {t : am_T} {I : am_I} {L : am_J} {Q : Option Value → am_S → Prop}
theorem sp_besides {v a : Int32} (h : Q (some (.int a)) (am_st t (am_u I 36 0 v) L)) : am_WPm G l 240 [.ref 36, .int v, .int a] (am_st t I L) Q :=
  am_goK (am_ok_all 240 (by decide)) 20 h
theorem sp_isIn {s k : Int32} (h : Q (some (.int (if 0 ≤ k ∧ k < 32 ∧ (s.toUInt32 >>> (k.toUInt32 &&& Int32.toUInt32 31)).toInt32 &&& 1 = 1 then 1 else 0))) (am_st t I L)) : am_WPm G l 50 [.int s, .int k] (am_st t I L) Q := by
  refine am_goK (am_ok_all 50 (by decide)) 20 ?_
  refine And.intro (fun c1 => ?_) (fun c1 => ?_)
  · refine ⟨Or.inl rfl, ?_⟩
    rw [if_neg (fun q => by have := Int32.lt_of_lt_of_le c1 q.1; exact absurd this (by simp))] at h
    exact h
  · refine And.intro (fun c2 => ?_) (fun c2 => ?_)
    · refine ⟨Or.inl rfl, ?_⟩
      rw [if_neg (fun q => absurd q.2.1 (by simpa using c2))] at h
      exact h
    · refine And.intro (fun c3 => ?_) (fun c3 => ?_)
      · refine ⟨Or.inl rfl, ?_⟩
        rw [if_neg (fun q => c3 q.2.2)] at h
        exact h
      · refine ⟨Or.inr rfl, ?_⟩
        rw [if_pos ⟨by simpa using c1, by simpa using c2, c3⟩] at h
        exact h
theorem sp_near {s : Int32} (h : ∀ r, Q (some (.int r)) (am_st t I L)) : am_WPm G l 254 [.ref 7, .int s] (am_st t I L) Q := by
  refine am_goK (am_ok_all 254 (by decide)) 60 ?_
  exact h _
end T

/-! pairs: begin, act, undo -/
theorem may_gOk {T : tT} {sh : Nat} {s : sT} {w : Nat} (hw : w < 5) (h : may1 T sh s w = true) : gOk T s.1 w := by
  unfold gOk
  by_cases e : w = 4
  · rw [if_pos e]
    unfold may1 at h
    rw [if_pos e, Bool.and_eq_true] at h
    exact h.1
  · rw [if_neg e]
    refine ⟨by omega, ?_⟩
    cases e2 : nx T s.1 w with
    | none =>
      rw [may1_none e e2] at h
      cases h
    | some j => rfl
theorem do1_go {T : tT} (sh : Nat) {s : sT} {w : Nat} (h : gOk T s.1 w) : sGo T s.1 w (do1 T sh s w).1 := by
  unfold gOk at h
  unfold sGo do1
  by_cases e : w = 4
  · rw [if_pos e] at h
    rw [if_pos e]
    obtain ⟨k, ek⟩ := Option.isSome_iff_exists.mp h
    rw [ek]
    exact Or.inr ⟨e, rfl, k, lampO_spec ek⟩
  · rw [if_neg e] at h
    rw [if_neg e]
    obtain ⟨j, ej⟩ := Option.isSome_iff_exists.mp h.2
    rw [ej]
    exact Or.inl ⟨h.1, rfl⟩
theorem sGo_ok {T : tT} (hT : tOk T) {p w p' : Nat} (h : sGo T p w p') : gOk T p w ∧ w < 5 := by
  unfold gOk
  rcases h with ⟨h1, h2⟩ | ⟨h1, h2, k, hk, e⟩
  · rw [if_neg (by omega), h2]
    exact ⟨⟨h1, rfl⟩, by omega⟩
  · rw [if_pos h1, lampO_some hT hk e]
    exact ⟨rfl, by omega⟩
theorem sGo_fst {T : tT} {sh : Nat} {s : sT} {w p' : Nat} (h : sGo T s.1 w p') : (do1 T sh s w).1 = p' := by
  unfold do1
  rcases h with ⟨h1, h2⟩ | ⟨h1, h2, k, hk, e⟩
  · rw [if_neg (by omega), h2]
  · rw [if_pos h1]
    split
    · exact h2.symm
    · exact h2.symm
/-- a round told by steps -/
def runS (T : tT) (sh : Nat) (b : sT) (a : Nat → Nat) : Nat → sT
  | 0 => b
  | i + 1 => do1 T sh (runS T sh b a i) (a i)
theorem runS_ok {T : tT} (hT : tOk T) (sh : Nat) {b : sT} (hb : sOk T b) (a : Nat → Nat) : ∀ i, sOk T (runS T sh b a i)
  | 0 => hb
  | i + 1 => do1_ok hT (runS_ok hT sh hb a i) _
theorem runS_p {T : tT} (sh : Nat) {b : sT} {a p : Nat → Nat} {d : Nat} (h0 : p 0 = b.1) (h : ∀ i, i < d → sGo T (p i) (a i) (p (i + 1))) : ∀ i, i ≤ d → (runS T sh b a i).1 = p i
  | 0, _ => h0.symm
  | i + 1, hi => by
    have ih := runS_p sh h0 h i (by omega)
    have := h i (by omega)
    rw [← ih] at this
    exact sGo_fst this
section PD
variable {G : am_G} {l : Launch} {t : am_T} {I : am_I} {L : am_J} {Q : bm_P}
theorem sp_beginLike_18 {s : sT} (hs : sC s 18 I) (h : ∀ I', frN [16, 17, 18] I I' → sC s 17 I' → sC s 18 I' → I' 16 1 = 0 → Q none t I' L) : bm_C G l 215 [.ref 16, .ref 18] t I L Q := by
  refine bm_go (am_ok_all 215 (by decide)) 40 ?_
  refine sp_like_18_18 (fun I1 f1 e1 => ?_) hs.z
  have s18 : sC s 18 I1 := hs.like e1
  have sc1 : sC s 18 I1 := by
    first
      | exact s18
      | (unfold sC at hs ⊢
         rw [f1 18 (by decide)]
         exact hs)
  refine sp_like_17_18 (fun I2 f2 e2 => ?_) sc1.z
  have s17 : sC s 17 I2 := sc1.like e2
  have s18' : sC s 18 I2 := by
    unfold sC at s18 ⊢
    rw [f2 18 (by decide)]
    exact s18
  refine h _ (((f1.mono (by decide)).trans (f2.mono (by decide))).u (by decide)) s17 s18' rfl
theorem sp_beginLike_58 {s : sT} (hs : sC s 58 I) (h : ∀ I', frN [16, 17, 18] I I' → sC s 17 I' → sC s 18 I' → I' 16 1 = 0 → Q none t I' L) : bm_C G l 215 [.ref 16, .ref 58] t I L Q := by
  refine bm_go (am_ok_all 215 (by decide)) 40 ?_
  refine sp_like_18_58 (fun I1 f1 e1 => ?_) hs.z
  have s18 : sC s 18 I1 := hs.like e1
  have sc1 : sC s 58 I1 := by
    first
      | exact s18
      | (unfold sC at hs ⊢
         rw [f1 58 (by decide)]
         exact hs)
  refine sp_like_17_58 (fun I2 f2 e2 => ?_) sc1.z
  have s17 : sC s 17 I2 := sc1.like e2
  have s18' : sC s 18 I2 := by
    unfold sC at s18 ⊢
    rw [f2 18 (by decide)]
    exact s18
  refine h _ (((f1.mono (by decide)).trans (f2.mono (by decide))).u (by decide)) s17 s18' rfl
theorem sp_beginLike_59 {s : sT} (hs : sC s 59 I) (h : ∀ I', frN [16, 17, 18] I I' → sC s 17 I' → sC s 18 I' → I' 16 1 = 0 → Q none t I' L) : bm_C G l 215 [.ref 16, .ref 59] t I L Q := by
  refine bm_go (am_ok_all 215 (by decide)) 40 ?_
  refine sp_like_18_59 (fun I1 f1 e1 => ?_) hs.z
  have s18 : sC s 18 I1 := hs.like e1
  have sc1 : sC s 59 I1 := by
    first
      | exact s18
      | (unfold sC at hs ⊢
         rw [f1 59 (by decide)]
         exact hs)
  refine sp_like_17_59 (fun I2 f2 e2 => ?_) sc1.z
  have s17 : sC s 17 I2 := sc1.like e2
  have s18' : sC s 18 I2 := by
    unfold sC at s18 ⊢
    rw [f2 18 (by decide)]
    exact s18
  refine h _ (((f1.mono (by decide)).trans (f2.mono (by decide))).u (by decide)) s17 s18' rfl
theorem sp_beginLike_60 {s : sT} (hs : sC s 60 I) (h : ∀ I', frN [16, 17, 18] I I' → sC s 17 I' → sC s 18 I' → I' 16 1 = 0 → Q none t I' L) : bm_C G l 215 [.ref 16, .ref 60] t I L Q := by
  refine bm_go (am_ok_all 215 (by decide)) 40 ?_
  refine sp_like_18_60 (fun I1 f1 e1 => ?_) hs.z
  have s18 : sC s 18 I1 := hs.like e1
  have sc1 : sC s 60 I1 := by
    first
      | exact s18
      | (unfold sC at hs ⊢
         rw [f1 60 (by decide)]
         exact hs)
  refine sp_like_17_60 (fun I2 f2 e2 => ?_) sc1.z
  have s17 : sC s 17 I2 := sc1.like e2
  have s18' : sC s 18 I2 := by
    unfold sC at s18 ⊢
    rw [f2 18 (by decide)]
    exact s18
  refine h _ (((f1.mono (by decide)).trans (f2.mono (by decide))).u (by decide)) s17 s18' rfl
theorem sp_beginAt {x : Int32} (d : Nat) (hx : x = nI d) (h : ∀ I', frN [16, 17, 18] I I' → sC (d, 0, -9, false) 17 I' → sC (d, 0, -9, false) 18 I' → I' 16 1 = 0 → Q none t I' L) : bm_C G l 214 [.ref 16, .int x] t I L Q := by
  refine bm_go (am_ok_all 214 (by decide)) 40 ?_
  refine sp_beginAt_18 d hx (fun I1 f1 s1 => ?_)
  refine sp_beginLike_18 s1 (fun I2 f2 s2 s3 e => ?_)
  exact h I2 ((f1.mono (by decide)).trans f2) s2 s3 e
theorem sGo_lt {T : tT} {p w p' : Nat} (h : sGo T p w p') : w < 5 := by
  rcases h with ⟨h1, -⟩ | ⟨h1, -⟩ <;> omega
end PD

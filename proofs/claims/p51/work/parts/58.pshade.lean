/-! pair: shade -/
def exS : List Nat := [0, 13, 25, 61]
theorem shx : ∀ s, s < 64 → ∀ k, k < 6 → ∀ b, b < 2 → nI s + (nI b - nI (if s.testBit k then 1 else 0)) <<< (nI k &&& 31) = nI (if (if s.testBit k then 1 else 0) = b then s else s ^^^ 1 <<< k) := by decide +kernel
section PH
variable {G : am_G} {l : Launch} {t : am_T} {I : am_I} {L : am_J} {Q : bm_P}
theorem sp_lightsChanged {T : tT} (sh : Nat) (hT : tOK T) (hc : cT T I) (hsh : I 0 14 = nI sh) (hs : sh < 64) (h0 : I 13 0 = nI 0) (h : ∀ I', (∀ x, x ∉ [13, 25] → I' x = I x) → cL T sh 13 I' → I' 25 1 = 1 → Q none t I' L) : bm_C G l 62 [.ref 0] t I L Q := by
  refine bm_go (am_ok_all 62 (by decide)) 40 ?_
  refine sp_settle_12 sh hT hc hsh hs h0 (fun I1 f1 l1 => ?_)
  refine ⟨Or.inr rfl, ?_⟩
  refine h _ (fun x hx => ?_) ?_ rfl
  · rw [u_ne (fun e => hx (by rw [e]; decide))]
    exact f1 x (fun q => hx (by simp at q; rw [q]; decide))
  · intro s hs2
    exact l1 s hs2
end PH

/-! pair: count -/
section PN
variable {G : am_G} {l : Launch} {t : am_T} {I : am_I} {L : am_J} {Q : bm_P}
theorem sp_countBad {x : Int32} (hx : x.toInt < 0 ∨ 8 < x.toInt) (h : Q (some (.int (-1))) t I L) : bm_C G l 45 [.ref 0, .int x] t I L Q := by
  refine bm_go (am_ok_all 45 (by decide)) 40 ?_
  refine And.intro (fun cd => ?_) (fun _ => ?_)
  · have cd : x.toInt = 0 := cd
    omega
  refine And.intro (fun cd => ?_) (fun _ => ?_)
  · have cd : x.toInt = 1 := cd
    omega
  refine And.intro (fun cd => ?_) (fun _ => ?_)
  · have cd : x.toInt = 2 := cd
    omega
  refine And.intro (fun cd => ?_) (fun _ => ?_)
  · have cd : x.toInt = 3 := cd
    omega
  refine And.intro (fun cd => ?_) (fun _ => ?_)
  · have cd : x.toInt = 4 := cd
    omega
  refine And.intro (fun cd => ?_) (fun _ => ?_)
  · have cd : x.toInt = 5 := cd
    omega
  refine And.intro (fun cd => ?_) (fun _ => ?_)
  · have cd : x.toInt = 6 := cd
    omega
  refine And.intro (fun cd => ?_) (fun _ => ?_)
  · have cd : x.toInt = 7 := cd
    omega
  refine And.intro (fun cd => ?_) (fun _ => ?_)
  · have cd : x.toInt = 8 := cd
    omega
  exact h
end PN

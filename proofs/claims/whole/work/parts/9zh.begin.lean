/-! the law up to its loop -/
def lw_I : am_I := mk_68_61_I (mz 61 (mk_0_0_I (mz 0 (fun _ _ => 0))))
def lw_J : am_J := mk_68_61_L (mzL 61 (mk_0_0_L (mzL 0 (fun _ _ => 0))))
def lw_R : Nat → Nat → Option Nat := mk_68_61_R (mzR 61 (mk_0_0_R (mzR 0 (fun _ _ => none))))
set_option maxRecDepth 20000 in
theorem lw_begin {G : am_G} {l : Launch} {Q : Option Value → am_S → Prop} (h : am_WP G l 264 18 [some (.float 0), some (.ref 0), some (.ref 61), some (.int 0)] [] 81 40064 (am_pt 81 lw_I lw_J lw_R) Q) : am_WP G l 264 0 [some (.float 0), none, none, none] [] 0 0 am_s0 Q := by
  refine am_WP.cells (g' := am_pt 0 (fun _ _ => 0) (fun _ _ => 0) (fun _ _ => none)) rfl (fun x hx => absurd hx (Nat.not_lt_zero x)) ?_
  refine am_goK (am_ok_all 264 (by decide)) 0 ?_
  show am_WP G l 264 3 [some (.float 0), none, none, none] [.ref 0] 1 15 (am_new (am_pt 0 _ _ _) 0 15) Q
  rw [am_new_pt (show am_SH 0 = (0, 15) from rfl)]
  refine am_goK (am_ok_all 264 (by decide)) 1 ?_
  refine mk_0_0 ?_
  refine am_goK (am_ok_all 264 (by decide)) 0 ?_
  refine am_goK (am_ok_all 264 (by decide)) 0 ?_
  show am_WP G l 264 11 [some (.float 0), some (.ref 0), none, none] [.ref 61] 62 20064 (am_new (am_pt 61 _ _ _) 11 49) Q
  rw [am_new_pt (show am_SH 61 = (11, 49) from rfl)]
  refine am_goK (am_ok_all 264 (by decide)) 1 ?_
  refine mk_68_61 rfl ?_
  refine am_goK (am_ok_all 264 (by decide)) 2 ?_
  exact h

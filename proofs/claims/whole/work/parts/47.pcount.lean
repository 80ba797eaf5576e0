/-! pair: count -/
theorem cV_0 (T : tT) (sh : Nat) (I : am_I) : cV T sh I 0 = nI (tC T) := rfl
theorem cV_1 (T : tT) (sh : Nat) (I : am_I) : cV T sh I 1 = nI (tN T) := rfl
theorem cV_2 (T : tT) (sh : Nat) (I : am_I) : cV T sh I 2 = nI (pc (un (I 61 24))) := rfl
theorem cV_3 (T : tT) (sh : Nat) (I : am_I) : cV T sh I 3 = nI (pc sh) := rfl
theorem cV_4 (T : tT) (sh : Nat) (I : am_I) : cV T sh I 4 = nI (pc (bO (tN T) (fun k => isK (tK T k) 2))) := rfl
theorem cV_5 (T : tT) (sh : Nat) (I : am_I) : cV T sh I 5 = nI (pc (bO (tN T) (fun k => isK (tK T k) 3))) := rfl
theorem cV_6 (T : tT) (sh : Nat) (I : am_I) : cV T sh I 6 = nI (cntR I 0 6) := rfl
theorem cV_7 (T : tT) (sh : Nat) (I : am_I) : cV T sh I 7 = nI (cntR I 6 4) := rfl
theorem cV_8 (T : tT) (sh : Nat) (I : am_I) : cV T sh I 8 = I 61 42 := rfl
section PN
variable {G : am_G} {l : Launch} {t : am_T} {I : am_I} {L : am_J} {Q : bm_P}
theorem cnt_s (I : am_I) (a n : Nat) : cntR I a (n + 1) = cntR I a n + (if 0 ≤ (I 63 (a + n)).toInt then 1 else 0) := rfl
theorem sp_thereR (hR : InvR I) (h : Q (some (.int (nI (cntR I 0 6)))) t I L) : bm_C G l 54 [.ref 1] t I L Q := by
  have e : (Int32.ofNat 6).toInt = 6 := rfl
  have g6 : ∀ x y, x = nI (cntR I 0 6) → y = nI 6 → bm_W G l 54 4 [some (.ref 1), some (.int x), some (.int y)] [] t I L Q := by
    intro x y hx hy
    subst hx hy
    refine bm_go (am_ok_all 54 (by decide)) 30 ?_
    exact And.intro (fun cd => h) (fun cd => absurd (show (nI 6).toInt < (Int32.ofNat 6).toInt from cd) (by decide))
  have g5 : ∀ x y, x = nI (cntR I 0 5) → y = nI 5 → bm_W G l 54 4 [some (.ref 1), some (.int x), some (.int y)] [] t I L Q := by
    intro x y hx hy
    subst hx hy
    have hr : I 48 1 = I 63 5 := (hR 5 (by decide)).1
    have cs := cnt_s I 0 5
    rw [show 0 + 5 = 5 from rfl] at cs
    refine bm_go (am_ok_all 54 (by decide)) 30 ?_
    refine And.intro (fun cd => absurd (show (Int32.ofNat 6).toInt ≤ (nI 5).toInt from cd) (by decide)) (fun cd => ?_)
    refine ⟨5, by decide, by decide, ?_⟩
    refine And.intro (fun c2 => ?_) (fun c2 => ?_)
    · rw [hr] at c2
      refine g6 _ _ ?_ (nI_succ 5).symm
      rw [cs, if_pos c2, ← nI_add]
      rfl
    · rw [hr] at c2
      refine g6 _ _ ?_ (nI_succ 5).symm
      rw [cs, if_neg (by omega), ← nI_add]
      rfl
  have g4 : ∀ x y, x = nI (cntR I 0 4) → y = nI 4 → bm_W G l 54 4 [some (.ref 1), some (.int x), some (.int y)] [] t I L Q := by
    intro x y hx hy
    subst hx hy
    have hr : I 46 1 = I 63 4 := (hR 4 (by decide)).1
    have cs := cnt_s I 0 4
    rw [show 0 + 4 = 4 from rfl] at cs
    refine bm_go (am_ok_all 54 (by decide)) 30 ?_
    refine And.intro (fun cd => absurd (show (Int32.ofNat 6).toInt ≤ (nI 4).toInt from cd) (by decide)) (fun cd => ?_)
    refine ⟨4, by decide, by decide, ?_⟩
    refine And.intro (fun c2 => ?_) (fun c2 => ?_)
    · rw [hr] at c2
      refine g5 _ _ ?_ (nI_succ 4).symm
      rw [cs, if_pos c2, ← nI_add]
      rfl
    · rw [hr] at c2
      refine g5 _ _ ?_ (nI_succ 4).symm
      rw [cs, if_neg (by omega), ← nI_add]
      rfl
  have g3 : ∀ x y, x = nI (cntR I 0 3) → y = nI 3 → bm_W G l 54 4 [some (.ref 1), some (.int x), some (.int y)] [] t I L Q := by
    intro x y hx hy
    subst hx hy
    have hr : I 44 1 = I 63 3 := (hR 3 (by decide)).1
    have cs := cnt_s I 0 3
    rw [show 0 + 3 = 3 from rfl] at cs
    refine bm_go (am_ok_all 54 (by decide)) 30 ?_
    refine And.intro (fun cd => absurd (show (Int32.ofNat 6).toInt ≤ (nI 3).toInt from cd) (by decide)) (fun cd => ?_)
    refine ⟨3, by decide, by decide, ?_⟩
    refine And.intro (fun c2 => ?_) (fun c2 => ?_)
    · rw [hr] at c2
      refine g4 _ _ ?_ (nI_succ 3).symm
      rw [cs, if_pos c2, ← nI_add]
      rfl
    · rw [hr] at c2
      refine g4 _ _ ?_ (nI_succ 3).symm
      rw [cs, if_neg (by omega), ← nI_add]
      rfl
  have g2 : ∀ x y, x = nI (cntR I 0 2) → y = nI 2 → bm_W G l 54 4 [some (.ref 1), some (.int x), some (.int y)] [] t I L Q := by
    intro x y hx hy
    subst hx hy
    have hr : I 42 1 = I 63 2 := (hR 2 (by decide)).1
    have cs := cnt_s I 0 2
    rw [show 0 + 2 = 2 from rfl] at cs
    refine bm_go (am_ok_all 54 (by decide)) 30 ?_
    refine And.intro (fun cd => absurd (show (Int32.ofNat 6).toInt ≤ (nI 2).toInt from cd) (by decide)) (fun cd => ?_)
    refine ⟨2, by decide, by decide, ?_⟩
    refine And.intro (fun c2 => ?_) (fun c2 => ?_)
    · rw [hr] at c2
      refine g3 _ _ ?_ (nI_succ 2).symm
      rw [cs, if_pos c2, ← nI_add]
      rfl
    · rw [hr] at c2
      refine g3 _ _ ?_ (nI_succ 2).symm
      rw [cs, if_neg (by omega), ← nI_add]
      rfl
  have g1 : ∀ x y, x = nI (cntR I 0 1) → y = nI 1 → bm_W G l 54 4 [some (.ref 1), some (.int x), some (.int y)] [] t I L Q := by
    intro x y hx hy
    subst hx hy
    have hr : I 40 1 = I 63 1 := (hR 1 (by decide)).1
    have cs := cnt_s I 0 1
    rw [show 0 + 1 = 1 from rfl] at cs
    refine bm_go (am_ok_all 54 (by decide)) 30 ?_
    refine And.intro (fun cd => absurd (show (Int32.ofNat 6).toInt ≤ (nI 1).toInt from cd) (by decide)) (fun cd => ?_)
    refine ⟨1, by decide, by decide, ?_⟩
    refine And.intro (fun c2 => ?_) (fun c2 => ?_)
    · rw [hr] at c2
      refine g2 _ _ ?_ (nI_succ 1).symm
      rw [cs, if_pos c2, ← nI_add]
      rfl
    · rw [hr] at c2
      refine g2 _ _ ?_ (nI_succ 1).symm
      rw [cs, if_neg (by omega), ← nI_add]
      rfl
  have g0 : ∀ x y, x = nI (cntR I 0 0) → y = nI 0 → bm_W G l 54 4 [some (.ref 1), some (.int x), some (.int y)] [] t I L Q := by
    intro x y hx hy
    subst hx hy
    have hr : I 38 1 = I 63 0 := (hR 0 (by decide)).1
    have cs := cnt_s I 0 0
    rw [show 0 + 0 = 0 from rfl] at cs
    refine bm_go (am_ok_all 54 (by decide)) 30 ?_
    refine And.intro (fun cd => absurd (show (Int32.ofNat 6).toInt ≤ (nI 0).toInt from cd) (by decide)) (fun cd => ?_)
    refine ⟨0, by decide, by decide, ?_⟩
    refine And.intro (fun c2 => ?_) (fun c2 => ?_)
    · rw [hr] at c2
      refine g1 _ _ ?_ (nI_succ 0).symm
      rw [cs, if_pos c2, ← nI_add]
      rfl
    · rw [hr] at c2
      refine g1 _ _ ?_ (nI_succ 0).symm
      rw [cs, if_neg (by omega), ← nI_add]
      rfl
  refine bm_go (am_ok_all 54 (by decide)) 30 ?_
  exact g0 _ _ rfl rfl
theorem sp_thereT (hR : InvR I) (h : Q (some (.int (nI (cntR I 6 4)))) t I L) : bm_C G l 54 [.ref 2] t I L Q := by
  have g4 : ∀ x y, x = nI (cntR I 6 4) → y = nI 4 → bm_W G l 54 4 [some (.ref 2), some (.int x), some (.int y)] [] t I L Q := by
    intro x y hx hy
    subst hx hy
    refine bm_go (am_ok_all 54 (by decide)) 30 ?_
    exact And.intro (fun cd => h) (fun cd => absurd (show (nI 4).toInt < (Int32.ofNat 4).toInt from cd) (by decide))
  have g3 : ∀ x y, x = nI (cntR I 6 3) → y = nI 3 → bm_W G l 54 4 [some (.ref 2), some (.int x), some (.int y)] [] t I L Q := by
    intro x y hx hy
    subst hx hy
    have hr : I 56 1 = I 63 9 := (hR 9 (by decide)).1
    have cs := cnt_s I 6 3
    rw [show 6 + 3 = 9 from rfl] at cs
    refine bm_go (am_ok_all 54 (by decide)) 30 ?_
    refine And.intro (fun cd => absurd (show (Int32.ofNat 4).toInt ≤ (nI 3).toInt from cd) (by decide)) (fun cd => ?_)
    refine ⟨3, by decide, by decide, ?_⟩
    refine And.intro (fun c2 => ?_) (fun c2 => ?_)
    · rw [hr] at c2
      refine g4 _ _ ?_ (nI_succ 3).symm
      rw [cs, if_pos c2, ← nI_add]
      rfl
    · rw [hr] at c2
      refine g4 _ _ ?_ (nI_succ 3).symm
      rw [cs, if_neg (by omega), ← nI_add]
      rfl
  have g2 : ∀ x y, x = nI (cntR I 6 2) → y = nI 2 → bm_W G l 54 4 [some (.ref 2), some (.int x), some (.int y)] [] t I L Q := by
    intro x y hx hy
    subst hx hy
    have hr : I 54 1 = I 63 8 := (hR 8 (by decide)).1
    have cs := cnt_s I 6 2
    rw [show 6 + 2 = 8 from rfl] at cs
    refine bm_go (am_ok_all 54 (by decide)) 30 ?_
    refine And.intro (fun cd => absurd (show (Int32.ofNat 4).toInt ≤ (nI 2).toInt from cd) (by decide)) (fun cd => ?_)
    refine ⟨2, by decide, by decide, ?_⟩
    refine And.intro (fun c2 => ?_) (fun c2 => ?_)
    · rw [hr] at c2
      refine g3 _ _ ?_ (nI_succ 2).symm
      rw [cs, if_pos c2, ← nI_add]
      rfl
    · rw [hr] at c2
      refine g3 _ _ ?_ (nI_succ 2).symm
      rw [cs, if_neg (by omega), ← nI_add]
      rfl
  have g1 : ∀ x y, x = nI (cntR I 6 1) → y = nI 1 → bm_W G l 54 4 [some (.ref 2), some (.int x), some (.int y)] [] t I L Q := by
    intro x y hx hy
    subst hx hy
    have hr : I 52 1 = I 63 7 := (hR 7 (by decide)).1
    have cs := cnt_s I 6 1
    rw [show 6 + 1 = 7 from rfl] at cs
    refine bm_go (am_ok_all 54 (by decide)) 30 ?_
    refine And.intro (fun cd => absurd (show (Int32.ofNat 4).toInt ≤ (nI 1).toInt from cd) (by decide)) (fun cd => ?_)
    refine ⟨1, by decide, by decide, ?_⟩
    refine And.intro (fun c2 => ?_) (fun c2 => ?_)
    · rw [hr] at c2
      refine g2 _ _ ?_ (nI_succ 1).symm
      rw [cs, if_pos c2, ← nI_add]
      rfl
    · rw [hr] at c2
      refine g2 _ _ ?_ (nI_succ 1).symm
      rw [cs, if_neg (by omega), ← nI_add]
      rfl
  have g0 : ∀ x y, x = nI (cntR I 6 0) → y = nI 0 → bm_W G l 54 4 [some (.ref 2), some (.int x), some (.int y)] [] t I L Q := by
    intro x y hx hy
    subst hx hy
    have hr : I 50 1 = I 63 6 := (hR 6 (by decide)).1
    have cs := cnt_s I 6 0
    rw [show 6 + 0 = 6 from rfl] at cs
    refine bm_go (am_ok_all 54 (by decide)) 30 ?_
    refine And.intro (fun cd => absurd (show (Int32.ofNat 4).toInt ≤ (nI 0).toInt from cd) (by decide)) (fun cd => ?_)
    refine ⟨0, by decide, by decide, ?_⟩
    refine And.intro (fun c2 => ?_) (fun c2 => ?_)
    · rw [hr] at c2
      refine g1 _ _ ?_ (nI_succ 0).symm
      rw [cs, if_pos c2, ← nI_add]
      rfl
    · rw [hr] at c2
      refine g1 _ _ ?_ (nI_succ 0).symm
      rw [cs, if_neg (by omega), ← nI_add]
      rfl
  refine bm_go (am_ok_all 54 (by decide)) 30 ?_
  exact g0 _ _ rfl rfl
theorem sp_count {T : tT} {x : Int32} (sh w : Nat) (hx : x = nI w) (hw : w < 9) (hT : tOK T) (hc : cT T I) (hR : InvR I) (hsh : I 0 14 = nI sh) (hs : sh < 2 ^ tN T) (hl : I 17 1 = I 61 24 ∧ un (I 61 24) < 2 ^ tN T) (h42 : I 22 0 = I 61 42) (h : Q (some (.int (cV T sh I w))) t I L) : bm_C G l 45 [.ref 0, .int x] t I L Q := by
  have n6 := hT.n6
  have p6 := Nat.pow_le_pow_right (n := 2) (by decide) n6
  have hK : ∀ k, k < tN T → I 8 k = nI (tK T k) ∧ tK T k ≤ 5 := fun k hk => ⟨(hc.2.2.2.2.2.1 k hk).1, ((hT.ok hk).2.2.2.2.1 k hk).1⟩
  subst hx
  refine bm_go (am_ok_all 45 (by decide)) 40 ?_
  rcases (by omega : w = 0 ∨ w = 1 ∨ w = 2 ∨ w = 3 ∨ w = 4 ∨ w = 5 ∨ w = 6 ∨ w = 7 ∨ w = 8) with rfl | rfl | rfl | rfl | rfl | rfl | rfl | rfl | rfl
  · rw [cV_0] at h
    first | refine And.intro (fun cd => absurd cd (by decide)) (fun _ => ?_) | refine And.intro (fun _ => ?_) (fun cd => absurd cd (by decide)) | refine And.intro (fun cd => ?_) (fun cd => ?_)
    rw [← hc.2.1] at h
    exact h
  · rw [cV_1] at h
    repeat (first | refine And.intro (fun cd => absurd cd (by decide)) (fun _ => ?_) | refine And.intro (fun _ => ?_) (fun cd => absurd cd (by decide)))
    rw [← hc.2.2.2.1] at h
    exact h
  · rw [cV_2] at h
    repeat (first | refine And.intro (fun cd => absurd cd (by decide)) (fun _ => ?_) | refine And.intro (fun _ => ?_) (fun cd => absurd cd (by decide)))
    refine sp_bitCount (un (I 61 24)) ?_ (by omega) h
    show I 17 1 = _
    rw [hl.1]
    exact (n_un _).symm
  · rw [cV_3] at h
    repeat (first | refine And.intro (fun cd => absurd cd (by decide)) (fun _ => ?_) | refine And.intro (fun _ => ?_) (fun cd => absurd cd (by decide)))
    exact sp_bitCount sh hsh (by omega) h
  · rw [cV_4] at h
    repeat (first | refine And.intro (fun cd => absurd cd (by decide)) (fun _ => ?_) | refine And.intro (fun _ => ?_) (fun cd => absurd cd (by decide)))
    exact sp_howMany 2 (by decide) rfl n6 hc.2.2.2.1 hK h
  · rw [cV_5] at h
    repeat (first | refine And.intro (fun cd => absurd cd (by decide)) (fun _ => ?_) | refine And.intro (fun _ => ?_) (fun cd => absurd cd (by decide)))
    exact sp_howMany 3 (by decide) rfl n6 hc.2.2.2.1 hK h
  · rw [cV_6] at h
    repeat (first | refine And.intro (fun cd => absurd cd (by decide)) (fun _ => ?_) | refine And.intro (fun _ => ?_) (fun cd => absurd cd (by decide)))
    exact sp_thereR hR h
  · rw [cV_7] at h
    repeat (first | refine And.intro (fun cd => absurd cd (by decide)) (fun _ => ?_) | refine And.intro (fun _ => ?_) (fun cd => absurd cd (by decide)))
    exact sp_thereT hR h
  · rw [cV_8] at h
    repeat (first | refine And.intro (fun cd => absurd cd (by decide)) (fun _ => ?_) | refine And.intro (fun _ => ?_) (fun cd => absurd cd (by decide)))
    rw [← h42] at h
    exact h
theorem sp_countBad {x : Int32} (hx : x.toInt < 0 ∨ 8 < x.toInt) (h : Q (some (.int (-1))) t I L) : bm_C G l 45 [.ref 0, .int x] t I L Q := by
  refine bm_go (am_ok_all 45 (by decide)) 40 ?_
  refine And.intro (fun cd => ?_) (fun _ => ?_)
  · have cd : x.toInt = 0 := cd
    omega
  refine And.intro (fun cd => ?_) (fun _ => ?_)
  · have cd : x.toInt = 1 := cd
    omega
  refine And.intro (fun cd => ?_) (fun _ => ?_)
  · have cd : x.toInt = 2 := cd
    omega
  refine And.intro (fun cd => ?_) (fun _ => ?_)
  · have cd : x.toInt = 3 := cd
    omega
  refine And.intro (fun cd => ?_) (fun _ => ?_)
  · have cd : x.toInt = 4 := cd
    omega
  refine And.intro (fun cd => ?_) (fun _ => ?_)
  · have cd : x.toInt = 5 := cd
    omega
  refine And.intro (fun cd => ?_) (fun _ => ?_)
  · have cd : x.toInt = 6 := cd
    omega
  refine And.intro (fun cd => ?_) (fun _ => ?_)
  · have cd : x.toInt = 7 := cd
    omega
  refine And.intro (fun cd => ?_) (fun _ => ?_)
  · have cd : x.toInt = 8 := cd
    omega
  exact h
end PN

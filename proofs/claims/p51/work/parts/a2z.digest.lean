/-! digest: the reference's cells are ghosts here (written by ghost.py) -/
section GH
variable {G : am_G} {l : Launch} {t : am_T} {I : am_I} {L : am_J} {Q : bm_P}
/-- rows and texts -/
def InvR (I : am_I) : Prop := ∀ k, k < 10 → I (38 + 2 * k) 1 = I 163 k ∧ -1 ≤ (I 163 k).toInt ∧ (I 163 k).toInt ≤ (cp k : Int) ∧ (∀ j : Nat, (j : Int) < (I 163 k).toInt → I (39 + 2 * k) j = I 164 (rb k + j)) ∧ True
/-- the town in the reference -/
def mT (T : tT) (I : am_I) : Prop := I 161 11 = nI (tW T) ∧ I 161 12 = nI (tH T) ∧ I 161 13 = nI (tC T) ∧ I 161 14 = nI (tN T) ∧ I 161 15 = nI (tD T) ∧ I 161 16 = nI (tS T) ∧ I 161 17 = nI (lA T) ∧ I 161 18 = nI (rB T) ∧ ∀ k, k < tN T → I 166 k = nI (tK T k) ∧ I 167 k = nI (tP T k) ∧ I 168 k = nI (tR T k)
/-- and of the reference: its place from j on -/
def sM (s : sT) (j : Nat) (I : am_I) : Prop := I 161 j = nI s.1 ∧ I 161 (j + 1) = nI s.2.1 ∧ I 161 (j + 2) = s.2.2.1 ∧ I 161 (j + 3) = bI s.2.2.2
def InvG (T : tT) (I : am_I) : Prop := ∃ (n b : sT) (d : Nat) (p : Nat → Nat) (a : Nat → Nat), sOk T n ∧ sOk T b ∧ sC n 17 I ∧ sM n 23 I ∧ (I 161 29 = nI b.1 ∧ I 161 30 = nI b.2.1 ∧ I 161 31 = b.2.2.1 ∧ I 161 32 = bI b.2.2.2) ∧ sC b 18 I ∧
  d ≤ 200 ∧ I 16 1 = nI d ∧ I 161 27 = nI d ∧ p 0 = b.1 ∧ p d = n.1 ∧ ∀ i, i < d → sGo T (p i) (a i) (p (i + 1)) ∧ I 19 i = nI (a i) ∧ I 169 i = nI (a i)
/-- there is no town yet -/
def InvE (I : am_I) : Prop := I 17 1 = 0 ∧ I 17 2 = -9 ∧ I 17 3 = 0 ∧ I 18 1 = 0 ∧ I 18 2 = -9 ∧ I 18 3 = 0 ∧ I 16 1 = 0 ∧ I 161 23 = -9 ∧ I 161 24 = 0 ∧ I 161 25 = -9 ∧ I 161 26 = 0 ∧ I 161 27 = 0 ∧ I 161 29 = -9 ∧ I 161 30 = 0 ∧ I 161 31 = -9 ∧ I 161 32 = 0
/-- kept rounds -/
def InvK (T : tT) (I : am_I) : Prop := ∃ m, m < 8 ∧ I 0 13 = nI m ∧ ∀ k, k < 3 → if m.testBit k then ∃ s : sT, sOk T s ∧ sC s (58 + k) I ∧ I 170 k = nI s.1 ∧ I 171 k = nI s.2.1 ∧ I 172 k = s.2.2.1 ∧ I 173 k = bI s.2.2.2 else I 170 k = -9
/-- what was seen -/
def InvS (T : tT) (I : am_I) : Prop := ∃ m, m ≤ 8 ∧ I 22 0 = nI m ∧ I 161 42 = nI m ∧ ∀ i, i < m → ∃ a b, a < tN T ∧ b < tN T ∧ a ≠ b ∧ I 23 i = nI a ∧ I 179 i = nI a ∧ I 24 i = nI b ∧ I 180 i = nI b
theorem InvX.ok {T : tT} {I : am_I} (h : (tOk T ∧ InvG T I) ∨ (tE T ∧ InvE I)) : tOK T := by
  rcases h with h | h
  · exact Or.inl h.1
  · exact Or.inr h.1
/-- how many rows are there, of n from a on -/
def cntR (I : am_I) (a : Nat) : Nat → Nat
  | 0 => 0
  | n + 1 => cntR I a n + (if 0 ≤ (I 163 (a + n)).toInt then 1 else 0)
/-- what count() tells -/
def cV (T : tT) (sh : Nat) (I : am_I) (w : Nat) : Int32 := match w with
  | 0 => nI (tC T)
  | 1 => nI (tN T)
  | 2 => nI (pc (un (I 161 24)))
  | 3 => nI (pc sh)
  | 4 => nI (pc (bO (tN T) (fun k => isK (tK T k) 2)))
  | 5 => nI (pc (bO (tN T) (fun k => isK (tK T k) 3)))
  | 6 => nI (cntR I 0 6)
  | 7 => nI (cntR I 6 4)
  | _ => I 161 42
theorem InvG.lit {T : tT} {I : am_I} (hok : tOk T) (h : InvG T I) : I 17 1 = I 161 24 ∧ un (I 161 24) < 2 ^ tN T := by
  obtain ⟨n, b, d, p, a, h1, h2, h3, h4, -⟩ := h
  have n6 := hok.2.2.2.1
  have p6 := Nat.pow_le_pow_right (n := 2) (by decide) n6
  rw [h3.2.1, show I 161 24 = nI n.2.1 from h4.2.1]
  exact ⟨rfl, by rw [un_n (by have := h1.2.2.1; omega)]; exact h1.2.2.1⟩
theorem InvX.lit {T : tT} {I : am_I} (h : (tOk T ∧ InvG T I) ∨ (tE T ∧ InvE I)) : I 17 1 = I 161 24 ∧ un (I 161 24) < 2 ^ tN T := by
  rcases h with ⟨h1, h2⟩ | ⟨h1, h2⟩
  · exact h2.lit h1
  · obtain ⟨q1, q2, q3, q4, q5, q6, q7, q8, q9, -⟩ := h2
    rw [q1, q9]
    exact ⟨rfl, by have := Nat.two_pow_pos (tN T); show 0 < _; exact this⟩
theorem cV_0 (T : tT) (sh : Nat) (I : am_I) : cV T sh I 0 = nI (tC T) := rfl
theorem cV_1 (T : tT) (sh : Nat) (I : am_I) : cV T sh I 1 = nI (tN T) := rfl
theorem cV_2 (T : tT) (sh : Nat) (I : am_I) : cV T sh I 2 = nI (pc (un (I 161 24))) := rfl
theorem cV_3 (T : tT) (sh : Nat) (I : am_I) : cV T sh I 3 = nI (pc sh) := rfl
theorem cV_4 (T : tT) (sh : Nat) (I : am_I) : cV T sh I 4 = nI (pc (bO (tN T) (fun k => isK (tK T k) 2))) := rfl
theorem cV_5 (T : tT) (sh : Nat) (I : am_I) : cV T sh I 5 = nI (pc (bO (tN T) (fun k => isK (tK T k) 3))) := rfl
theorem cV_6 (T : tT) (sh : Nat) (I : am_I) : cV T sh I 6 = nI (cntR I 0 6) := rfl
theorem cV_7 (T : tT) (sh : Nat) (I : am_I) : cV T sh I 7 = nI (cntR I 6 4) := rfl
theorem cV_8 (T : tT) (sh : Nat) (I : am_I) : cV T sh I 8 = I 161 42 := rfl
theorem cnt_s (I : am_I) (a n : Nat) : cntR I a (n + 1) = cntR I a n + (if 0 ≤ (I 163 (a + n)).toInt then 1 else 0) := rfl
theorem sp_thereR (hR : InvR I) (h : Q (some (.int (nI (cntR I 0 6)))) t I L) : bm_C G l 54 [.ref 1] t I L Q := by
  have e : (Int32.ofNat 6).toInt = 6 := rfl
  have g6 : ∀ x y, x = nI (cntR I 0 6) → y = nI 6 → bm_W G l 54 4 [some (.ref 1), some (.int x), some (.int y)] [] t I L Q := by
    intro x y hx hy
    subst hx hy
    refine bm_go (am_ok_all 54 (by decide)) 30 ?_
    exact And.intro (fun cd => h) (fun cd => absurd (show (nI 6).toInt < (Int32.ofNat 6).toInt from cd) (by decide))
  have g5 : ∀ x y, x = nI (cntR I 0 5) → y = nI 5 → bm_W G l 54 4 [some (.ref 1), some (.int x), some (.int y)] [] t I L Q := by
    intro x y hx hy
    subst hx hy
    have hr : I 48 1 = I 163 5 := (hR 5 (by decide)).1
    have cs := cnt_s I 0 5
    rw [show 0 + 5 = 5 from rfl] at cs
    refine bm_go (am_ok_all 54 (by decide)) 30 ?_
    refine And.intro (fun cd => absurd (show (Int32.ofNat 6).toInt ≤ (nI 5).toInt from cd) (by decide)) (fun cd => ?_)
    refine ⟨5, by decide, by decide, ?_⟩
    refine And.intro (fun c2 => ?_) (fun c2 => ?_)
    · rw [hr] at c2
      refine g6 _ _ ?_ (nI_succ 5).symm
      rw [cs, if_pos c2, ← nI_add]
      rfl
    · rw [hr] at c2
      refine g6 _ _ ?_ (nI_succ 5).symm
      rw [cs, if_neg (by omega), ← nI_add]
      rfl
  have g4 : ∀ x y, x = nI (cntR I 0 4) → y = nI 4 → bm_W G l 54 4 [some (.ref 1), some (.int x), some (.int y)] [] t I L Q := by
    intro x y hx hy
    subst hx hy
    have hr : I 46 1 = I 163 4 := (hR 4 (by decide)).1
    have cs := cnt_s I 0 4
    rw [show 0 + 4 = 4 from rfl] at cs
    refine bm_go (am_ok_all 54 (by decide)) 30 ?_
    refine And.intro (fun cd => absurd (show (Int32.ofNat 6).toInt ≤ (nI 4).toInt from cd) (by decide)) (fun cd => ?_)
    refine ⟨4, by decide, by decide, ?_⟩
    refine And.intro (fun c2 => ?_) (fun c2 => ?_)
    · rw [hr] at c2
      refine g5 _ _ ?_ (nI_succ 4).symm
      rw [cs, if_pos c2, ← nI_add]
      rfl
    · rw [hr] at c2
      refine g5 _ _ ?_ (nI_succ 4).symm
      rw [cs, if_neg (by omega), ← nI_add]
      rfl
  have g3 : ∀ x y, x = nI (cntR I 0 3) → y = nI 3 → bm_W G l 54 4 [some (.ref 1), some (.int x), some (.int y)] [] t I L Q := by
    intro x y hx hy
    subst hx hy
    have hr : I 44 1 = I 163 3 := (hR 3 (by decide)).1
    have cs := cnt_s I 0 3
    rw [show 0 + 3 = 3 from rfl] at cs
    refine bm_go (am_ok_all 54 (by decide)) 30 ?_
    refine And.intro (fun cd => absurd (show (Int32.ofNat 6).toInt ≤ (nI 3).toInt from cd) (by decide)) (fun cd => ?_)
    refine ⟨3, by decide, by decide, ?_⟩
    refine And.intro (fun c2 => ?_) (fun c2 => ?_)
    · rw [hr] at c2
      refine g4 _ _ ?_ (nI_succ 3).symm
      rw [cs, if_pos c2, ← nI_add]
      rfl
    · rw [hr] at c2
      refine g4 _ _ ?_ (nI_succ 3).symm
      rw [cs, if_neg (by omega), ← nI_add]
      rfl
  have g2 : ∀ x y, x = nI (cntR I 0 2) → y = nI 2 → bm_W G l 54 4 [some (.ref 1), some (.int x), some (.int y)] [] t I L Q := by
    intro x y hx hy
    subst hx hy
    have hr : I 42 1 = I 163 2 := (hR 2 (by decide)).1
    have cs := cnt_s I 0 2
    rw [show 0 + 2 = 2 from rfl] at cs
    refine bm_go (am_ok_all 54 (by decide)) 30 ?_
    refine And.intro (fun cd => absurd (show (Int32.ofNat 6).toInt ≤ (nI 2).toInt from cd) (by decide)) (fun cd => ?_)
    refine ⟨2, by decide, by decide, ?_⟩
    refine And.intro (fun c2 => ?_) (fun c2 => ?_)
    · rw [hr] at c2
      refine g3 _ _ ?_ (nI_succ 2).symm
      rw [cs, if_pos c2, ← nI_add]
      rfl
    · rw [hr] at c2
      refine g3 _ _ ?_ (nI_succ 2).symm
      rw [cs, if_neg (by omega), ← nI_add]
      rfl
  have g1 : ∀ x y, x = nI (cntR I 0 1) → y = nI 1 → bm_W G l 54 4 [some (.ref 1), some (.int x), some (.int y)] [] t I L Q := by
    intro x y hx hy
    subst hx hy
    have hr : I 40 1 = I 163 1 := (hR 1 (by decide)).1
    have cs := cnt_s I 0 1
    rw [show 0 + 1 = 1 from rfl] at cs
    refine bm_go (am_ok_all 54 (by decide)) 30 ?_
    refine And.intro (fun cd => absurd (show (Int32.ofNat 6).toInt ≤ (nI 1).toInt from cd) (by decide)) (fun cd => ?_)
    refine ⟨1, by decide, by decide, ?_⟩
    refine And.intro (fun c2 => ?_) (fun c2 => ?_)
    · rw [hr] at c2
      refine g2 _ _ ?_ (nI_succ 1).symm
      rw [cs, if_pos c2, ← nI_add]
      rfl
    · rw [hr] at c2
      refine g2 _ _ ?_ (nI_succ 1).symm
      rw [cs, if_neg (by omega), ← nI_add]
      rfl
  have g0 : ∀ x y, x = nI (cntR I 0 0) → y = nI 0 → bm_W G l 54 4 [some (.ref 1), some (.int x), some (.int y)] [] t I L Q := by
    intro x y hx hy
    subst hx hy
    have hr : I 38 1 = I 163 0 := (hR 0 (by decide)).1
    have cs := cnt_s I 0 0
    rw [show 0 + 0 = 0 from rfl] at cs
    refine bm_go (am_ok_all 54 (by decide)) 30 ?_
    refine And.intro (fun cd => absurd (show (Int32.ofNat 6).toInt ≤ (nI 0).toInt from cd) (by decide)) (fun cd => ?_)
    refine ⟨0, by decide, by decide, ?_⟩
    refine And.intro (fun c2 => ?_) (fun c2 => ?_)
    · rw [hr] at c2
      refine g1 _ _ ?_ (nI_succ 0).symm
      rw [cs, if_pos c2, ← nI_add]
      rfl
    · rw [hr] at c2
      refine g1 _ _ ?_ (nI_succ 0).symm
      rw [cs, if_neg (by omega), ← nI_add]
      rfl
  refine bm_go (am_ok_all 54 (by decide)) 30 ?_
  exact g0 _ _ rfl rfl
theorem sp_thereT (hR : InvR I) (h : Q (some (.int (nI (cntR I 6 4)))) t I L) : bm_C G l 54 [.ref 2] t I L Q := by
  have g4 : ∀ x y, x = nI (cntR I 6 4) → y = nI 4 → bm_W G l 54 4 [some (.ref 2), some (.int x), some (.int y)] [] t I L Q := by
    intro x y hx hy
    subst hx hy
    refine bm_go (am_ok_all 54 (by decide)) 30 ?_
    exact And.intro (fun cd => h) (fun cd => absurd (show (nI 4).toInt < (Int32.ofNat 4).toInt from cd) (by decide))
  have g3 : ∀ x y, x = nI (cntR I 6 3) → y = nI 3 → bm_W G l 54 4 [some (.ref 2), some (.int x), some (.int y)] [] t I L Q := by
    intro x y hx hy
    subst hx hy
    have hr : I 56 1 = I 163 9 := (hR 9 (by decide)).1
    have cs := cnt_s I 6 3
    rw [show 6 + 3 = 9 from rfl] at cs
    refine bm_go (am_ok_all 54 (by decide)) 30 ?_
    refine And.intro (fun cd => absurd (show (Int32.ofNat 4).toInt ≤ (nI 3).toInt from cd) (by decide)) (fun cd => ?_)
    refine ⟨3, by decide, by decide, ?_⟩
    refine And.intro (fun c2 => ?_) (fun c2 => ?_)
    · rw [hr] at c2
      refine g4 _ _ ?_ (nI_succ 3).symm
      rw [cs, if_pos c2, ← nI_add]
      rfl
    · rw [hr] at c2
      refine g4 _ _ ?_ (nI_succ 3).symm
      rw [cs, if_neg (by omega), ← nI_add]
      rfl
  have g2 : ∀ x y, x = nI (cntR I 6 2) → y = nI 2 → bm_W G l 54 4 [some (.ref 2), some (.int x), some (.int y)] [] t I L Q := by
    intro x y hx hy
    subst hx hy
    have hr : I 54 1 = I 163 8 := (hR 8 (by decide)).1
    have cs := cnt_s I 6 2
    rw [show 6 + 2 = 8 from rfl] at cs
    refine bm_go (am_ok_all 54 (by decide)) 30 ?_
    refine And.intro (fun cd => absurd (show (Int32.ofNat 4).toInt ≤ (nI 2).toInt from cd) (by decide)) (fun cd => ?_)
    refine ⟨2, by decide, by decide, ?_⟩
    refine And.intro (fun c2 => ?_) (fun c2 => ?_)
    · rw [hr] at c2
      refine g3 _ _ ?_ (nI_succ 2).symm
      rw [cs, if_pos c2, ← nI_add]
      rfl
    · rw [hr] at c2
      refine g3 _ _ ?_ (nI_succ 2).symm
      rw [cs, if_neg (by omega), ← nI_add]
      rfl
  have g1 : ∀ x y, x = nI (cntR I 6 1) → y = nI 1 → bm_W G l 54 4 [some (.ref 2), some (.int x), some (.int y)] [] t I L Q := by
    intro x y hx hy
    subst hx hy
    have hr : I 52 1 = I 163 7 := (hR 7 (by decide)).1
    have cs := cnt_s I 6 1
    rw [show 6 + 1 = 7 from rfl] at cs
    refine bm_go (am_ok_all 54 (by decide)) 30 ?_
    refine And.intro (fun cd => absurd (show (Int32.ofNat 4).toInt ≤ (nI 1).toInt from cd) (by decide)) (fun cd => ?_)
    refine ⟨1, by decide, by decide, ?_⟩
    refine And.intro (fun c2 => ?_) (fun c2 => ?_)
    · rw [hr] at c2
      refine g2 _ _ ?_ (nI_succ 1).symm
      rw [cs, if_pos c2, ← nI_add]
      rfl
    · rw [hr] at c2
      refine g2 _ _ ?_ (nI_succ 1).symm
      rw [cs, if_neg (by omega), ← nI_add]
      rfl
  have g0 : ∀ x y, x = nI (cntR I 6 0) → y = nI 0 → bm_W G l 54 4 [some (.ref 2), some (.int x), some (.int y)] [] t I L Q := by
    intro x y hx hy
    subst hx hy
    have hr : I 50 1 = I 163 6 := (hR 6 (by decide)).1
    have cs := cnt_s I 6 0
    rw [show 6 + 0 = 6 from rfl] at cs
    refine bm_go (am_ok_all 54 (by decide)) 30 ?_
    refine And.intro (fun cd => absurd (show (Int32.ofNat 4).toInt ≤ (nI 0).toInt from cd) (by decide)) (fun cd => ?_)
    refine ⟨0, by decide, by decide, ?_⟩
    refine And.intro (fun c2 => ?_) (fun c2 => ?_)
    · rw [hr] at c2
      refine g1 _ _ ?_ (nI_succ 0).symm
      rw [cs, if_pos c2, ← nI_add]
      rfl
    · rw [hr] at c2
      refine g1 _ _ ?_ (nI_succ 0).symm
      rw [cs, if_neg (by omega), ← nI_add]
      rfl
  refine bm_go (am_ok_all 54 (by decide)) 30 ?_
  exact g0 _ _ rfl rfl
theorem sp_count {T : tT} {x : Int32} (sh w : Nat) (hx : x = nI w) (hw : w < 9) (hT : tOK T) (hc : cT T I) (hR : InvR I) (hsh : I 0 14 = nI sh) (hs : sh < 2 ^ tN T) (hl : I 17 1 = I 161 24 ∧ un (I 161 24) < 2 ^ tN T) (h42 : I 22 0 = I 161 42) (h : Q (some (.int (cV T sh I w))) t I L) : bm_C G l 45 [.ref 0, .int x] t I L Q := by
  have n6 := hT.n6
  have p6 := Nat.pow_le_pow_right (n := 2) (by decide) n6
  have hK : ∀ k, k < tN T → I 8 k = nI (tK T k) ∧ tK T k ≤ 5 := fun k hk => ⟨(hc.2.2.2.2.2.1 k hk).1, ((hT.ok hk).2.2.2.2.1 k hk).1⟩
  subst hx
  refine bm_go (am_ok_all 45 (by decide)) 40 ?_
  rcases (by omega : w = 0 ∨ w = 1 ∨ w = 2 ∨ w = 3 ∨ w = 4 ∨ w = 5 ∨ w = 6 ∨ w = 7 ∨ w = 8) with rfl | rfl | rfl | rfl | rfl | rfl | rfl | rfl | rfl
  · rw [cV_0] at h
    first | refine And.intro (fun cd => absurd cd (by decide)) (fun _ => ?_) | refine And.intro (fun _ => ?_) (fun cd => absurd cd (by decide)) | refine And.intro (fun cd => ?_) (fun cd => ?_)
    rw [← hc.2.1] at h
    exact h
  · rw [cV_1] at h
    repeat (first | refine And.intro (fun cd => absurd cd (by decide)) (fun _ => ?_) | refine And.intro (fun _ => ?_) (fun cd => absurd cd (by decide)))
    rw [← hc.2.2.2.1] at h
    exact h
  · rw [cV_2] at h
    repeat (first | refine And.intro (fun cd => absurd cd (by decide)) (fun _ => ?_) | refine And.intro (fun _ => ?_) (fun cd => absurd cd (by decide)))
    refine sp_bitCount (un (I 161 24)) ?_ (by omega) h
    show I 17 1 = _
    rw [hl.1]
    exact (n_un _).symm
  · rw [cV_3] at h
    repeat (first | refine And.intro (fun cd => absurd cd (by decide)) (fun _ => ?_) | refine And.intro (fun _ => ?_) (fun cd => absurd cd (by decide)))
    exact sp_bitCount sh hsh (by omega) h
  · rw [cV_4] at h
    repeat (first | refine And.intro (fun cd => absurd cd (by decide)) (fun _ => ?_) | refine And.intro (fun _ => ?_) (fun cd => absurd cd (by decide)))
    exact sp_howMany 2 (by decide) rfl n6 hc.2.2.2.1 hK h
  · rw [cV_5] at h
    repeat (first | refine And.intro (fun cd => absurd cd (by decide)) (fun _ => ?_) | refine And.intro (fun _ => ?_) (fun cd => absurd cd (by decide)))
    exact sp_howMany 3 (by decide) rfl n6 hc.2.2.2.1 hK h
  · rw [cV_6] at h
    repeat (first | refine And.intro (fun cd => absurd cd (by decide)) (fun _ => ?_) | refine And.intro (fun _ => ?_) (fun cd => absurd cd (by decide)))
    exact sp_thereR hR h
  · rw [cV_7] at h
    repeat (first | refine And.intro (fun cd => absurd cd (by decide)) (fun _ => ?_) | refine And.intro (fun _ => ?_) (fun cd => absurd cd (by decide)))
    exact sp_thereT hR h
  · rw [cV_8] at h
    repeat (first | refine And.intro (fun cd => absurd cd (by decide)) (fun _ => ?_) | refine And.intro (fun _ => ?_) (fun cd => absurd cd (by decide)))
    rw [← h42] at h
    exact h
/-- what one is and has done, in the digest -/
def rdV (I : am_I) (h : Int64) : Int64 := mx (I 161 27).toInt.toNat (fun i => I 169 i) (31 * (31 * (31 * (31 * h + (I 161 23).toInt64) + (I 161 26).toInt64) + (I 161 25).toInt64) + (I 161 27).toInt64)
def snV (I : am_I) (j : Nat) (h : Int64) : Int64 := 31 * (31 * h + (I 179 j).toInt64) + (I 180 j).toInt64
def kpV (I : am_I) (k : Nat) (h : Int64) : Int64 := if I 170 k = -9 then 31 * h + -1 else 31 * (31 * h + (I 170 k).toInt64) + (I 171 k).toInt64
def rwV (I : am_I) (k : Nat) (h : Int64) : Int64 := mx (I 163 k).toInt.toNat (fun j => I 164 (rb k + j)) (31 * h + (I 163 k).toInt64)
def dgV (T : tT) (sh : Nat) (I : am_I) : Int64 := itN 10 (rwV I) (itN 3 (kpV I) (itN (I 161 42).toInt.toNat (snV I) (rdV I (mx (5 * tN T) (pV T sh (un (I 161 24))) (mx (tC T) (wV T) (mx 9 (cV T sh I) 17))))))
theorem sp_rdV {h' : Int64} {x : Int32} {T : tT} (hT : tOK T) (hG : (tOk T ∧ InvG T I) ∨ (tE T ∧ InvE I)) (hx : x = (if tC T = 0 then 1 else 0)) (h : Q (some (.long (rdV I h'))) t I L) : bm_C G l 218 [.ref 16, .long h', .int x] t I L Q := by
  obtain ⟨d, hd, e16, e27, e17, e3, e2, eA⟩ : ∃ d : Nat, d ≤ 200 ∧ I 16 1 = nI d ∧ I 161 27 = nI d ∧ (if tC T = 0 then (-9 : Int32) else I 17 0) = I 161 23 ∧ (I 17 3 = I 161 26 ∧ (I 161 26 = 0 ∨ I 161 26 = 1)) ∧ I 17 2 = I 161 25 ∧ ∀ i, i < d → I 19 i = I 169 i := by
    rcases hG with ⟨hok, n, b, d, p, a, kn, kb, sn, mn, mb, sb, hd, g1, g2, _, _, g3⟩ | ⟨he, h1, h2, h3, h4, h5, h6, h7, h8, h9, h10, h11, h12⟩
    · have c2 := hok.1.c2
      refine ⟨d, hd, g1, g2, ?_, ⟨?_, ?_⟩, ?_, fun i hi => ?_⟩
      · rw [if_neg (by omega), sn.1, mn.1]
      · rw [sn.2.2.2]; exact mn.2.2.2.symm
      · rw [show I 161 26 = bI n.2.2.2 from mn.2.2.2]
        cases n.2.2.2
        · exact Or.inl rfl
        · exact Or.inr rfl
      · rw [sn.2.2.1]; exact mn.2.2.1.symm
      · rw [(g3 i hi).2.1, (g3 i hi).2.2]
    · have c0 : tC T = 0 := by unfold tC; rw [he.1]; exact Nat.zero_mul _
      refine ⟨0, by decide, h7, h12.1, ?_, ⟨by rw [h3, h11], Or.inl h11⟩, by rw [h2, h10], fun i hi => by omega⟩
      rw [if_pos c0, h8]
  have id' : (I 161 27).toInt.toNat = d := by rw [e27, nI_toInt (by omega)]; omega
  have lp : ∀ k i y v, d - i = k → i ≤ d → y = nI i → v = mx i (fun i => I 169 i) (31 * (31 * (31 * (31 * h' + (I 161 23).toInt64) + (I 161 26).toInt64) + (I 161 25).toInt64) + (I 161 27).toInt64) → bm_W G l 218 72 [some (.ref 16), some (.long h'), none, some (.int x), some (.long v), none, some (.int y)] [] t I L Q := by
    intro k
    induction k with
    | zero =>
      intro i y v hk hi hy hv
      obtain rfl : i = d := by omega
      subst hy hv
      unfold rdV at h
      rw [id'] at h
      refine bm_go (am_ok_all 218 (by decide)) 40 ?_
      refine And.intro (fun _ => ?_) (fun cd => ?_)
      · exact h
      · rw [e16] at cd
        omega
    | succ k ih =>
      intro i y v hk hi hy hv
      subst hy hv
      refine bm_go (am_ok_all 218 (by decide)) 40 ?_
      refine And.intro (fun cd => ?_) (fun _ => ?_)
      · rw [e16, nI_toInt (by omega), nI_toInt (by omega)] at cd
        omega
      refine And.intro (fun cd => ?_) (fun _ => ?_)
      · rw [T200, nI_toInt (by omega)] at cd
        omega
      refine ⟨i, nI_toInt (by omega), (by omega : i < 200), ?_⟩
      refine sp_mixed ?_
      refine ih (i + 1) _ _ (by omega) (by omega) (nI_succ i).symm ?_
      rw [mx_s, eA i (by omega)]
  have rest : bm_W G l 218 20 [some (.ref 16), some (.long h'), none, some (.int x), none, none, none] [.long (31 * h' + (I 161 23).toInt64)] t I L Q := by
    refine bm_go (am_ok_all 218 (by decide)) 60 ?_
    have fin : bm_W G l 218 72 [some (.ref 16), some (.long h'), none, some (.int x), some (.long (31 * (31 * (31 * (31 * h' + (I 161 23).toInt64) + (I 17 3).toInt64) + (I 17 2).toInt64) + (I 16 1).toInt64)), none, some (.int 0)] [] t I L Q := lp d 0 _ _ rfl (Nat.zero_le _) rfl (by rw [e3.1, e2, e16, ← e27]; rfl)
    rw [e3.1] at fin
    refine And.intro (fun cd => ?_) (fun cd => ?_)
    · refine sp_mixed (sp_mixed (sp_mixed ?_))
      have e0 : I 161 26 = 0 := by
        rcases e3.2 with q | q
        · exact q
        · rw [e3.1, q] at cd
          exact absurd cd (by decide)
      rw [e0] at fin
      exact fin
    · refine sp_mixed (sp_mixed (sp_mixed ?_))
      have e0 : I 161 26 = 1 := by
        rcases e3.2 with q | q
        · rw [e3.1, q] at cd
          exact absurd rfl cd
        · exact q
      rw [e0] at fin
      exact fin
  by_cases q : tC T = 0
  · rw [if_pos q] at hx e17
    subst hx
    refine bm_go (am_ok_all 218 (by decide)) 5 ?_
    refine And.intro (fun cd => absurd cd (by decide)) (fun _ => ?_)
    refine sp_mixed ?_
    rw [← e17] at rest
    exact rest
  · rw [if_neg q] at hx e17
    subst hx
    refine bm_go (am_ok_all 218 (by decide)) 6 ?_
    refine And.intro (fun _ => ?_) (fun cd => absurd rfl cd)
    refine sp_mixed ?_
    rw [← e17] at rest
    exact rest
theorem sp_snV {h' : Int64} {T : tT} (hS : InvS T I) (h : Q (some (.long (itN (I 161 42).toInt.toNat (snV I) h'))) t I L) : bm_C G l 222 [.ref 22, .long h'] t I L Q := by
  obtain ⟨m, hm, e1, e2, es⟩ := hS
  have id' : (I 161 42).toInt.toNat = m := by rw [e2, nI_toInt (by omega)]; omega
  rw [id'] at h
  have lp : ∀ k i y v, m - i = k → i ≤ m → y = nI i → v = itN i (snV I) h' → bm_W G l 222 5 [some (.ref 22), some (.long h'), none, some (.long v), none, some (.int y)] [] t I L Q := by
    intro k
    induction k with
    | zero =>
      intro i y v hk hi hy hv
      obtain rfl : i = m := by omega
      subst hy hv
      refine bm_go (am_ok_all 222 (by decide)) 40 ?_
      refine And.intro (fun _ => ?_) (fun cd => ?_)
      · exact h
      · rw [e1] at cd
        omega
    | succ k ih =>
      intro i y v hk hi hy hv
      subst hy hv
      obtain ⟨a, b, _, _, _, s1, s2, s3, s4⟩ := es i (by omega)
      refine bm_go (am_ok_all 222 (by decide)) 40 ?_
      refine And.intro (fun cd => ?_) (fun _ => ?_)
      · rw [e1, nI_toInt (by omega), nI_toInt (by omega)] at cd
        omega
      refine And.intro (fun cd => ?_) (fun _ => ?_)
      · rw [T8, nI_toInt (by omega)] at cd
        omega
      refine ⟨i, nI_toInt (by omega), (by omega : i < 8), ?_⟩
      refine sp_mixed ?_
      refine ⟨i, nI_toInt (by omega), (by omega : i < 8), ?_⟩
      refine sp_mixed ?_
      refine ih (i + 1) _ _ (by omega) (by omega) (nI_succ i).symm ?_
      rw [itN_s]
      unfold snV
      rw [s1, s2, s3, s4]
  refine bm_go (am_ok_all 222 (by decide)) 40 ?_
  exact lp m 0 _ _ rfl (Nat.zero_le _) rfl rfl
theorem rw_eq (hR : InvR I) {k : Nat} (hk : k < 10) (h' : Int64) : (List.range (I 163 k).toInt.toNat).foldl (fun h j => 31 * h + (I (39 + 2 * k) j).toInt64) (31 * h' + (I (38 + 2 * k) 1).toInt64) = rwV I k h' := by
  obtain ⟨r1, r2, r3, r4, r5⟩ := hR k hk
  unfold rwV
  rw [r1]
  exact mx_c _ _ _ _ (fun j hj => r4 j (by omega))
theorem rw_n (hR : InvR I) {k : Nat} (hk : k < 10) : ((I (38 + 2 * k) 1).toInt = ((I 163 k).toInt.toNat : Int) ∨ ((I (38 + 2 * k) 1).toInt = -1 ∧ (I 163 k).toInt.toNat = 0)) ∧ (I 163 k).toInt.toNat ≤ cp k := by
  obtain ⟨r1, r2, r3, r4, r5⟩ := hR k hk
  rw [r1]
  omega
theorem sp_digest {T : tT} (sh : Nat) (hR : InvR I) (hc : cT T I) (hm : mT T I) (hs : sh < 2 ^ tN T) (a1 : I 0 14 = nI sh) (hK : InvK T I) (hS : InvS T I) (hG : (tOk T ∧ InvG T I) ∨ (tE T ∧ InvE I)) (h : Q (some (.long (dgV T sh I))) t I L) : bm_C G l 48 [.ref 0] t I L Q := by
  have hT := InvX.ok hG
  have n6 := hT.n6
  have c24 := hT.c24
  have p6 := Nat.pow_le_pow_right (n := 2) (by decide) n6
  have hl := InvX.lit hG
  have lu : un (I 17 1) < 2 ^ 31 := by rw [hl.1]; omega
  obtain ⟨m, m8, e13, hk⟩ := id hK
  obtain ⟨s, s1, s2, s3, s4⟩ := id hS
  unfold dgV at h
  generalize hA : mx 9 (cV T sh I) 17 = vA at h
  generalize hB : mx (tC T) (wV T) vA = vB at h
  generalize hC : mx (5 * tN T) (pV T sh (un (I 161 24))) vB = vC at h
  generalize hD : itN (I 161 42).toInt.toNat (snV I) (rdV I vC) = vD at h
  have lpG : ∀ k i y v d4, 4 - i = k → i ≤ 4 → y = nI i → v = itN (6 + i) (rwV I) (itN 3 (kpV I) vD) → bm_W G l 48 224 [some (.ref 0), some (.long v), none, some (.int y), d4] [] t I L Q := by
    intro k
    induction k with
    | zero =>
      intro i y v d4 hk hi hy hv
      obtain rfl : i = 4 := by omega
      subst hy hv
      refine bm_go (am_ok_all 48 (by decide)) 40 ?_
      refine And.intro (fun _ => ?_) (fun cd => absurd cd (by decide))
      exact h
    | succ k ih =>
      intro i y v d4 hk hi hy hv
      subst hy hv
      have hi4 : i < 4 := by omega
      match i, hi4 with
      | 0, _ =>
        refine bm_go (am_ok_all 48 (by decide)) 40 ?_
        refine And.intro (fun cd => absurd cd (by decide)) (fun _ => ?_)
        refine ⟨0, rfl, (by omega : 0 < 4), ?_⟩
        refine sp_digested (6 + 0) (by decide) _ (rw_n hR (k := 6 + 0) (by decide)).1 (rw_n hR (k := 6 + 0) (by decide)).2 ?_
        rw [rw_eq hR (by decide)]
        exact ih (0 + 1) _ _ _ (by omega) (by omega) rfl (itN_s _ _ _).symm
      | 1, _ =>
        refine bm_go (am_ok_all 48 (by decide)) 40 ?_
        refine And.intro (fun cd => absurd cd (by decide)) (fun _ => ?_)
        refine ⟨1, rfl, (by omega : 1 < 4), ?_⟩
        refine sp_digested (6 + 1) (by decide) _ (rw_n hR (k := 6 + 1) (by decide)).1 (rw_n hR (k := 6 + 1) (by decide)).2 ?_
        rw [rw_eq hR (by decide)]
        exact ih (1 + 1) _ _ _ (by omega) (by omega) rfl (itN_s _ _ _).symm
      | 2, _ =>
        refine bm_go (am_ok_all 48 (by decide)) 40 ?_
        refine And.intro (fun cd => absurd cd (by decide)) (fun _ => ?_)
        refine ⟨2, rfl, (by omega : 2 < 4), ?_⟩
        refine sp_digested (6 + 2) (by decide) _ (rw_n hR (k := 6 + 2) (by decide)).1 (rw_n hR (k := 6 + 2) (by decide)).2 ?_
        rw [rw_eq hR (by decide)]
        exact ih (2 + 1) _ _ _ (by omega) (by omega) rfl (itN_s _ _ _).symm
      | 3, _ =>
        refine bm_go (am_ok_all 48 (by decide)) 40 ?_
        refine And.intro (fun cd => absurd cd (by decide)) (fun _ => ?_)
        refine ⟨3, rfl, (by omega : 3 < 4), ?_⟩
        refine sp_digested (6 + 3) (by decide) _ (rw_n hR (k := 6 + 3) (by decide)).1 (rw_n hR (k := 6 + 3) (by decide)).2 ?_
        rw [rw_eq hR (by decide)]
        exact ih (3 + 1) _ _ _ (by omega) (by omega) rfl (itN_s _ _ _).symm
  have lpF : ∀ k i y v d4, 6 - i = k → i ≤ 6 → y = nI i → v = itN i (rwV I) (itN 3 (kpV I) vD) → bm_W G l 48 199 [some (.ref 0), some (.long v), none, some (.int y), d4] [] t I L Q := by
    intro k
    induction k with
    | zero =>
      intro i y v d4 hk hi hy hv
      obtain rfl : i = 6 := by omega
      subst hy hv
      refine bm_go (am_ok_all 48 (by decide)) 40 ?_
      refine And.intro (fun _ => ?_) (fun cd => absurd cd (by decide))
      exact lpG 4 0 _ _ _ rfl (by decide) rfl rfl
    | succ k ih =>
      intro i y v d4 hk hi hy hv
      subst hy hv
      have hi4 : i < 6 := by omega
      match i, hi4 with
      | 0, _ =>
        refine bm_go (am_ok_all 48 (by decide)) 40 ?_
        refine And.intro (fun cd => absurd cd (by decide)) (fun _ => ?_)
        refine ⟨0, rfl, (by omega : 0 < 6), ?_⟩
        refine sp_digested 0 (by decide) _ (rw_n hR (k := 0) (by decide)).1 (rw_n hR (k := 0) (by decide)).2 ?_
        rw [rw_eq hR (by decide)]
        exact ih (0 + 1) _ _ _ (by omega) (by omega) rfl (itN_s _ _ _).symm
      | 1, _ =>
        refine bm_go (am_ok_all 48 (by decide)) 40 ?_
        refine And.intro (fun cd => absurd cd (by decide)) (fun _ => ?_)
        refine ⟨1, rfl, (by omega : 1 < 6), ?_⟩
        refine sp_digested 1 (by decide) _ (rw_n hR (k := 1) (by decide)).1 (rw_n hR (k := 1) (by decide)).2 ?_
        rw [rw_eq hR (by decide)]
        exact ih (1 + 1) _ _ _ (by omega) (by omega) rfl (itN_s _ _ _).symm
      | 2, _ =>
        refine bm_go (am_ok_all 48 (by decide)) 40 ?_
        refine And.intro (fun cd => absurd cd (by decide)) (fun _ => ?_)
        refine ⟨2, rfl, (by omega : 2 < 6), ?_⟩
        refine sp_digested 2 (by decide) _ (rw_n hR (k := 2) (by decide)).1 (rw_n hR (k := 2) (by decide)).2 ?_
        rw [rw_eq hR (by decide)]
        exact ih (2 + 1) _ _ _ (by omega) (by omega) rfl (itN_s _ _ _).symm
      | 3, _ =>
        refine bm_go (am_ok_all 48 (by decide)) 40 ?_
        refine And.intro (fun cd => absurd cd (by decide)) (fun _ => ?_)
        refine ⟨3, rfl, (by omega : 3 < 6), ?_⟩
        refine sp_digested 3 (by decide) _ (rw_n hR (k := 3) (by decide)).1 (rw_n hR (k := 3) (by decide)).2 ?_
        rw [rw_eq hR (by decide)]
        exact ih (3 + 1) _ _ _ (by omega) (by omega) rfl (itN_s _ _ _).symm
      | 4, _ =>
        refine bm_go (am_ok_all 48 (by decide)) 40 ?_
        refine And.intro (fun cd => absurd cd (by decide)) (fun _ => ?_)
        refine ⟨4, rfl, (by omega : 4 < 6), ?_⟩
        refine sp_digested 4 (by decide) _ (rw_n hR (k := 4) (by decide)).1 (rw_n hR (k := 4) (by decide)).2 ?_
        rw [rw_eq hR (by decide)]
        exact ih (4 + 1) _ _ _ (by omega) (by omega) rfl (itN_s _ _ _).symm
      | 5, _ =>
        refine bm_go (am_ok_all 48 (by decide)) 40 ?_
        refine And.intro (fun cd => absurd cd (by decide)) (fun _ => ?_)
        refine ⟨5, rfl, (by omega : 5 < 6), ?_⟩
        refine sp_digested 5 (by decide) _ (rw_n hR (k := 5) (by decide)).1 (rw_n hR (k := 5) (by decide)).2 ?_
        rw [rw_eq hR (by decide)]
        exact ih (5 + 1) _ _ _ (by omega) (by omega) rfl (itN_s _ _ _).symm
  have lpE : ∀ k i y v d4, 3 - i = k → i ≤ 3 → y = nI i → v = itN i (kpV I) vD → bm_W G l 48 141 [some (.ref 0), some (.long v), none, some (.int y), d4] [] t I L Q := by
    intro k
    induction k with
    | zero =>
      intro i y v d4 hk hi hy hv
      obtain rfl : i = 3 := by omega
      subst hy hv
      refine bm_go (am_ok_all 48 (by decide)) 40 ?_
      refine And.intro (fun _ => ?_) (fun cd => absurd cd (by decide))
      exact lpF 6 0 _ _ _ rfl (by decide) rfl (itN_0 _ _).symm
    | succ k ih =>
      intro i y v d4 hd hi hy hv
      subst hy hv
      have hi4 : i < 3 := by omega
      match i, hi4 with
      | 0, _ =>
        have hkk := hk 0 (by decide)
        refine bm_go (am_ok_all 48 (by decide)) 60 ?_
        refine And.intro (fun cd => absurd cd (by decide)) (fun _ => ?_)
        refine sp_isIn m 0 e13 rfl (by omega) (by decide) (fun e => ?_) (fun e => ?_)
        · rw [if_pos e] at hkk
          obtain ⟨st, so, sc, g0, g1, g2, g3⟩ := hkk
          first | refine And.intro (fun cd => absurd cd (by decide)) (fun _ => ?_) | refine And.intro (fun _ => ?_) (fun cd => absurd cd (by decide)) | refine And.intro (fun cd => ?_) (fun cd => ?_)
          refine ⟨0, rfl, (by omega : 0 < 3), ?_⟩
          refine sp_mixed ?_
          refine ⟨0, rfl, (by omega : 0 < 3), ?_⟩
          refine sp_mixed ?_
          refine ih (0 + 1) _ _ _ (by omega) (by omega) rfl ?_
          refine Eq.trans (b := kpV I 0 (itN 0 (kpV I) vD)) ?_ (itN_s _ _ _).symm
          generalize itN 0 (kpV I) vD = w
          unfold kpV
          rw [if_neg (fun q => by
            rw [g0] at q
            have q := congrArg Int32.toInt q
            rw [nI_toInt (by have := so.1; omega)] at q
            have q : (st.1 : Int) = -9 := q
            omega), g0, g1, ← sc.1, ← sc.2.1]
        · rw [if_neg (by rw [e]; decide)] at hkk
          first | refine And.intro (fun cd => absurd cd (by decide)) (fun _ => ?_) | refine And.intro (fun _ => ?_) (fun cd => absurd cd (by decide)) | refine And.intro (fun cd => ?_) (fun cd => ?_)
          refine sp_mixed ?_
          refine ih (0 + 1) _ _ _ (by omega) (by omega) rfl ?_
          refine Eq.trans (b := kpV I 0 (itN 0 (kpV I) vD)) ?_ (itN_s _ _ _).symm
          generalize itN 0 (kpV I) vD = w
          unfold kpV
          rw [if_pos hkk]
          rfl
      | 1, _ =>
        have hkk := hk 1 (by decide)
        refine bm_go (am_ok_all 48 (by decide)) 60 ?_
        refine And.intro (fun cd => absurd cd (by decide)) (fun _ => ?_)
        refine sp_isIn m 1 e13 rfl (by omega) (by decide) (fun e => ?_) (fun e => ?_)
        · rw [if_pos e] at hkk
          obtain ⟨st, so, sc, g0, g1, g2, g3⟩ := hkk
          first | refine And.intro (fun cd => absurd cd (by decide)) (fun _ => ?_) | refine And.intro (fun _ => ?_) (fun cd => absurd cd (by decide)) | refine And.intro (fun cd => ?_) (fun cd => ?_)
          refine ⟨1, rfl, (by omega : 1 < 3), ?_⟩
          refine sp_mixed ?_
          refine ⟨1, rfl, (by omega : 1 < 3), ?_⟩
          refine sp_mixed ?_
          refine ih (1 + 1) _ _ _ (by omega) (by omega) rfl ?_
          refine Eq.trans (b := kpV I 1 (itN 1 (kpV I) vD)) ?_ (itN_s _ _ _).symm
          generalize itN 1 (kpV I) vD = w
          unfold kpV
          rw [if_neg (fun q => by
            rw [g0] at q
            have q := congrArg Int32.toInt q
            rw [nI_toInt (by have := so.1; omega)] at q
            have q : (st.1 : Int) = -9 := q
            omega), g0, g1, ← sc.1, ← sc.2.1]
        · rw [if_neg (by rw [e]; decide)] at hkk
          first | refine And.intro (fun cd => absurd cd (by decide)) (fun _ => ?_) | refine And.intro (fun _ => ?_) (fun cd => absurd cd (by decide)) | refine And.intro (fun cd => ?_) (fun cd => ?_)
          refine sp_mixed ?_
          refine ih (1 + 1) _ _ _ (by omega) (by omega) rfl ?_
          refine Eq.trans (b := kpV I 1 (itN 1 (kpV I) vD)) ?_ (itN_s _ _ _).symm
          generalize itN 1 (kpV I) vD = w
          unfold kpV
          rw [if_pos hkk]
          rfl
      | 2, _ =>
        have hkk := hk 2 (by decide)
        refine bm_go (am_ok_all 48 (by decide)) 60 ?_
        refine And.intro (fun cd => absurd cd (by decide)) (fun _ => ?_)
        refine sp_isIn m 2 e13 rfl (by omega) (by decide) (fun e => ?_) (fun e => ?_)
        · rw [if_pos e] at hkk
          obtain ⟨st, so, sc, g0, g1, g2, g3⟩ := hkk
          first | refine And.intro (fun cd => absurd cd (by decide)) (fun _ => ?_) | refine And.intro (fun _ => ?_) (fun cd => absurd cd (by decide)) | refine And.intro (fun cd => ?_) (fun cd => ?_)
          refine ⟨2, rfl, (by omega : 2 < 3), ?_⟩
          refine sp_mixed ?_
          refine ⟨2, rfl, (by omega : 2 < 3), ?_⟩
          refine sp_mixed ?_
          refine ih (2 + 1) _ _ _ (by omega) (by omega) rfl ?_
          refine Eq.trans (b := kpV I 2 (itN 2 (kpV I) vD)) ?_ (itN_s _ _ _).symm
          generalize itN 2 (kpV I) vD = w
          unfold kpV
          rw [if_neg (fun q => by
            rw [g0] at q
            have q := congrArg Int32.toInt q
            rw [nI_toInt (by have := so.1; omega)] at q
            have q : (st.1 : Int) = -9 := q
            omega), g0, g1, ← sc.1, ← sc.2.1]
        · rw [if_neg (by rw [e]; decide)] at hkk
          first | refine And.intro (fun cd => absurd cd (by decide)) (fun _ => ?_) | refine And.intro (fun _ => ?_) (fun cd => absurd cd (by decide)) | refine And.intro (fun cd => ?_) (fun cd => ?_)
          refine sp_mixed ?_
          refine ih (2 + 1) _ _ _ (by omega) (by omega) rfl ?_
          refine Eq.trans (b := kpV I 2 (itN 2 (kpV I) vD)) ?_ (itN_s _ _ _).symm
          generalize itN 2 (kpV I) vD = w
          unfold kpV
          rw [if_pos hkk]
          rfl
  have lpC : ∀ k i y v d4, tN T - i = k → i ≤ tN T → y = nI i → v = mx (5 * i) (pV T sh (un (I 161 24))) vB → bm_W G l 48 62 [some (.ref 0), some (.long v), none, some (.int y), d4] [] t I L Q := by
    intro k
    induction k with
    | zero =>
      intro i y v d4 hd hi hy hv
      obtain rfl : i = tN T := by omega
      subst hy hv
      rw [hC]
      have run : ∀ x : Int32, x = (if tC T = 0 then 1 else 0) → ∀ Q' : bm_P, (bm_W G l 48 141 [some (.ref 0), some (.long vD), none, some (.int 0), d4] [] t I L Q → Q' (some (.long (rdV I vC))) t I L) → bm_C G l 218 [.ref 16, .long vC, .int x] t I L Q' := fun x hx Q' kont => sp_rdV hT hG hx (kont (lpE 3 0 _ _ _ rfl (by decide) rfl (itN_0 _ _).symm))
      refine bm_go (am_ok_all 48 (by decide)) 60 ?_
      refine And.intro (fun _ => ?_) (fun cd => ?_)
      · refine And.intro (fun cd => ?_) (fun cd => ?_)
        · refine run 0 ?_ _ (fun go => ?_)
          · rw [if_neg (fun q => cd (by show (I 7 0).toInt = 0; rw [hc.2.1, q]; rfl))]
          · refine sp_snV hS ?_
            rw [hD]
            exact go
        · refine run 1 ?_ _ (fun go => ?_)
          · have cd : (I 7 0).toInt = 0 := cd
            rw [hc.2.1, nI_toInt (by omega)] at cd
            rw [if_pos (by omega)]
          · refine sp_snV hS ?_
            rw [hD]
            exact go
      · have cd : (nI (tN T)).toInt < (I 7 3).toInt := cd
        rw [hc.2.2.2.1] at cd
        omega
    | succ k ih =>
      intro i y v d4 hd hi hy hv
      subst hy hv
      have lpI : ∀ k j y v, 5 - j = k → j ≤ 5 → y = nI j → v = mx (5 * i + j) (pV T sh (un (I 161 24))) vB → bm_W G l 48 76 [some (.ref 0), some (.long v), none, some (.int (nI i)), some (.int y)] [] t I L Q := by
        intro k
        induction k with
        | zero =>
          intro j y v hd2 hj hy hv
          obtain rfl : j = 5 := by omega
          subst hy hv
          refine bm_go (am_ok_all 48 (by decide)) 40 ?_
          refine And.intro (fun _ => ?_) (fun cd => absurd cd (by decide))
          exact ih (i + 1) _ _ _ (by omega) (by omega) (nI_succ i).symm rfl
        | succ k ih2 =>
          intro j y v hd2 hj hy hv
          subst hy hv
          refine bm_go (am_ok_all 48 (by decide)) 40 ?_
          refine And.intro (fun cd => ?_) (fun _ => ?_)
          · rw [nI_toInt (by omega), T4] at cd
            omega
          refine sp_ofLamp sh i j rfl hT hc (by omega) a1 (by omega) lu rfl (by omega) ?_
          refine sp_mixed ?_
          refine ih2 (j + 1) _ _ (by omega) (by omega) (nI_succ j).symm ?_
          rw [show 5 * i + (j + 1) = 5 * i + j + 1 from rfl, mx_s]
          have cl := hc.2.2.2.2.2.1 i (by omega)
          unfold pV
          rw [show (5 * i + j) / 5 = i by omega, show (5 * i + j) % 5 = j by omega, cl.1, cl.2.1, cl.2.2, hl.1]
      refine bm_go (am_ok_all 48 (by decide)) 40 ?_
      refine And.intro (fun cd => ?_) (fun _ => ?_)
      · have cd : (I 7 3).toInt ≤ (nI i).toInt := cd
        rw [hc.2.2.2.1, nI_toInt (by omega), nI_toInt (by omega)] at cd
        omega
      exact lpI 5 0 _ _ rfl (by decide) rfl rfl
  have lpB : ∀ k i y v d4, tC T - i = k → i ≤ tC T → y = nI i → v = mx i (wV T) vA → bm_W G l 48 30 [some (.ref 0), some (.long v), none, some (.int y), d4] [] t I L Q := by
    intro k
    induction k with
    | zero =>
      intro i y v d4 hd hi hy hv
      obtain rfl : i = tC T := by omega
      subst hy hv
      rw [hB]
      refine bm_go (am_ok_all 48 (by decide)) 40 ?_
      refine And.intro (fun _ => ?_) (fun cd => ?_)
      · exact lpC _ 0 _ _ _ rfl (Nat.zero_le _) rfl (mx_0 _ _).symm
      · have cd : (nI (tC T)).toInt < (I 7 0).toInt := cd
        rw [hc.2.1] at cd
        omega
    | succ k ih =>
      intro i y v d4 hd hi hy hv
      subst hy hv
      refine bm_go (am_ok_all 48 (by decide)) 40 ?_
      refine And.intro (fun cd => ?_) (fun _ => ?_)
      · have cd : (I 7 0).toInt ≤ (nI i).toInt := cd
        rw [hc.2.1, nI_toInt (by omega), nI_toInt (by omega)] at cd
        omega
      refine sp_what i (hT.okc (k := i) (by omega)) hc.1 hc.2.2.1 rfl (by omega) ?_
      refine sp_mixed ?_
      exact ih (i + 1) _ _ _ (by omega) (by omega) (nI_succ i).symm (mx_s _ _ _).symm
  have lpA : ∀ k i y v d4, 9 - i = k → i ≤ 9 → y = nI i → v = mx i (cV T sh I) 17 → bm_W G l 48 6 [some (.ref 0), some (.long v), none, some (.int y), d4] [] t I L Q := by
    intro k
    induction k with
    | zero =>
      intro i y v d4 hd hi hy hv
      obtain rfl : i = 9 := by omega
      subst hy hv
      rw [hA]
      refine bm_go (am_ok_all 48 (by decide)) 40 ?_
      refine And.intro (fun _ => ?_) (fun cd => absurd cd (by decide))
      exact lpB _ 0 _ _ _ rfl (Nat.zero_le _) rfl (mx_0 _ _).symm
    | succ k ih =>
      intro i y v d4 hd hi hy hv
      subst hy hv
      refine bm_go (am_ok_all 48 (by decide)) 40 ?_
      refine And.intro (fun cd => ?_) (fun _ => ?_)
      · rw [nI_toInt (by omega), T8] at cd
        omega
      refine sp_count sh i rfl (by omega) hT hc hR a1 hs hl (by rw [s2, s3]) ?_
      refine sp_mixed ?_
      exact ih (i + 1) _ _ _ (by omega) (by omega) (nI_succ i).symm (mx_s _ _ _).symm
  refine bm_go (am_ok_all 48 (by decide)) 40 ?_
  exact lpA 9 0 _ _ _ rfl (by decide) rfl (mx_0 _ _).symm
end GH

/-! pair: digest -/
def mx (n : Nat) (f : Nat → Int32) (h : Int64) : Int64 := (List.range n).foldl (fun h j => 31 * h + (f j).toInt64) h
theorem mx_s (n : Nat) (f : Nat → Int32) (h : Int64) : mx (n + 1) f h = 31 * mx n f h + (f n).toInt64 := by
  unfold mx
  rw [List.range_succ, List.foldl_append]
  rfl
def itN (n : Nat) (F : Nat → Int64 → Int64) (h : Int64) : Int64 := (List.range n).foldl (fun h j => F j h) h
theorem itN_s (n : Nat) (F : Nat → Int64 → Int64) (h : Int64) : itN (n + 1) F h = F n (itN n F h) := by
  unfold itN
  rw [List.range_succ, List.foldl_append]
  rfl
def wV (T : tT) (c : Nat) : Int32 := if c = tD T then 2 else if (tS T).testBit c then 0 else 1
def pV (T : tT) (sh lt i : Nat) : Int32 := if i % 5 = 0 then nI (tK T (i / 5)) else if i % 5 = 1 then nI (tP T (i / 5)) else if i % 5 = 2 then nI (tR T (i / 5)) else if i % 5 = 3 then nI (if lt.testBit (i / 5) then 1 else 0) else nI (if sh.testBit (i / 5) then 1 else 0)
/-- what one is and has done, in the digest -/
def rdV (I : am_I) (h : Int64) : Int64 := mx (I 61 27).toInt.toNat (fun i => I 69 i) (31 * (31 * (31 * (31 * h + (I 61 23).toInt64) + (I 61 26).toInt64) + (I 61 25).toInt64) + (I 61 27).toInt64)
def snV (I : am_I) (j : Nat) (h : Int64) : Int64 := 31 * (31 * h + (I 79 j).toInt64) + (I 80 j).toInt64
def kpV (I : am_I) (k : Nat) (h : Int64) : Int64 := if I 70 k = -9 then 31 * h + -1 else 31 * (31 * h + (I 70 k).toInt64) + (I 71 k).toInt64
def rwV (I : am_I) (k : Nat) (h : Int64) : Int64 := mx (I 63 k).toInt.toNat (fun j => I 64 (rb k + j)) (31 * h + (I 63 k).toInt64)
def dgV (T : tT) (sh : Nat) (I : am_I) : Int64 := itN 10 (rwV I) (itN 3 (kpV I) (itN (I 61 42).toInt.toNat (snV I) (rdV I (mx (5 * tN T) (pV T sh (un (I 61 24))) (mx (tC T) (wV T) (mx 9 (cV T sh I) 17))))))
section PD
variable {G : am_G} {l : Launch} {t : am_T} {I : am_I} {L : am_J} {Q : bm_P}
theorem sm_joins {v : Int64} (h : Q none t I (am_uJ L 61 48 (31 * L 61 48 + v))) : bm_C G l 164 [.ref 61, .long v] t I L Q := by
  refine bm_go (am_ok_all 164 (by decide)) 20 ?_
  exact h
theorem uJ_eq {L : am_J} {a j : Nat} {v : Int64} : am_uJ L a j v a j = v := by
  unfold am_uJ
  exact if_pos ⟨rfl, rfl⟩
theorem uJ_u {L : am_J} {a j : Nat} {v w : Int64} : am_uJ (am_uJ L a j v) a j w = am_uJ L a j w := by
  funext x y
  unfold am_uJ
  by_cases q : x = a ∧ y = j
  · rw [if_pos q, if_pos q]
  · rw [if_neg q, if_neg q, if_neg q]
theorem Inv.L48 (h : Inv t I L) (v : Int64) : Inv t I (am_uJ L 61 48 v) := h
theorem sp_rdV {h' : Int64} {x : Int32} {T : tT} (hT : tOK T) (hG : (tOk T ∧ InvG T I) ∨ (tE T ∧ InvE I)) (hx : x = (if tC T = 0 then 1 else 0)) (h : Q (some (.long (rdV I h'))) t I L) : bm_C G l 218 [.ref 16, .long h', .int x] t I L Q := by
  obtain ⟨d, hd, e16, e27, e17, e3, e2, eA⟩ : ∃ d : Nat, d ≤ 200 ∧ I 16 1 = nI d ∧ I 61 27 = nI d ∧ (if tC T = 0 then (-9 : Int32) else I 17 0) = I 61 23 ∧ (I 17 3 = I 61 26 ∧ (I 61 26 = 0 ∨ I 61 26 = 1)) ∧ I 17 2 = I 61 25 ∧ ∀ i, i < d → I 19 i = I 69 i := by
    rcases hG with ⟨hok, n, b, d, p, a, kn, kb, sn, mn, mb, sb, hd, g1, g2, _, _, g3⟩ | ⟨he, h1, h2, h3, h4, h5, h6, h7, h8, h9, h10, h11, h12⟩
    · have c2 := hok.1.c2
      refine ⟨d, hd, g1, g2, ?_, ⟨?_, ?_⟩, ?_, fun i hi => ?_⟩
      · rw [if_neg (by omega), sn.1, mn.1]
      · rw [sn.2.2.2]; exact mn.2.2.2.symm
      · rw [show I 61 26 = bI n.2.2.2 from mn.2.2.2]
        cases n.2.2.2
        · exact Or.inl rfl
        · exact Or.inr rfl
      · rw [sn.2.2.1]; exact mn.2.2.1.symm
      · rw [(g3 i hi).2.1, (g3 i hi).2.2]
    · have c0 : tC T = 0 := by unfold tC; rw [he.1]; exact Nat.zero_mul _
      refine ⟨0, by decide, h7, h12.1, ?_, ⟨by rw [h3, h11], Or.inl h11⟩, by rw [h2, h10], fun i hi => by omega⟩
      rw [if_pos c0, h8]
  have id' : (I 61 27).toInt.toNat = d := by rw [e27, nI_toInt (by omega)]; omega
  have lp : ∀ k i y v, d - i = k → i ≤ d → y = nI i → v = mx i (fun i => I 69 i) (31 * (31 * (31 * (31 * h' + (I 61 23).toInt64) + (I 61 26).toInt64) + (I 61 25).toInt64) + (I 61 27).toInt64) → bm_W G l 218 72 [some (.ref 16), some (.long h'), none, some (.int x), some (.long v), none, some (.int y)] [] t I L Q := by
    intro k
    induction k with
    | zero =>
      intro i y v hk hi hy hv
      obtain rfl : i = d := by omega
      subst hy hv
      unfold rdV at h
      rw [id'] at h
      refine bm_go (am_ok_all 218 (by decide)) 40 ?_
      refine And.intro (fun _ => ?_) (fun cd => ?_)
      · exact h
      · rw [e16] at cd
        omega
    | succ k ih =>
      intro i y v hk hi hy hv
      subst hy hv
      refine bm_go (am_ok_all 218 (by decide)) 40 ?_
      refine And.intro (fun cd => ?_) (fun _ => ?_)
      · rw [e16, nI_toInt (by omega), nI_toInt (by omega)] at cd
        omega
      refine And.intro (fun cd => ?_) (fun _ => ?_)
      · rw [T200, nI_toInt (by omega)] at cd
        omega
      refine ⟨i, nI_toInt (by omega), (by omega : i < 200), ?_⟩
      refine sp_mixed ?_
      refine ih (i + 1) _ _ (by omega) (by omega) (nI_succ i).symm ?_
      rw [mx_s, eA i (by omega)]
  have rest : bm_W G l 218 20 [some (.ref 16), some (.long h'), none, some (.int x), none, none, none] [.long (31 * h' + (I 61 23).toInt64)] t I L Q := by
    refine bm_go (am_ok_all 218 (by decide)) 60 ?_
    have fin : bm_W G l 218 72 [some (.ref 16), some (.long h'), none, some (.int x), some (.long (31 * (31 * (31 * (31 * h' + (I 61 23).toInt64) + (I 17 3).toInt64) + (I 17 2).toInt64) + (I 16 1).toInt64)), none, some (.int 0)] [] t I L Q := lp d 0 _ _ rfl (Nat.zero_le _) rfl (by rw [e3.1, e2, e16, ← e27]; rfl)
    rw [e3.1] at fin
    refine And.intro (fun cd => ?_) (fun cd => ?_)
    · refine sp_mixed (sp_mixed (sp_mixed ?_))
      have e0 : I 61 26 = 0 := by
        rcases e3.2 with q | q
        · exact q
        · rw [e3.1, q] at cd
          exact absurd cd (by decide)
      rw [e0] at fin
      exact fin
    · refine sp_mixed (sp_mixed (sp_mixed ?_))
      have e0 : I 61 26 = 1 := by
        rcases e3.2 with q | q
        · rw [e3.1, q] at cd
          exact absurd rfl cd
        · exact q
      rw [e0] at fin
      exact fin
  by_cases q : tC T = 0
  · rw [if_pos q] at hx e17
    subst hx
    refine bm_go (am_ok_all 218 (by decide)) 5 ?_
    refine And.intro (fun cd => absurd cd (by decide)) (fun _ => ?_)
    refine sp_mixed ?_
    rw [← e17] at rest
    exact rest
  · rw [if_neg q] at hx e17
    subst hx
    refine bm_go (am_ok_all 218 (by decide)) 6 ?_
    refine And.intro (fun _ => ?_) (fun cd => absurd rfl cd)
    refine sp_mixed ?_
    rw [← e17] at rest
    exact rest
theorem sp_snV {h' : Int64} {T : tT} (hS : InvS T I) (h : Q (some (.long (itN (I 61 42).toInt.toNat (snV I) h'))) t I L) : bm_C G l 222 [.ref 22, .long h'] t I L Q := by
  obtain ⟨m, hm, e1, e2, es⟩ := hS
  have id' : (I 61 42).toInt.toNat = m := by rw [e2, nI_toInt (by omega)]; omega
  rw [id'] at h
  have lp : ∀ k i y v, m - i = k → i ≤ m → y = nI i → v = itN i (snV I) h' → bm_W G l 222 5 [some (.ref 22), some (.long h'), none, some (.long v), none, some (.int y)] [] t I L Q := by
    intro k
    induction k with
    | zero =>
      intro i y v hk hi hy hv
      obtain rfl : i = m := by omega
      subst hy hv
      refine bm_go (am_ok_all 222 (by decide)) 40 ?_
      refine And.intro (fun _ => ?_) (fun cd => ?_)
      · exact h
      · rw [e1] at cd
        omega
    | succ k ih =>
      intro i y v hk hi hy hv
      subst hy hv
      obtain ⟨a, b, _, _, _, s1, s2, s3, s4⟩ := es i (by omega)
      refine bm_go (am_ok_all 222 (by decide)) 40 ?_
      refine And.intro (fun cd => ?_) (fun _ => ?_)
      · rw [e1, nI_toInt (by omega), nI_toInt (by omega)] at cd
        omega
      refine And.intro (fun cd => ?_) (fun _ => ?_)
      · rw [T8, nI_toInt (by omega)] at cd
        omega
      refine ⟨i, nI_toInt (by omega), (by omega : i < 8), ?_⟩
      refine sp_mixed ?_
      refine ⟨i, nI_toInt (by omega), (by omega : i < 8), ?_⟩
      refine sp_mixed ?_
      refine ih (i + 1) _ _ (by omega) (by omega) (nI_succ i).symm ?_
      rw [itN_s]
      unfold snV
      rw [s1, s2, s3, s4]
  refine bm_go (am_ok_all 222 (by decide)) 40 ?_
  exact lp m 0 _ _ rfl (Nat.zero_le _) rfl rfl
end PD

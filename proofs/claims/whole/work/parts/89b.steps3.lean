/-! steps from a cell: the reference -/
section PS
variable {G : am_G} {l : Launch} {t : am_T} {I : am_I} {L : am_J} {Q : bm_P}
theorem sm_steps_d {T : tT} {x1 x2 x3 x4 x5 : Int32} (sh c ot k : Nat) (hT : tOk T) (hm : mT T I) (a2 : I 61 19 = nI sh) (hsh : sh < 2 ^ 31) (h1 : x1 = nI c) (h2 : x2 = -9) (h3 : x3 = 0) (h4 : x4 = nI ot) (h5 : x5 = nI k) (hc : c < tC T) (hot : ot < 2 ^ 24) (hk : k < tN T) (h : Q (some (.int (eM (pace T (1 <<< c) 0 ot (tP T k))))) t I L) : bm_C G l 127 [.ref 61, .int x1, .int x2, .int x3, .int x4, .int x5] t I L Q := by
  subst h1 h2 h3 h4 h5
  have hG := hT.1
  have c24 := hG.c24
  have n6 := hT.2.2.2.1
  have lpk := hT.2.2.2.2.1 k hk
  have ek : I 67 k = nI (tP T k) := (hm.2.2.2.2.2.2.2.2 k hk).2.1
  have pk : tP T k < 24 := by have := lpk.2.1; omega
  have al6 : nI (lit T sh 0) ||| nI ot = nI ot := by rw [lit_0, n_or, Nat.zero_or]
  have i8 : (1 : Int32) <<< (I 67 k &&& 31) = nI (1 <<< tP T k) := by rw [ek, k1, n_shl _ (by omega)]
  have ia : (nI (lit T sh 0) ||| nI ot) &&& ((1 : Int32) <<< (I 67 k &&& 31)) = nI (ot &&& 1 <<< tP T k) := by rw [al6, i8, n_and]
  have la2 := and_lt (1 <<< tP T k) hot
  have iz : (ot &&& 1 <<< tP T k = 0) ↔ ot.testBit (tP T k) = false := by
    constructor
    · intro e
      have := congrArg (fun v => v.testBit (tP T k)) e
      simp only [Nat.testBit_and, tb_one, Nat.zero_testBit, decide_true, Bool.and_true] at this
      exact this
    · intro e
      apply Nat.eq_of_testBit_eq
      intro j
      rw [Nat.testBit_and, tb_one, Nat.zero_testBit]
      by_cases q : tP T k = j
      · subst q; rw [e]; rfl
      · simp [q]
  unfold pace at h
  refine bm_go (am_ok_all 127 (by decide)) 120 ?_
  refine sm_lightOf sh 0 rfl (by omega) (Or.inl hT) hm a2 hsh ?_
  refine And.intro (fun cd => absurd rfl cd) (fun _ => ?_)
  refine ⟨k, nI_toInt (by omega), (by omega : k < 6), ?_⟩
  refine And.intro (fun cd => ?_) (fun cd => ?_)
  · rw [ia, nI_toInt (by omega)] at cd
    have b := iz.mp (by omega)
    rw [if_neg (by rw [b]; simp)] at h
    have go := lp_steps (Q := Q) (a1 := nI c) (a2 := -9) (a3 := 0) (a4 := nI ot) (a5 := nI k) (t := t) (L := L) (l := l) (G := G) hG hm (1 <<< c) 0 ot ot 0 (tP T k) (one_lt hc) (by rw [Nat.one_shiftLeft]; have := Nat.two_pow_pos c; omega) (by omega) hot (by decide) (fun x _ => by simp) (fun x _ => by simp) h _ 0 0 (nI (1 <<< c)) 0 none rfl (Nat.zero_le _) rfl ?_ ?_ (fun j hj => by omega)
    · have i9 : (1 : Int32) <<< (nI c &&& 31) = nI (1 <<< c) := by rw [k1, n_shl _ (by omega)]
      rw [← i9] at go
      have e6 : (nI ot : Int32) = nI (lit T sh 0) ||| nI ot := al6.symm
      have go2 : bm_W G l 127 101 [some (.ref 61), some (.int (nI c)), some (.int (-9)), some (.int 0), some (.int (nI ot)), some (.int (nI k)), some (.int (nI (lit T sh 0) ||| nI ot)), some (.int 0), some (.int ((1 : Int32) <<< (I 67 k &&& 31))), some (.int 0), some (.int ((1 : Int32) <<< (nI c &&& 31))), some (.int 0), none] [] t I L Q := by
        rw [al6, i8]
        exact go
      refine And.intro (fun cd => absurd rfl cd) (fun _ => ?_)
      refine And.intro (fun cd => absurd rfl cd) (fun _ => ?_)
      exact go2
    · show (0 : Int32) = nI ((1 <<< c) &&& 0)
      rw [Nat.and_zero]
      rfl
    · show _ = nI ((1 <<< c) &&& cm 0)
      congr 1
      apply Nat.eq_of_testBit_eq
      intro j
      rw [tb_and_cm (w24 (one_lt (by omega)))]
      simp
  · rw [ia, nI_toInt (by omega)] at cd
    have b : ot.testBit (tP T k) = true := by
      cases e : ot.testBit (tP T k) with
      | true => rfl
      | false => exact absurd (by have := iz.mpr e; omega) cd
    rw [if_pos (Or.inr b)] at h
    exact h
end PS

/-! steps from lamp to lamp: the reference, all of it -/
theorem tb_lit {T : tT} {sh s x : Nat} : (lit T sh s).testBit x = true ↔ ∃ k, k < tN T ∧ s.testBit k = true ∧ (shn T sh k).testBit x = true := by
  unfold lit
  rw [tb_orN]
  constructor
  · rintro ⟨k, hk, e⟩
    by_cases q : s.testBit k = true
    · rw [if_pos q] at e
      exact ⟨k, hk, q, e⟩
    · rw [if_neg q] at e
      simp at e
  · rintro ⟨k, hk, q, e⟩
    exact ⟨k, hk, by rw [if_pos q]; exact e⟩
theorem lit_cut {T : tT} (sh : Nat) {s la x : Nat} (hs : s < 64) (h6 : la < 6) (hl : la < tN T) (hsl : s.testBit la = true) : (lit T sh s).testBit x = ((shn T sh la).testBit x || (lit T sh (s - 2 ^ la)).testBit x) := by
  rw [← and_cm1 s hs la h6 hsl]
  have hb : ∀ j, (s &&& cm (1 <<< la)).testBit j = (s.testBit j && !decide (la = j)) := fun j => by rw [tb_and_cm (by omega), tb_one]
  rw [Bool.eq_iff_iff, Bool.or_eq_true, tb_lit, tb_lit]
  constructor
  · rintro ⟨k, hk, q, e⟩
    by_cases w : la = k
    · subst w; exact Or.inl e
    · exact Or.inr ⟨k, hk, by rw [hb, q]; simp [w], e⟩
  · rintro (e | ⟨k, hk, q, e⟩)
    · exact ⟨la, hl, hsl, e⟩
    · rw [hb, Bool.and_eq_true] at q
      exact ⟨k, hk, q.1, e⟩
section PS
variable {G : am_G} {l : Launch} {t : am_T} {I : am_I} {L : am_J} {Q : bm_P}
/-- from the lamp that was lit last -/
theorem sm_steps_l {T : tT} {x1 x2 x3 x4 x5 : Int32} (sh s la ot k : Nat) (hT : tOk T) (hm : mT T I) (a2 : I 61 19 = nI sh) (hsh : sh < 2 ^ 31) (h1 : x1 = nI (tP T la)) (h2 : x2 = nI la) (h3 : x3 = nI s) (h4 : x4 = nI ot) (h5 : x5 = nI k) (hs : s < 64) (hl : la < tN T) (hsl : s.testBit la = true) (hot : ot < 2 ^ 24) (hk : k < tN T) (h : Q (some (.int (eM (gap0 T sh 0 ot s la k)))) t I L) : bm_C G l 127 [.ref 61, .int x1, .int x2, .int x3, .int x4, .int x5] t I L Q := by
  subst h1 h2 h3 h4 h5
  have hG := hT.1
  have c24 := hG.c24
  have n6 := hT.2.2.2.1
  have p24 := Nat.pow_le_pow_right (n := 2) (by decide) c24
  have lpl := hT.2.2.2.2.1 la hl
  have lpk := hT.2.2.2.2.1 k hk
  have s0 : s ≠ 0 := fun e => by rw [e] at hsl; simp at hsl
  unfold gap0 at h
  rw [if_neg s0] at h
  have ac := and_cm1 s hs la (by omega) hsl
  have sub : s - 2 ^ la < 64 := Nat.lt_of_le_of_lt (Nat.sub_le _ _) hs
  have l1 : ∀ s, lit T sh s < 2 ^ 24 := fun s => Nat.lt_of_lt_of_le (lit_lt hT sh s) p24
  have l2 : shn T sh la < 2 ^ 24 := Nat.lt_of_lt_of_le (shn_lt hG lpl.2.1) p24
  have i0 : (1 : Int32) <<< (nI la &&& 31) = nI (1 <<< la) := by rw [k1, n_shl _ (by omega)]
  have i1 : nI s &&& ((1 : Int32) <<< (nI la &&& 31) ^^^ (-1)) = nI (s - 2 ^ la) := by rw [i0, km1, n_cm, n_and, ac]
  have hcut := fun x => lit_cut (T := T) sh (x := x) hs (by omega) hl hsl
  generalize hbr : lit T sh (s - 2 ^ la) = br0 at *
  have b0 : br0 < 2 ^ 24 := by rw [← hbr]; exact l1 _
  have own7 : nI (shn T sh la) &&& (nI br0 ^^^ (-1)) &&& (nI ot ^^^ (-1)) = nI (shn T sh la &&& cm br0 &&& cm ot) := by rw [km1, n_cm, n_cm, n_and, n_and]
  have al6 : nI (lit T sh s) ||| nI ot = nI (lit T sh s ||| ot) := n_or _ _
  have hal : ∀ x, x < 32 → (lit T sh s ||| ot).testBit x = ((shn T sh la).testBit x || (br0 ||| ot).testBit x) := by
    intro x hx
    rw [Nat.testBit_or, Nat.testBit_or, hcut x, Bool.or_assoc]
  have how : ∀ x, x < 32 → (shn T sh la &&& cm br0 &&& cm ot).testBit x = ((shn T sh la).testBit x && !(br0 ||| ot).testBit x) := by
    intro x hx
    rw [Nat.testBit_and, Nat.testBit_and, tb_cm hx, tb_cm hx, Nat.testBit_or]
    cases (shn T sh la).testBit x <;> cases br0.testBit x <;> cases ot.testBit x <;> rfl
  have ek : I 67 k = nI (tP T k) := (hm.2.2.2.2.2.2.2.2 k hk).2.1
  have pk : tP T k < 24 := by have := lpk.2.1; omega
  have n9 : ¬ (nI la).toInt = (-9 : Int32).toInt := by
    rw [nI_toInt (by omega)]
    show ¬ ((la : Int) = -9)
    omega
  have lA24 : lit T sh s ||| ot < 2 ^ 24 := or_lt (l1 s) hot
  have lO24 : shn T sh la &&& cm br0 &&& cm ot < 2 ^ 24 := and_lt _ (and_lt _ l2)
  have i8 : (1 : Int32) <<< (I 67 k &&& 31) = nI (1 <<< tP T k) := by rw [ek, k1, n_shl _ (by omega)]
  have ia : (nI (lit T sh s) ||| nI ot) &&& ((1 : Int32) <<< (I 67 k &&& 31)) = nI ((lit T sh s ||| ot) &&& 1 <<< tP T k) := by rw [al6, i8, n_and]
  have la2 := and_lt (1 <<< tP T k) lA24
  have iz : ((lit T sh s ||| ot) &&& 1 <<< tP T k = 0) ↔ (lit T sh s ||| ot).testBit (tP T k) = false := by
    constructor
    · intro e
      have := congrArg (fun v => v.testBit (tP T k)) e
      simp only [Nat.testBit_and, tb_one, Nat.zero_testBit, decide_true, Bool.and_true] at this
      exact this
    · intro e
      apply Nat.eq_of_testBit_eq
      intro j
      rw [Nat.testBit_and, tb_one, Nat.zero_testBit]
      by_cases q : tP T k = j
      · subst q; rw [e]; rfl
      · simp [q]
  have bk := hal (tP T k) (by omega)
  unfold pace at h
  refine bm_go (am_ok_all 127 (by decide)) 120 ?_
  refine sm_lightOf sh s rfl (by omega) (Or.inl hT) hm a2 hsh ?_
  refine And.intro (fun _ => ?_) (fun cd => absurd cd n9)
  refine sm_shine sh la rfl hT hm a2 hsh hl ?_
  refine sm_lightOf sh (s - 2 ^ la) i1 (by omega) (Or.inl hT) hm a2 hsh ?_
  rw [hbr]
  refine ⟨k, nI_toInt (by omega), (by omega : k < 6), ?_⟩
  refine And.intro (fun cd => ?_) (fun cd => ?_)
  · rw [ia, nI_toInt (by omega)] at cd
    have b := iz.mp (by omega)
    rw [bk, Bool.or_eq_false_iff] at b
    rw [if_neg (by rw [b.1, b.2]; simp)] at h
    have go := lp_steps (Q := Q) (a1 := nI (tP T la)) (a2 := nI la) (a3 := nI s) (a4 := nI ot) (a5 := nI k) (t := t) (L := L) (l := l) (G := G) hG hm (1 <<< tP T la) (shn T sh la) (br0 ||| ot) (lit T sh s ||| ot) (shn T sh la &&& cm br0 &&& cm ot) (tP T k) (one_lt lpl.2.1) (by rw [Nat.one_shiftLeft]; have := Nat.two_pow_pos (tP T la); omega) (by omega) lA24 lO24 hal how h _ 0 (nI (1 <<< tP T la)) 0 0 none rfl (Nat.zero_le _) rfl ?_ ?_ (fun j hj => by omega)
    · rw [← al6, ← own7, ← i8] at go
      refine And.intro (fun _ => ?_) (fun cd => absurd cd n9)
      refine And.intro (fun _ => ?_) (fun cd => absurd cd n9)
      have i9 : (1 : Int32) <<< (nI (tP T la) &&& 31) = nI (1 <<< tP T la) := by rw [k1, n_shl _ (by have := lpl.2.1; omega)]
      rw [← i9] at go
      exact go
    · show _ = nI ((1 <<< tP T la) &&& shn T sh la)
      congr 1
      apply Nat.eq_of_testBit_eq
      intro j
      rw [Nat.testBit_and, tb_one]
      by_cases q : tP T la = j
      · rw [← q, shn_self]; simp
      · simp [q]
    · show _ = nI ((1 <<< tP T la) &&& cm (shn T sh la))
      have : (1 <<< tP T la) &&& cm (shn T sh la) = 0 := by
        apply Nat.eq_of_testBit_eq
        intro j
        rw [tb_and_cm (w24 (one_lt (by have := lpl.2.1; omega))), tb_one, Nat.zero_testBit]
        by_cases q : tP T la = j
        · rw [← q, shn_self]; simp
        · simp [q]
      rw [this]
      rfl
  · rw [ia, nI_toInt (by omega)] at cd
    have b : (lit T sh s ||| ot).testBit (tP T k) = true := by
      cases e : (lit T sh s ||| ot).testBit (tP T k) with
      | true => rfl
      | false => exact absurd (by have := iz.mpr e; omega) cd
    rw [bk, Bool.or_eq_true] at b
    rw [if_pos b] at h
    exact h
end PS

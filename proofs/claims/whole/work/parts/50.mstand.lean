/-! the reference: steps of a round -/
def fr61 (js : List Nat) (I I' : am_I) : Prop := (∀ x, x ≠ 61 → I' x = I x) ∧ ∀ j, j ∉ js → I' 61 j = I 61 j
theorem fr61.refl (js : List Nat) (I : am_I) : fr61 js I I := ⟨fun _ _ => rfl, fun _ _ => rfl⟩
theorem fr61.u {js : List Nat} {I I' : am_I} (h : fr61 js I I') {j : Nat} {v : Int32} (hj : j ∈ js) : fr61 js I (am_u I' 61 j v) :=
  ⟨fun x hx => by rw [u_ne hx]; exact h.1 x hx, fun k hk => by rw [u_nj (fun e => hk (by rw [e]; exact hj))]; exact h.2 k hk⟩
theorem fr61.trans {js : List Nat} {I I' I'' : am_I} (h : fr61 js I I') (g : fr61 js I' I'') : fr61 js I I'' :=
  ⟨fun x hx => (g.1 x hx).trans (h.1 x hx), fun j hj => (g.2 j hj).trans (h.2 j hj)⟩
theorem fr61.mono {js ks : List Nat} {I I' : am_I} (h : fr61 js I I') (hs : ∀ x, x ∈ js → x ∈ ks) : fr61 ks I I' := ⟨h.1, fun j hj => h.2 j (fun q => hj (hs j q))⟩
theorem mT.f61 {T : tT} {js : List Nat} {I I' : am_I} (h : mT T I) (hf : fr61 js I I') (hj : ∀ j, 11 ≤ j → j ≤ 18 → j ∉ js) : mT T I' := by
  unfold mT at h ⊢
  rw [hf.2 11 (hj 11 (by decide) (by decide)), hf.2 12 (hj 12 (by decide) (by decide)), hf.2 13 (hj 13 (by decide) (by decide)), hf.2 14 (hj 14 (by decide) (by decide)), hf.2 15 (hj 15 (by decide) (by decide)), hf.2 16 (hj 16 (by decide) (by decide)), hf.2 17 (hj 17 (by decide) (by decide)), hf.2 18 (hj 18 (by decide) (by decide)), hf.1 66 (by decide), hf.1 67 (by decide), hf.1 68 (by decide)]
  exact h
theorem cor_self (T : tT) (c : Nat) : ∀ n, (cor T c n).testBit c = true
  | 0 => by show (1 <<< c).testBit c = true; rw [tb_one]; simp
  | n + 1 => by
    show (cor T c n ||| _).testBit c = true
    rw [Nat.testBit_or, cor_self T c n]
    rfl
theorem shn_self (T : tT) (sh k : Nat) : (shn T sh k).testBit (tP T k) = true := by
  unfold shn bare
  split
  · rw [tb_one]; simp
  · split
    · exact cor_self T _ _
    · unfold ln
      rw [Nat.testBit_or, tb_one]
      simp
theorem lit_self {T : tT} {sh s k : Nat} (hk : k < tN T) (h : s.testBit k = true) : (lit T sh s).testBit (tP T k) = true := by
  unfold lit
  rw [tb_orN]
  exact ⟨k, hk, by rw [if_pos h]; exact shn_self T sh k⟩
section SM
variable {G : am_G} {l : Launch} {t : am_T} {I : am_I} {L : am_J} {Q : bm_P}
theorem may1_some {T : tT} {sh : Nat} {s : sT} {w j : Nat} (h4 : ¬ w = 4) (e : nx T s.1 w = some j) : may1 T sh s w = !(lit T sh (barS s)).testBit j := by
  unfold may1
  rw [if_neg h4, e]
theorem may1_none {T : tT} {sh : Nat} {s : sT} {w : Nat} (h4 : ¬ w = 4) (e : nx T s.1 w = none) : may1 T sh s w = false := by
  unfold may1
  rw [if_neg h4, e]
theorem bI_ti (b : Bool) : (bI b).toInt = 0 ↔ b = false := by
  cases b
  · exact ⟨fun _ => rfl, fun _ => rfl⟩
  · exact ⟨fun h => absurd h (by decide), fun h => absurd h (by decide)⟩
theorem sm_mayDo {T : tT} {s : sT} {x : Int32} (sh w : Nat) (hx : x = nI w) (hw : w < 5) (hT : tOk T) (hm : mT T I) (hsh : I 61 19 = nI sh) (hs2 : sh < 2 ^ tN T) (hs : sM s 23 I) (hk : sOk T s) (h1 : may1 T sh s w = true → Q (some (.int 1)) t I L) (h0 : may1 T sh s w = false → Q (some (.int 0)) t I L) : bm_C G l 116 [.ref 61, .int x] t I L Q := by
  subst hx
  have h24 := hT.1.c24
  have n6 := hT.2.2.2.1
  have p6 := Nat.pow_le_pow_right (n := 2) (by decide) n6
  obtain ⟨g1, g2, g3, g4⟩ := id hk
  obtain ⟨s1, s2, s3, s4⟩ := id hs
  have s1 : I 61 23 = nI s.1 := s1
  have s2 : I 61 24 = nI s.2.1 := s2
  have s3 : I 61 25 = s.2.2.1 := s3
  have s4 : I 61 26 = bI s.2.2.2 := s4
  have bl := barS_lt hk
  have up31 : ∀ {a : Nat}, a < 2 ^ 24 → a < 2 ^ 31 := fun h => Nat.lt_trans h (by decide)
  have lb := up31 (lit_24 (Or.inl hT) sh (barS s))
  have ll := up31 (lit_24 (Or.inl hT) sh s.2.1)
  by_cases e4 : w = 4
  · subst e4
    have e5 : may1 T sh s 4 = ((lampO T s.1).isSome && !(lit T sh s.2.1).testBit s.1) := rfl
    have bit : nI (lit T sh s.2.1) >>> (I 61 23 &&& 31) &&& 1 = nI (if (lit T sh s.2.1).testBit s.1 then 1 else 0) := by
      rw [s1, n_bit ll (by omega)]
    refine bm_go (am_ok_all 116 (by decide)) 60 ?_
    first | refine And.intro (fun cd => absurd cd (by decide)) (fun _ => ?_) | refine And.intro (fun _ => ?_) (fun cd => absurd cd (by decide)) | refine And.intro (fun cd => ?_) (fun cd => ?_)
    refine sm_lampIn s.1 s1 (by omega) (Or.inl hT) hm (fun k hk e => ?_) (fun e => ?_)
    · rw [lampO_some hT hk e] at e5
      refine And.intro (fun cd => ?_) (fun cd => ?_)
      · have cd : (nI k).toInt = (-9 : Int32).toInt := cd
        rw [nI_toInt (by omega), Tm9] at cd
        omega
      · have b2 : I 61 24 >>> (nI k &&& 31) &&& 1 = nI (if s.2.1.testBit k then 1 else 0) := by
          rw [s2, n_bit (by omega) (by omega)]
        cases eb2 : s.2.1.testBit k with
        | true =>
          rw [eb2] at b2
          have := lit_self (sh := sh) hk eb2
          rw [e] at this
          refine And.intro (fun cd => ?_) (fun cd => ?_)
          · exact ⟨Or.inl rfl, h0 (by rw [e5, this]; rfl)⟩
          · rw [b2] at cd
            exact absurd cd (by decide)
        | false =>
          rw [eb2] at b2
          refine And.intro (fun cd => absurd (by rw [b2]; rfl) cd) (fun cd => ?_)
          refine sm_lightOf sh s.2.1 s2 (by omega) (Or.inl hT) hm hsh (by omega) ?_
          cases eb : (lit T sh s.2.1).testBit s.1 with
          | true =>
            rw [eb] at bit e5
            refine And.intro (fun cd => ⟨Or.inl rfl, h0 (by rw [e5]; rfl)⟩) (fun cd => ?_)
            rw [bit] at cd
            exact absurd cd (by decide)
          | false =>
            rw [eb] at bit e5
            refine And.intro (fun cd => absurd (by rw [bit]; rfl) cd) (fun cd => ⟨Or.inr rfl, h1 (by rw [e5]; rfl)⟩)
    · rw [lampO_none e] at e5
      refine And.intro (fun cd => ⟨Or.inl rfl, h0 (by rw [e5]; rfl)⟩) (fun cd => absurd rfl cd)
  · refine bm_go (am_ok_all 116 (by decide)) 60 ?_
    refine And.intro (fun cd => ?_) (fun cd => ?_)
    · refine sm_next s.1 w hT.1 hm s1 g1 rfl (by omega) ?_
      refine And.intro (fun cd => ?_) (fun cd => ?_)
      · have hi : s.2.2.2 = false := by
          have cd : (I 61 26).toInt = 0 := cd
          rw [s4] at cd
          exact (bI_ti _).mp cd
        have eb : barS s = s.2.1 := by unfold barS; rw [hi]; rfl
        refine sm_lightOf sh s.2.1 s2 (by omega) (Or.inl hT) hm hsh (by omega) ?_
        rw [← eb]
        cases e : nx T s.1 w with
        | none =>
          have e5 := may1_none (sh := sh) e4 e
          refine And.intro (fun cd => ⟨Or.inl rfl, h0 e5⟩) (fun cd => absurd rfl cd)
        | some j =>
          have e5 := may1_some (sh := sh) e4 e
          have hj := (nx_lt hT.1 e).1
          have bit : nI (lit T sh (barS s)) >>> (nI j &&& 31) &&& 1 = nI (if (lit T sh (barS s)).testBit j then 1 else 0) := n_bit lb (by omega)
          refine And.intro (fun cd => ?_) (fun cd => ?_)
          · have cd : (nI j).toInt = (-9 : Int32).toInt := cd
            rw [nI_toInt (by omega), Tm9] at cd
            omega
          · cases eb : (lit T sh (barS s)).testBit j with
            | true =>
              rw [eb] at bit e5
              refine And.intro (fun cd => ⟨Or.inl rfl, h0 e5⟩) (fun cd => ?_)
              have cd : (nI (lit T sh (barS s)) >>> (nI j &&& 31) &&& 1).toInt = 0 := cd
              rw [bit] at cd
              exact absurd cd (by decide)
            | false =>
              rw [eb] at bit e5
              refine And.intro (fun cd => ?_) (fun cd => ⟨Or.inr rfl, h1 e5⟩)
              have cd : ¬ (nI (lit T sh (barS s)) >>> (nI j &&& 31) &&& 1).toInt = 0 := cd
              rw [bit] at cd
              exact absurd rfl cd
      · have hi : s.2.2.2 = true := by
          cases q : s.2.2.2 with
          | true => rfl
          | false =>
            have cd : ¬ (I 61 26).toInt = 0 := cd
            rw [s4, q] at cd
            exact absurd rfl cd
        obtain ⟨b1, b2, b3⟩ := bar_un hT hk hi
        refine sm_lightOf sh (barS s) (by rw [s2, s3]; exact b1) (by omega) (Or.inl hT) hm hsh (by omega) ?_
        cases e : nx T s.1 w with
        | none =>
          have e5 := may1_none (sh := sh) e4 e
          refine And.intro (fun cd => ⟨Or.inl rfl, h0 e5⟩) (fun cd => absurd rfl cd)
        | some j =>
          have e5 := may1_some (sh := sh) e4 e
          have hj := (nx_lt hT.1 e).1
          have bit : nI (lit T sh (barS s)) >>> (nI j &&& 31) &&& 1 = nI (if (lit T sh (barS s)).testBit j then 1 else 0) := n_bit lb (by omega)
          refine And.intro (fun cd => ?_) (fun cd => ?_)
          · have cd : (nI j).toInt = (-9 : Int32).toInt := cd
            rw [nI_toInt (by omega), Tm9] at cd
            omega
          · cases eb : (lit T sh (barS s)).testBit j with
            | true =>
              rw [eb] at bit e5
              refine And.intro (fun cd => ⟨Or.inl rfl, h0 e5⟩) (fun cd => ?_)
              have cd : (nI (lit T sh (barS s)) >>> (nI j &&& 31) &&& 1).toInt = 0 := cd
              rw [bit] at cd
              exact absurd cd (by decide)
            | false =>
              rw [eb] at bit e5
              refine And.intro (fun cd => ?_) (fun cd => ⟨Or.inr rfl, h1 e5⟩)
              have cd : ¬ (nI (lit T sh (barS s)) >>> (nI j &&& 31) &&& 1).toInt = 0 := cd
              rw [bit] at cd
              exact absurd rfl cd
    · rw [nI_toInt (by omega), T4] at cd
      omega
theorem sm_mays {T : tT} {s : sT} (sh : Nat) (hT : tOk T) (hm : mT T I) (hsh : I 61 19 = nI sh) (hs2 : sh < 2 ^ tN T) (hs : sM s 23 I) (hk : sOk T s) (h : Q (some (.int (nI (mayN T sh s)))) t I L) : bm_C G l 118 [.ref 61] t I L Q := by
  have lp : ∀ d w m y, 5 - w = d → w ≤ 5 → y = nI w → m = nI (bO w (may1 T sh s)) → bm_W G l 118 4 [some (.ref 61), some (.int m), some (.int y)] [] t I L Q := by
    intro d
    induction d with
    | zero =>
      intro w m y hd hw hy hm
      obtain rfl : w = 5 := by omega
      subst hy hm
      refine bm_go (am_ok_all 118 (by decide)) 40 ?_
      exact And.intro (fun _ => h) (fun cd => absurd cd (by decide))
    | succ d ih =>
      intro w m y hd hw hy hmm
      subst hy hmm
      refine bm_go (am_ok_all 118 (by decide)) 40 ?_
      refine And.intro (fun cd => ?_) (fun cd => ?_)
      · simp (disch := omega) only [nI_toInt, T0, T1, T2, T3, T4, T5, T6, T7, T8, T9, T10, T15, T24, T32, T48, T60, T63, T64, T80, T200, T384, T1000, TN, TP, Tm1, Tm9] at cd
        omega
      · refine sm_mayDo sh w rfl (by omega) hT hm hsh hs2 hs hk (fun e => ?_) (fun e => ?_)
        · first | refine And.intro (fun cd => absurd cd (by decide)) (fun _ => ?_) | refine And.intro (fun _ => ?_) (fun cd => absurd cd (by decide)) | refine And.intro (fun cd => ?_) (fun cd => ?_)
          refine ih (w + 1) _ _ (by omega) (by omega) (nI_succ w).symm ?_
          rw [bO_s, e, shl1 (by omega), n_or]
          rfl
        · first | refine And.intro (fun cd => absurd cd (by decide)) (fun _ => ?_) | refine And.intro (fun _ => ?_) (fun cd => absurd cd (by decide)) | refine And.intro (fun cd => ?_) (fun cd => ?_)
          refine ih (w + 1) _ _ (by omega) (by omega) (nI_succ w).symm ?_
          rw [bO_s, e, k0, n_or]
          rfl
  refine bm_go (am_ok_all 118 (by decide)) 40 ?_
  exact lp 5 0 _ _ rfl (by omega) rfl rfl
theorem sm_does {T : tT} {s : sT} {x : Int32} (sh w : Nat) (hx : x = nI w) (hT : tOk T) (hm : mT T I) (hsh : I 61 19 = nI sh) (hs2 : sh < 2 ^ tN T) (hs : sM s 23 I) (hk : sOk T s) (hw : gOk T s.1 w) (h : ∀ I', fr61 [23, 24, 25, 26] I I' → sM (do1 T sh s w) 23 I' → Q none t I' L) : bm_C G l 117 [.ref 61, .int x] t I L Q := by
  subst hx
  have h24 := hT.1.c24
  have n6 := hT.2.2.2.1
  have p6 := Nat.pow_le_pow_right (n := 2) (by decide) n6
  obtain ⟨g1, g2, g3, g4⟩ := id hk
  obtain ⟨s1, s2, s3, s4⟩ := id hs
  have s1 : I 61 23 = nI s.1 := s1
  have s2 : I 61 24 = nI s.2.1 := s2
  have s3 : I 61 25 = s.2.2.1 := s3
  have s4 : I 61 26 = bI s.2.2.2 := s4
  unfold gOk at hw
  by_cases e4 : w = 4
  · subst e4
    rw [if_pos rfl] at hw
    refine bm_go (am_ok_all 117 (by decide)) 60 ?_
    first | refine And.intro (fun cd => absurd cd (by decide)) (fun _ => ?_) | refine And.intro (fun _ => ?_) (fun cd => absurd cd (by decide)) | refine And.intro (fun cd => ?_) (fun cd => ?_)
    refine sm_lampIn s.1 s1 (by omega) (Or.inl hT) hm (fun k hk e => ?_) (fun e => ?_)
    · refine ⟨Or.inr rfl, ?_⟩
      refine h _ ((((fr61.refl _ _).u (by decide)).u (by decide)).u (by decide)) ?_
      have ed : do1 T sh s 4 = (s.1, s.2.1 ||| 1 <<< k, nI k, true) := by
        unfold do1
        rw [if_pos rfl, lampO_some hT hk e]
      rw [ed]
      refine ⟨s1, ?_, rfl, rfl⟩
      show I 61 24 ||| (1 : Int32) <<< (nI k &&& 31) = _
      rw [s2, shl1 (by omega), n_or]
    · rw [lampO_none e] at hw
      cases hw
  · rw [if_neg e4] at hw
    obtain ⟨hw4, hw⟩ := hw
    obtain ⟨j, ej⟩ := Option.isSome_iff_exists.mp hw
    have hj := (nx_lt hT.1 ej).1
    have ed : do1 T sh s w = (j, s.2.1, s.2.2.1, s.2.2.2 && (shn T sh (un s.2.2.1)).testBit j) := by
      unfold do1
      rw [if_neg e4, ej]
    rw [ed] at h
    refine bm_go (am_ok_all 117 (by decide)) 60 ?_
    refine And.intro (fun cd => ?_) (fun cd => ?_)
    · refine sm_next s.1 w hT.1 hm s1 g1 rfl hw4 ?_
      rw [ej]
      refine And.intro (fun cd => ?_) (fun cd => ?_)
      · have hi : s.2.2.2 = false := by
          have cd : (I 61 26).toInt = 0 := cd
          rw [s4] at cd
          exact (bI_ti _).mp cd
        refine ⟨Or.inl rfl, ?_⟩
        refine h _ (((fr61.refl _ _).u (by decide)).u (by decide)) ?_
        rw [hi]
        exact ⟨rfl, s2, s3, rfl⟩
      · have hi : s.2.2.2 = true := by
          cases q : s.2.2.2 with
          | true => rfl
          | false =>
            have cd : ¬ (I 61 26).toInt = 0 := cd
            rw [s4, q] at cd
            exact absurd rfl cd
        obtain ⟨b1, b2, b3⟩ := bar_un hT hk hi
        rw [hi] at h
        simp only [Bool.true_and] at h
        generalize un s.2.2.1 = k at *
        have hsl := up24 hT.1 (shn_lt hT.1 (sh := sh) (hT.2.2.2.2.1 k b2).2.1)
        have hm' : mT T (am_u I 61 23 (eM (some j))) := hm.f61 ((fr61.refl [23] I).u (by decide)) (fun j h1 h2 => by simp; omega)
        refine sm_shine sh k (show I 61 25 = _ by rw [s3, b3]) hT hm' hsh (by omega) b2 ?_
        have bit : nI (shn T sh k) >>> (nI j &&& 31) &&& 1 = nI (if (shn T sh k).testBit j then 1 else 0) := n_bit (Nat.lt_trans hsl (by decide)) (by omega)
        cases eb : (shn T sh k).testBit j with
        | true =>
          rw [eb] at bit h
          refine And.intro (fun cd => absurd (by show (nI (shn T sh k) >>> (nI j &&& 31) &&& 1).toInt = _; rw [bit]; rfl) cd) (fun cd => ?_)
          refine ⟨Or.inr rfl, ?_⟩
          exact h _ (((fr61.refl _ _).u (by decide)).u (by decide)) ⟨rfl, s2, s3, rfl⟩
        | false =>
          rw [eb] at bit h
          refine And.intro (fun cd => ?_) (fun cd => ?_)
          · refine ⟨Or.inl rfl, ?_⟩
            exact h _ (((fr61.refl _ _).u (by decide)).u (by decide)) ⟨rfl, s2, s3, rfl⟩
          · have cd : (nI (shn T sh k) >>> (nI j &&& 31) &&& 1).toInt = Int32.toInt 1 := cd
            rw [bit] at cd
            exact absurd cd (by decide)
    · rw [nI_toInt (by omega), T4] at cd
      omega
theorem sm_marks (h : ∀ I', fr61 [29, 30, 31, 32] I I' → I' 61 29 = I 61 23 → I' 61 30 = I 61 24 → I' 61 31 = I 61 25 → I' 61 32 = I 61 26 → Q none t I' L) (hz : I 61 26 = 0 ∨ I 61 26 = 1) : bm_C G l 113 [.ref 61] t I L Q := by
  refine bm_go (am_ok_all 113 (by decide)) 40 ?_
  refine ⟨hz, ?_⟩
  exact h _ (((((fr61.refl _ _).u (by decide)).u (by decide)).u (by decide)).u (by decide)) rfl rfl rfl rfl
theorem sm_back (h : ∀ I', fr61 [23, 24, 25, 26] I I' → I' 61 23 = I 61 29 → I' 61 24 = I 61 30 → I' 61 25 = I 61 31 → I' 61 26 = I 61 32 → Q none t I' L) (hz : I 61 32 = 0 ∨ I 61 32 = 1) : bm_C G l 114 [.ref 61] t I L Q := by
  refine bm_go (am_ok_all 114 (by decide)) 40 ?_
  refine ⟨hz, ?_⟩
  exact h _ (((((fr61.refl _ _).u (by decide)).u (by decide)).u (by decide)).u (by decide)) rfl rfl rfl rfl
theorem sm_begins (h : ∀ I', fr61 [23, 24, 25, 26, 27, 29, 30, 31, 32] I I' → I' 61 23 = I 61 15 → I' 61 24 = 0 → I' 61 25 = -9 → I' 61 26 = 0 → I' 61 27 = 0 → I' 61 29 = I 61 15 → I' 61 30 = 0 → I' 61 31 = -9 → I' 61 32 = 0 → Q none t I' L) : bm_C G l 112 [.ref 61] t I L Q := by
  refine bm_go (am_ok_all 112 (by decide)) 40 ?_
  refine ⟨Or.inl rfl, ?_⟩
  refine sm_marks (fun I' f a b c d => ?_) (Or.inl rfl)
  have f0 : fr61 [23, 24, 25, 26, 27, 29, 30, 31, 32] I (am_u (am_u (am_u (am_u (am_u I 61 23 (I 61 15)) 61 24 0) 61 25 (-9)) 61 26 0) 61 27 0) := ((((((fr61.refl _ _).u (by decide)).u (by decide)).u (by decide)).u (by decide)).u (by decide))
  refine h I' (f0.trans (f.mono (by decide))) ?_ ?_ ?_ ?_ ?_ a b c d
  · rw [f.2 23 (by decide)]; rfl
  · rw [f.2 24 (by decide)]; rfl
  · rw [f.2 25 (by decide)]; rfl
  · rw [f.2 26 (by decide)]; rfl
  · rw [f.2 27 (by decide)]; rfl
end SM

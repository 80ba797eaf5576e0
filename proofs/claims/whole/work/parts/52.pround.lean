/-! pairs: begin, act, undo -/
theorem may_gOk {T : tT} {sh : Nat} {s : sT} {w : Nat} (hw : w < 5) (h : may1 T sh s w = true) : gOk T s.1 w := by
  unfold gOk
  by_cases e : w = 4
  · rw [if_pos e]
    unfold may1 at h
    rw [if_pos e, Bool.and_eq_true] at h
    exact h.1
  · rw [if_neg e]
    refine ⟨by omega, ?_⟩
    cases e2 : nx T s.1 w with
    | none =>
      rw [may1_none e e2] at h
      cases h
    | some j => rfl
theorem do1_go {T : tT} (sh : Nat) {s : sT} {w : Nat} (h : gOk T s.1 w) : sGo T s.1 w (do1 T sh s w).1 := by
  unfold gOk at h
  unfold sGo do1
  by_cases e : w = 4
  · rw [if_pos e] at h
    rw [if_pos e]
    obtain ⟨k, ek⟩ := Option.isSome_iff_exists.mp h
    rw [ek]
    exact Or.inr ⟨e, rfl, k, lampO_spec ek⟩
  · rw [if_neg e] at h
    rw [if_neg e]
    obtain ⟨j, ej⟩ := Option.isSome_iff_exists.mp h.2
    rw [ej]
    exact Or.inl ⟨h.1, rfl⟩
theorem sGo_ok {T : tT} (hT : tOk T) {p w p' : Nat} (h : sGo T p w p') : gOk T p w ∧ w < 5 := by
  unfold gOk
  rcases h with ⟨h1, h2⟩ | ⟨h1, h2, k, hk, e⟩
  · rw [if_neg (by omega), h2]
    exact ⟨⟨h1, rfl⟩, by omega⟩
  · rw [if_pos h1, lampO_some hT hk e]
    exact ⟨rfl, by omega⟩
theorem sGo_fst {T : tT} {sh : Nat} {s : sT} {w p' : Nat} (h : sGo T s.1 w p') : (do1 T sh s w).1 = p' := by
  unfold do1
  rcases h with ⟨h1, h2⟩ | ⟨h1, h2, k, hk, e⟩
  · rw [if_neg (by omega), h2]
  · rw [if_pos h1]
    split
    · exact h2.symm
    · exact h2.symm
/-- a round told by steps -/
def runS (T : tT) (sh : Nat) (b : sT) (a : Nat → Nat) : Nat → sT
  | 0 => b
  | i + 1 => do1 T sh (runS T sh b a i) (a i)
theorem runS_ok {T : tT} (hT : tOk T) (sh : Nat) {b : sT} (hb : sOk T b) (a : Nat → Nat) : ∀ i, sOk T (runS T sh b a i)
  | 0 => hb
  | i + 1 => do1_ok hT (runS_ok hT sh hb a i) _
theorem runS_p {T : tT} (sh : Nat) {b : sT} {a p : Nat → Nat} {d : Nat} (h0 : p 0 = b.1) (h : ∀ i, i < d → sGo T (p i) (a i) (p (i + 1))) : ∀ i, i ≤ d → (runS T sh b a i).1 = p i
  | 0, _ => h0.symm
  | i + 1, hi => by
    have ih := runS_p sh h0 h i (by omega)
    have := h i (by omega)
    rw [← ih] at this
    exact sGo_fst this
section PD
variable {G : am_G} {l : Launch} {t : am_T} {I : am_I} {L : am_J} {Q : bm_P}
theorem sp_beginLike_18 {s : sT} (hs : sC s 18 I) (h : ∀ I', frN [16, 17, 18] I I' → sC s 17 I' → sC s 18 I' → I' 16 1 = 0 → Q none t I' L) : bm_C G l 215 [.ref 16, .ref 18] t I L Q := by
  refine bm_go (am_ok_all 215 (by decide)) 40 ?_
  refine sp_like_18_18 (fun I1 f1 e1 => ?_) hs.z
  have s18 : sC s 18 I1 := hs.like e1
  have sc1 : sC s 18 I1 := by
    first
      | exact s18
      | (unfold sC at hs ⊢
         rw [f1 18 (by decide)]
         exact hs)
  refine sp_like_17_18 (fun I2 f2 e2 => ?_) sc1.z
  have s17 : sC s 17 I2 := sc1.like e2
  have s18' : sC s 18 I2 := by
    unfold sC at s18 ⊢
    rw [f2 18 (by decide)]
    exact s18
  refine h _ (((f1.mono (by decide)).trans (f2.mono (by decide))).u (by decide)) s17 s18' rfl
theorem sp_beginLike_58 {s : sT} (hs : sC s 58 I) (h : ∀ I', frN [16, 17, 18] I I' → sC s 17 I' → sC s 18 I' → I' 16 1 = 0 → Q none t I' L) : bm_C G l 215 [.ref 16, .ref 58] t I L Q := by
  refine bm_go (am_ok_all 215 (by decide)) 40 ?_
  refine sp_like_18_58 (fun I1 f1 e1 => ?_) hs.z
  have s18 : sC s 18 I1 := hs.like e1
  have sc1 : sC s 58 I1 := by
    first
      | exact s18
      | (unfold sC at hs ⊢
         rw [f1 58 (by decide)]
         exact hs)
  refine sp_like_17_58 (fun I2 f2 e2 => ?_) sc1.z
  have s17 : sC s 17 I2 := sc1.like e2
  have s18' : sC s 18 I2 := by
    unfold sC at s18 ⊢
    rw [f2 18 (by decide)]
    exact s18
  refine h _ (((f1.mono (by decide)).trans (f2.mono (by decide))).u (by decide)) s17 s18' rfl
theorem sp_beginLike_59 {s : sT} (hs : sC s 59 I) (h : ∀ I', frN [16, 17, 18] I I' → sC s 17 I' → sC s 18 I' → I' 16 1 = 0 → Q none t I' L) : bm_C G l 215 [.ref 16, .ref 59] t I L Q := by
  refine bm_go (am_ok_all 215 (by decide)) 40 ?_
  refine sp_like_18_59 (fun I1 f1 e1 => ?_) hs.z
  have s18 : sC s 18 I1 := hs.like e1
  have sc1 : sC s 59 I1 := by
    first
      | exact s18
      | (unfold sC at hs ⊢
         rw [f1 59 (by decide)]
         exact hs)
  refine sp_like_17_59 (fun I2 f2 e2 => ?_) sc1.z
  have s17 : sC s 17 I2 := sc1.like e2
  have s18' : sC s 18 I2 := by
    unfold sC at s18 ⊢
    rw [f2 18 (by decide)]
    exact s18
  refine h _ (((f1.mono (by decide)).trans (f2.mono (by decide))).u (by decide)) s17 s18' rfl
theorem sp_beginLike_60 {s : sT} (hs : sC s 60 I) (h : ∀ I', frN [16, 17, 18] I I' → sC s 17 I' → sC s 18 I' → I' 16 1 = 0 → Q none t I' L) : bm_C G l 215 [.ref 16, .ref 60] t I L Q := by
  refine bm_go (am_ok_all 215 (by decide)) 40 ?_
  refine sp_like_18_60 (fun I1 f1 e1 => ?_) hs.z
  have s18 : sC s 18 I1 := hs.like e1
  have sc1 : sC s 60 I1 := by
    first
      | exact s18
      | (unfold sC at hs ⊢
         rw [f1 60 (by decide)]
         exact hs)
  refine sp_like_17_60 (fun I2 f2 e2 => ?_) sc1.z
  have s17 : sC s 17 I2 := sc1.like e2
  have s18' : sC s 18 I2 := by
    unfold sC at s18 ⊢
    rw [f2 18 (by decide)]
    exact s18
  refine h _ (((f1.mono (by decide)).trans (f2.mono (by decide))).u (by decide)) s17 s18' rfl
theorem sp_beginAt {x : Int32} (d : Nat) (hx : x = nI d) (h : ∀ I', frN [16, 17, 18] I I' → sC (d, 0, -9, false) 17 I' → sC (d, 0, -9, false) 18 I' → I' 16 1 = 0 → Q none t I' L) : bm_C G l 214 [.ref 16, .int x] t I L Q := by
  refine bm_go (am_ok_all 214 (by decide)) 40 ?_
  refine sp_beginAt_18 d hx (fun I1 f1 s1 => ?_)
  refine sp_beginLike_18 s1 (fun I2 f2 s2 s3 e => ?_)
  exact h I2 ((f1.mono (by decide)).trans f2) s2 s3 e
theorem InvG.new {T : tT} {I : am_I} (hT : tOk T) (h17 : sC (tD T, 0, -9, false) 17 I) (h18 : sC (tD T, 0, -9, false) 18 I) (h16 : I 16 1 = 0) (m1 : I 61 23 = nI (tD T)) (m2 : I 61 24 = 0) (m3 : I 61 25 = -9) (m4 : I 61 26 = 0) (m5 : I 61 27 = 0) (m6 : I 61 29 = nI (tD T)) (m7 : I 61 30 = 0) (m8 : I 61 31 = -9) (m9 : I 61 32 = 0) : InvG T I := by
  have ok : sOk T (tD T, 0, -9, false) := ⟨hT.2.1, hT.2.2.1, Nat.two_pow_pos _, fun h => by cases h⟩
  exact ⟨(tD T, 0, -9, false), (tD T, 0, -9, false), 0, fun _ => tD T, fun _ => 0, ok, ok, h17, ⟨m1, m2, m3, m4⟩, ⟨m6, m7, m8, m9⟩, h18, by omega, h16, m5, rfl, rfl, fun i hi => by omega⟩
theorem pair_begin (h : Inv t I L) : bm_C G l 17 [.ref 0] t I L (pI G l 115 [.ref 61]) := by
  obtain ⟨T, sh, hc, hm, hs, a1, a2, hL, a4, hK, hS, hO, hG⟩ := h.2.2
  have hT := InvX.ok hG
  refine bm_go (am_ok_all 17 (by decide)) 40 ?_
  rcases cz hc.2.1 hT with ⟨c0, he⟩ | ⟨c0, hok⟩
  · refine And.intro (fun cd => absurd c0 cd) (fun _ => ?_)
    refine ⟨_, rfl, ?_⟩
    refine bm_go (am_ok_all 115 (by decide)) 40 ?_
    refine And.intro (fun cd => ?_) (fun _ => ⟨rfl, h⟩)
    rw [hm.2.2.1, ← hc.2.1] at cd
    exact absurd c0 cd
  · refine And.intro (fun _ => ?_) (fun cd => absurd cd c0)
    refine sp_beginAt (tD T) hc.2.2.1 (fun I1 f1 s1 s2 e1 => ?_)
    have ag1 := f1.agH (by decide) (by decide)
    have hm1 := hm.agH ag1
    have hc1 := hc.agH ag1
    refine ⟨_, rfl, ?_⟩
    refine bm_go (am_ok_all 115 (by decide)) 40 ?_
    refine And.intro (fun _ => ?_) (fun cd => ?_)
    · refine sm_begins (fun I2 f2 m1 m2 m3 m4 m5 m6 m7 m8 m9 => ?_)
      have ag2 := ag1.trans (f2.agH (by decide))
      have e15 : I1 61 15 = nI (tD T) := hm1.2.2.2.2.1
      rw [e15] at m1 m6
      refine ⟨by show some (Value.int (I2 61 23)) = some (Value.int (I1 7 2)); rw [m1, hc1.2.2.1], Inv.rd h.1 h.2.1 hc hm hs a1 a2 hL a4 hK hS hO ag2 (Or.inl ⟨hok, InvG.new hok ?_ ?_ ?_ m1 m2 m3 m4 m5 m6 m7 m8 m9⟩)⟩
      · unfold sC at s1 ⊢
        rw [f2.1 17 (by decide)]
        exact s1
      · unfold sC at s2 ⊢
        rw [f2.1 18 (by decide)]
        exact s2
      · rw [f2.1 16 (by decide)]
        exact e1
    · rw [hm1.2.2.1, ← hc.2.1] at cd
      exact absurd cd c0
theorem sGo_lt {T : tT} {p w p' : Nat} (h : sGo T p w p') : w < 5 := by
  rcases h with ⟨h1, -⟩ | ⟨h1, -⟩ <;> omega
theorem pair_act {x : Int32} (h : Inv t I L) : bm_C G l 19 [.ref 0, .int x] t I L (pI G l 120 [.ref 61, .int x]) := by
  obtain ⟨T, sh, hc, hm, hs, a1, a2, hL, a4, hK, hS, hO, hG⟩ := h.2.2
  have hT := InvX.ok hG
  have n6 := hT.n6
  have bad : (x.toInt < 0 ∨ 4 < x.toInt) → bm_C G l 120 [.ref 61, .int x] t I L (fun v' t I L => v' = some (.int (-1)) ∧ Inv t I L) := by
    intro q
    refine bm_go (am_ok_all 120 (by decide)) 40 ?_
    refine sm_in x.toInt 0 4 (i64 x) rfl rfl (fun a b => by omega) (fun a => ?_)
    first | refine And.intro (fun cd => absurd cd (by decide)) (fun _ => ?_) | refine And.intro (fun _ => ?_) (fun cd => absurd cd (by decide)) | refine And.intro (fun cd => ?_) (fun cd => ?_)
    exact ⟨rfl, h⟩
  refine bm_go (am_ok_all 19 (by decide)) 60 ?_
  refine And.intro (fun cd => ⟨_, rfl, bad (by omega)⟩) (fun cd => ?_)
  refine And.intro (fun c2 => ?_) (fun c2 => ⟨_, rfl, bad (by rw [T4] at c2; omega)⟩)
  rw [T4] at c2
  have hx := of_nn cd
  have hxr : x.toInt = (x.toInt.toNat : Int) := by omega
  generalize x.toInt.toNat = w at hx hxr
  rcases cz hc.2.1 hT with ⟨c0, he⟩ | ⟨c0, hok⟩
  · refine And.intro (fun _ => ?_) (fun cd => absurd c0 cd)
    refine ⟨_, rfl, ?_⟩
    refine bm_go (am_ok_all 120 (by decide)) 40 ?_
    refine sm_in x.toInt 0 4 (i64 x) rfl rfl (fun y1 y2 => ?_) (fun y1 => by omega)
    first | refine And.intro (fun cd => absurd cd (by decide)) (fun _ => ?_) | refine And.intro (fun _ => ?_) (fun cd => absurd cd (by decide)) | refine And.intro (fun cd => ?_) (fun cd => ?_)
    refine And.intro (fun _ => ⟨rfl, h⟩) (fun cd => ?_)
    rw [hm.2.2.1, ← hc.2.1] at cd
    exact absurd c0 cd
  · obtain ⟨n, b, d, p, a, n1, b1, n2, n3, n4, n5, n6', n7, n8, n9, n10, n11⟩ := hGk hok hG
    have mlt : mayN T sh n < 2 ^ 5 := bO_lt _ _
    have e23 : I 61 23 = nI n.1 := n3.1
    have m0 : ¬ (I 61 13).toInt = 0 := by rw [hm.2.2.1, ← hc.2.1]; exact c0
    have d27 : (I 61 27).toInt = (d : Int) := by rw [n8]; exact nI_toInt (by omega)
    have d16 : (I 16 1).toInt = (d : Int) := by rw [n7]; exact nI_toInt (by omega)
    refine And.intro (fun cd => absurd cd c0) (fun _ => ?_)
    refine sp_allowed_17 (s := n) sh hok hc hL n2 n1 ?_
    have emay : (mayN T sh n).testBit w = may1 T sh n w := by
      unfold mayN
      rw [tb_bO]
      simp
      omega
    refine sp_isIn (mayN T sh n) w rfl hx (by omega) (by omega) (fun e => ?_) (fun e => ?_)
    · rw [emay] at e
      first | refine And.intro (fun cd => absurd cd (by decide)) (fun _ => ?_) | refine And.intro (fun _ => ?_) (fun cd => absurd cd (by decide)) | refine And.intro (fun cd => ?_) (fun cd => ?_)
      refine And.intro (fun c3 => ?_) (fun c3 => ?_)
      · rw [T200] at c3
        refine bm_go (am_ok_all 216 (by decide)) 60 ?_
        refine And.intro (fun c4 => absurd (show (I 16 1).toInt < 0 from c4) (by omega)) (fun _ => ?_)
        refine And.intro (fun c4 => absurd (show (200 : Int32).toInt ≤ (I 16 1).toInt from c4) (by rw [T200]; omega)) (fun _ => ?_)
        refine ⟨d, d16, (by omega : d < 200), ?_⟩
        have f0 : frN [16, 19] I (am_u (am_u I 19 d x) 16 1 (am_u I 19 d x 16 1 + 1)) := ((frN.refl _ _).u (by decide)).u (by decide)
        have ag0 := f0.agH (by decide) (by decide)
        have n2' : sC n 17 (am_u (am_u I 19 d x) 16 1 (am_u I 19 d x 16 1 + 1)) := n2
        refine sp_carry_17 (s := n) sh w hx hok (hc.agH ag0) (hL.agH ag0) n2' n1 (may_gOk (by omega) e) (fun I1 f1 s1 => ?_)
        have ag1 := ag0.trans (f1.agH (by decide) (by decide))
        have hm1 := hm.agH ag1
        have k1 : sOk T (do1 T sh n w) := do1_ok hok n1 w
        refine ⟨_, rfl, ?_⟩
        have r61 : ∀ j, I1 61 j = I 61 j := fun j => by rw [f1 61 (by decide)]; rfl
        have a2' : I1 61 19 = nI sh := by rw [r61]; exact a2
        have n3' : sM n 23 I1 := by
          unfold sM at n3 ⊢
          rw [r61, r61, r61, r61]
          exact n3
        have d27' : (I1 61 27).toInt = (d : Int) := by rw [r61]; exact d27
        refine bm_go (am_ok_all 120 (by decide)) 60 ?_
        refine sm_in x.toInt 0 4 (i64 x) rfl rfl (fun y1 y2 => ?_) (fun y1 => by omega)
        first | refine And.intro (fun cd => absurd cd (by decide)) (fun _ => ?_) | refine And.intro (fun _ => ?_) (fun cd => absurd cd (by decide)) | refine And.intro (fun cd => ?_) (fun cd => ?_)
        refine And.intro (fun cd => ?_) (fun _ => ?_)
        · rw [r61] at cd
          exact absurd cd m0
        refine sm_mayDo (s := n) sh w hx (by omega) hok hm1 a2' hs n3' n1 (fun _ => ?_) (fun e2 => by rw [e] at e2; cases e2)
        first | refine And.intro (fun cd => absurd cd (by decide)) (fun _ => ?_) | refine And.intro (fun _ => ?_) (fun cd => absurd cd (by decide)) | refine And.intro (fun cd => ?_) (fun cd => ?_)
        refine And.intro (fun _ => ?_) (fun cd => ?_)
        · refine sm_does (s := n) sh w hx hok hm1 a2' hs n3' n1 (may_gOk (by omega) e) (fun I2 f2 s2 => ?_)
          have d27'' : (I2 61 27).toInt = (d : Int) := by rw [f2.2 27 (by decide)]; exact d27'
          refine ⟨d, d27'', (by omega : d < 200), ?_⟩
          have ag2 := ag1.trans (f2.agH (by decide))
          have ag3 : agH I (am_u (am_u I2 69 d x) 61 27 (am_u I2 69 d x 61 27 + 1)) := (ag2.u (by decide)).u61 (by decide)
          have q23 : I2 61 23 = nI (do1 T sh n w).1 := s2.1
          refine ⟨?_, Inv.rd h.1 h.2.1 hc hm hs a1 a2 hL a4 hK hS hO ag3 (Or.inl ⟨hok, ?_⟩)⟩
          · show some (Value.int (I2 61 23)) = some (Value.int (I1 17 0))
            rw [q23, s1.1]
          · have go1 := do1_go sh (may_gOk (by omega) e)
            refine ⟨do1 T sh n w, b, d + 1, fun i => if i ≤ d then p i else (do1 T sh n w).1, fun i => if i < d then a i else w, k1, b1, ?_, ?_, ?_, ?_, by omega, ?_, ?_, ?_, ?_, fun i hi => ?_⟩
            · unfold sC at s1 ⊢
              rw [u_ne (by decide), u_ne (by decide), f2.1 17 (by decide)]
              exact s1
            · unfold sM at s2 ⊢
              exact s2
            · show I2 61 29 = _ ∧ I2 61 30 = _ ∧ I2 61 31 = _ ∧ I2 61 32 = _
              rw [f2.2 29 (by decide), f2.2 30 (by decide), f2.2 31 (by decide), f2.2 32 (by decide), r61, r61, r61, r61]
              exact n4
            · unfold sC at n5 ⊢
              rw [u_ne (by decide), u_ne (by decide), f2.1 18 (by decide), f1 18 (by decide), f0 18 (by decide)]
              exact n5
            · rw [u_ne (by decide), u_ne (by decide), f2.1 16 (by decide), f1 16 (by decide)]
              show I 16 1 + 1 = _
              rw [n7, nI_succ]
            · show I2 61 27 + 1 = _
              rw [f2.2 27 (by decide), r61, n8, nI_succ]
            · show (if 0 ≤ d then p 0 else _) = _
              rw [if_pos (by omega)]
              exact n9
            · show (if d + 1 ≤ d then _ else _) = _
              rw [if_neg (by omega)]
            · rw [u_ne (show 19 ≠ 61 by decide), u_ne (show 19 ≠ 69 by decide), f2.1 19 (by decide), f1 19 (by decide), u_ne (show 19 ≠ 16 by decide), u_ne (show 69 ≠ 61 by decide)]
              by_cases ei : i = d
              · subst ei
                refine ⟨?_, ?_, ?_⟩
                · show sGo T (if i ≤ i then p i else _) (if i < i then a i else w) (if i + 1 ≤ i then _ else _)
                  rw [if_pos (by omega), if_neg (by omega), if_neg (by omega), n10]
                  exact go1
                · show _ = nI (if i < i then a i else w)
                  rw [if_neg (by omega), u_eq, hx]
                · show _ = nI (if i < i then a i else w)
                  rw [if_neg (by omega), u_eq, hx]
              · obtain ⟨z1, z2, z3⟩ := n11 i (by omega)
                refine ⟨?_, ?_, ?_⟩
                · show sGo T (if i ≤ d then p i else _) (if i < d then a i else w) (if i + 1 ≤ d then _ else _)
                  rw [if_pos (by omega), if_pos (by omega), if_pos (by omega)]
                  exact z1
                · show _ = nI (if i < d then a i else w)
                  rw [if_pos (by omega), u_nj ei]
                  exact z2
                · show _ = nI (if i < d then a i else w)
                  rw [if_pos (by omega), u_nj ei, f2.1 69 (by decide), f1 69 (by decide), f0 69 (by decide)]
                  exact z3
        · rw [T200] at cd
          omega
      · rw [T200] at c3
        refine ⟨_, rfl, ?_⟩
        refine bm_go (am_ok_all 120 (by decide)) 60 ?_
        refine sm_in x.toInt 0 4 (i64 x) rfl rfl (fun y1 y2 => ?_) (fun y1 => by omega)
        first | refine And.intro (fun cd => absurd cd (by decide)) (fun _ => ?_) | refine And.intro (fun _ => ?_) (fun cd => absurd cd (by decide)) | refine And.intro (fun cd => ?_) (fun cd => ?_)
        refine And.intro (fun cd => absurd cd m0) (fun _ => ?_)
        refine sm_mayDo (s := n) sh w hx (by omega) hok hm a2 hs n3 n1 (fun _ => ?_) (fun e2 => by rw [e] at e2; cases e2)
        first | refine And.intro (fun cd => absurd cd (by decide)) (fun _ => ?_) | refine And.intro (fun _ => ?_) (fun cd => absurd cd (by decide)) | refine And.intro (fun cd => ?_) (fun cd => ?_)
        refine And.intro (fun cd => absurd (by rw [T200]; omega) cd) (fun _ => ⟨rfl, h⟩)
    · rw [emay] at e
      first | refine And.intro (fun cd => absurd cd (by decide)) (fun _ => ?_) | refine And.intro (fun _ => ?_) (fun cd => absurd cd (by decide)) | refine And.intro (fun cd => ?_) (fun cd => ?_)
      refine ⟨_, rfl, ?_⟩
      refine bm_go (am_ok_all 120 (by decide)) 60 ?_
      refine sm_in x.toInt 0 4 (i64 x) rfl rfl (fun y1 y2 => ?_) (fun y1 => by omega)
      first | refine And.intro (fun cd => absurd cd (by decide)) (fun _ => ?_) | refine And.intro (fun _ => ?_) (fun cd => absurd cd (by decide)) | refine And.intro (fun cd => ?_) (fun cd => ?_)
      refine And.intro (fun cd => absurd cd m0) (fun _ => ?_)
      refine sm_mayDo (s := n) sh w hx (by omega) hok hm a2 hs n3 n1 (fun e2 => by rw [e] at e2; cases e2) (fun _ => ?_)
      first | refine And.intro (fun cd => absurd cd (by decide)) (fun _ => ?_) | refine And.intro (fun _ => ?_) (fun cd => absurd cd (by decide)) | refine And.intro (fun cd => ?_) (fun cd => ?_)
      exact ⟨rfl, h⟩
end PD

/-! one step of a round: what may be done, what comes of it -/
def lampO (T : tT) (c : Nat) : Option Nat := fstN (tN T) (fun k => tP T k == c)
def barS (s : sT) : Nat := if s.2.2.2 then s.2.1 &&& cm (1 <<< un s.2.2.1) else s.2.1
def may1 (T : tT) (sh : Nat) (s : sT) (w : Nat) : Bool := if w = 4 then (lampO T s.1).isSome && !(lit T sh s.2.1).testBit s.1 else match nx T s.1 w with
  | some j => !(lit T sh (barS s)).testBit j
  | none => false
def mayN (T : tT) (sh : Nat) (s : sT) : Nat := bO 5 (may1 T sh s)
def do1 (T : tT) (sh : Nat) (s : sT) (w : Nat) : sT := if w = 4 then match lampO T s.1 with
    | some k => (s.1, s.2.1 ||| 1 <<< k, nI k, true)
    | none => s
  else match nx T s.1 w with
    | some j => (j, s.2.1, s.2.2.1, s.2.2.2 && (shn T sh (un s.2.2.1)).testBit j)
    | none => s
/-- it can be done, as far as places go -/
def gOk (T : tT) (c w : Nat) : Prop := if w = 4 then (lampO T c).isSome = true else w < 4 ∧ (nx T c w).isSome = true
theorem lampO_some {T : tT} (hT : tOk T) {c k : Nat} (hk : k < tN T) (e : tP T k = c) : lampO T c = some k := by
  unfold lampO
  rw [fstN_some]
  refine ⟨hk, by simp [e], fun j hj => ?_⟩
  rw [beq_eq_false_iff_ne]
  intro q
  have := hT.2.2.2.2.2 j k (by omega) hk (by rw [q, e])
  omega
theorem lampO_none {T : tT} {c : Nat} (h : ∀ k, k < tN T → tP T k ≠ c) : lampO T c = none := by
  unfold lampO
  rw [fstN_none]
  intro j hj
  rw [beq_eq_false_iff_ne]
  exact h j hj
theorem lampO_spec {T : tT} {c k : Nat} (h : lampO T c = some k) : k < tN T ∧ tP T k = c := by
  obtain ⟨h1, h2, -⟩ := (fstN_some _ _ _).mp h
  exact ⟨h1, by simpa using h2⟩
theorem one_lt_n {k n : Nat} (h : k < n) : 1 <<< k < 2 ^ n := one_lt h
theorem do1_ok {T : tT} (hT : tOk T) {sh : Nat} {s : sT} (h : sOk T s) (w : Nat) : sOk T (do1 T sh s w) := by
  obtain ⟨h1, h2, h3, h4⟩ := h
  unfold do1
  split
  · split
    · rename_i k e
      obtain ⟨hk, e⟩ := lampO_spec e
      exact ⟨h1, h2, or_lt h3 (one_lt hk), fun _ => ⟨k, hk, rfl⟩⟩
    · exact ⟨h1, h2, h3, h4⟩
  · split
    · rename_i j e
      obtain ⟨g1, g2⟩ := nx_lt hT.1 e
      refine ⟨g1, g2, h3, fun q => h4 ?_⟩
      simp only [Bool.and_eq_true] at q
      exact q.1
    · exact ⟨h1, h2, h3, h4⟩
theorem barS_lt {T : tT} {s : sT} (h : sOk T s) : barS s < 2 ^ tN T := by
  unfold barS
  split
  · exact and_lt _ h.2.2.1
  · exact h.2.2.1
theorem bI_t : bI true = 1 := rfl
theorem bI_f : bI false = 0 := rfl
section SD
variable {G : am_G} {l : Launch} {t : am_T} {I : am_I} {L : am_J} {Q : bm_P}
theorem sp_like_17_18 (h : ∀ I', frN [17] I I' → (∀ j, j < 4 → I' 17 j = I 18 j) → Q none t I' L) (hz : I 18 3 = 0 ∨ I 18 3 = 1) : bm_C G l 225 [.ref 17, .ref 18] t I L Q := by
  refine bm_go (am_ok_all 225 (by decide)) 40 ?_
  refine ⟨hz, ?_⟩
  refine h _ (((((frN.refl _ _).u (by decide)).u (by decide)).u (by decide)).u (by decide)) (fun j hj => ?_)
  match j, hj with
  | 0, _ => rfl
  | 1, _ => rfl
  | 2, _ => rfl
  | 3, _ => rfl
theorem sp_like_18_17 (h : ∀ I', frN [18] I I' → (∀ j, j < 4 → I' 18 j = I 17 j) → Q none t I' L) (hz : I 17 3 = 0 ∨ I 17 3 = 1) : bm_C G l 225 [.ref 18, .ref 17] t I L Q := by
  refine bm_go (am_ok_all 225 (by decide)) 40 ?_
  refine ⟨hz, ?_⟩
  refine h _ (((((frN.refl _ _).u (by decide)).u (by decide)).u (by decide)).u (by decide)) (fun j hj => ?_)
  match j, hj with
  | 0, _ => rfl
  | 1, _ => rfl
  | 2, _ => rfl
  | 3, _ => rfl
theorem sp_like_20_17 (h : ∀ I', frN [20] I I' → (∀ j, j < 4 → I' 20 j = I 17 j) → Q none t I' L) (hz : I 17 3 = 0 ∨ I 17 3 = 1) : bm_C G l 225 [.ref 20, .ref 17] t I L Q := by
  refine bm_go (am_ok_all 225 (by decide)) 40 ?_
  refine ⟨hz, ?_⟩
  refine h _ (((((frN.refl _ _).u (by decide)).u (by decide)).u (by decide)).u (by decide)) (fun j hj => ?_)
  match j, hj with
  | 0, _ => rfl
  | 1, _ => rfl
  | 2, _ => rfl
  | 3, _ => rfl
theorem sp_like_58_17 (h : ∀ I', frN [58] I I' → (∀ j, j < 4 → I' 58 j = I 17 j) → Q none t I' L) (hz : I 17 3 = 0 ∨ I 17 3 = 1) : bm_C G l 225 [.ref 58, .ref 17] t I L Q := by
  refine bm_go (am_ok_all 225 (by decide)) 40 ?_
  refine ⟨hz, ?_⟩
  refine h _ (((((frN.refl _ _).u (by decide)).u (by decide)).u (by decide)).u (by decide)) (fun j hj => ?_)
  match j, hj with
  | 0, _ => rfl
  | 1, _ => rfl
  | 2, _ => rfl
  | 3, _ => rfl
theorem sp_like_59_17 (h : ∀ I', frN [59] I I' → (∀ j, j < 4 → I' 59 j = I 17 j) → Q none t I' L) (hz : I 17 3 = 0 ∨ I 17 3 = 1) : bm_C G l 225 [.ref 59, .ref 17] t I L Q := by
  refine bm_go (am_ok_all 225 (by decide)) 40 ?_
  refine ⟨hz, ?_⟩
  refine h _ (((((frN.refl _ _).u (by decide)).u (by decide)).u (by decide)).u (by decide)) (fun j hj => ?_)
  match j, hj with
  | 0, _ => rfl
  | 1, _ => rfl
  | 2, _ => rfl
  | 3, _ => rfl
theorem sp_like_60_17 (h : ∀ I', frN [60] I I' → (∀ j, j < 4 → I' 60 j = I 17 j) → Q none t I' L) (hz : I 17 3 = 0 ∨ I 17 3 = 1) : bm_C G l 225 [.ref 60, .ref 17] t I L Q := by
  refine bm_go (am_ok_all 225 (by decide)) 40 ?_
  refine ⟨hz, ?_⟩
  refine h _ (((((frN.refl _ _).u (by decide)).u (by decide)).u (by decide)).u (by decide)) (fun j hj => ?_)
  match j, hj with
  | 0, _ => rfl
  | 1, _ => rfl
  | 2, _ => rfl
  | 3, _ => rfl
theorem sp_like_18_58 (h : ∀ I', frN [18] I I' → (∀ j, j < 4 → I' 18 j = I 58 j) → Q none t I' L) (hz : I 58 3 = 0 ∨ I 58 3 = 1) : bm_C G l 225 [.ref 18, .ref 58] t I L Q := by
  refine bm_go (am_ok_all 225 (by decide)) 40 ?_
  refine ⟨hz, ?_⟩
  refine h _ (((((frN.refl _ _).u (by decide)).u (by decide)).u (by decide)).u (by decide)) (fun j hj => ?_)
  match j, hj with
  | 0, _ => rfl
  | 1, _ => rfl
  | 2, _ => rfl
  | 3, _ => rfl
theorem sp_like_18_59 (h : ∀ I', frN [18] I I' → (∀ j, j < 4 → I' 18 j = I 59 j) → Q none t I' L) (hz : I 59 3 = 0 ∨ I 59 3 = 1) : bm_C G l 225 [.ref 18, .ref 59] t I L Q := by
  refine bm_go (am_ok_all 225 (by decide)) 40 ?_
  refine ⟨hz, ?_⟩
  refine h _ (((((frN.refl _ _).u (by decide)).u (by decide)).u (by decide)).u (by decide)) (fun j hj => ?_)
  match j, hj with
  | 0, _ => rfl
  | 1, _ => rfl
  | 2, _ => rfl
  | 3, _ => rfl
theorem sp_like_18_60 (h : ∀ I', frN [18] I I' → (∀ j, j < 4 → I' 18 j = I 60 j) → Q none t I' L) (hz : I 60 3 = 0 ∨ I 60 3 = 1) : bm_C G l 225 [.ref 18, .ref 60] t I L Q := by
  refine bm_go (am_ok_all 225 (by decide)) 40 ?_
  refine ⟨hz, ?_⟩
  refine h _ (((((frN.refl _ _).u (by decide)).u (by decide)).u (by decide)).u (by decide)) (fun j hj => ?_)
  match j, hj with
  | 0, _ => rfl
  | 1, _ => rfl
  | 2, _ => rfl
  | 3, _ => rfl
theorem sp_like_17_58 (h : ∀ I', frN [17] I I' → (∀ j, j < 4 → I' 17 j = I 58 j) → Q none t I' L) (hz : I 58 3 = 0 ∨ I 58 3 = 1) : bm_C G l 225 [.ref 17, .ref 58] t I L Q := by
  refine bm_go (am_ok_all 225 (by decide)) 40 ?_
  refine ⟨hz, ?_⟩
  refine h _ (((((frN.refl _ _).u (by decide)).u (by decide)).u (by decide)).u (by decide)) (fun j hj => ?_)
  match j, hj with
  | 0, _ => rfl
  | 1, _ => rfl
  | 2, _ => rfl
  | 3, _ => rfl
theorem sp_like_17_59 (h : ∀ I', frN [17] I I' → (∀ j, j < 4 → I' 17 j = I 59 j) → Q none t I' L) (hz : I 59 3 = 0 ∨ I 59 3 = 1) : bm_C G l 225 [.ref 17, .ref 59] t I L Q := by
  refine bm_go (am_ok_all 225 (by decide)) 40 ?_
  refine ⟨hz, ?_⟩
  refine h _ (((((frN.refl _ _).u (by decide)).u (by decide)).u (by decide)).u (by decide)) (fun j hj => ?_)
  match j, hj with
  | 0, _ => rfl
  | 1, _ => rfl
  | 2, _ => rfl
  | 3, _ => rfl
theorem sp_like_17_60 (h : ∀ I', frN [17] I I' → (∀ j, j < 4 → I' 17 j = I 60 j) → Q none t I' L) (hz : I 60 3 = 0 ∨ I 60 3 = 1) : bm_C G l 225 [.ref 17, .ref 60] t I L Q := by
  refine bm_go (am_ok_all 225 (by decide)) 40 ?_
  refine ⟨hz, ?_⟩
  refine h _ (((((frN.refl _ _).u (by decide)).u (by decide)).u (by decide)).u (by decide)) (fun j hj => ?_)
  match j, hj with
  | 0, _ => rfl
  | 1, _ => rfl
  | 2, _ => rfl
  | 3, _ => rfl
theorem sp_like_18_18 (h : ∀ I', frN [18] I I' → (∀ j, j < 4 → I' 18 j = I 18 j) → Q none t I' L) (hz : I 18 3 = 0 ∨ I 18 3 = 1) : bm_C G l 225 [.ref 18, .ref 18] t I L Q := by
  refine bm_go (am_ok_all 225 (by decide)) 40 ?_
  refine ⟨hz, ?_⟩
  refine h _ (((((frN.refl _ _).u (by decide)).u (by decide)).u (by decide)).u (by decide)) (fun j hj => ?_)
  match j, hj with
  | 0, _ => rfl
  | 1, _ => rfl
  | 2, _ => rfl
  | 3, _ => rfl
theorem sC.like {s : sT} {c o : Nat} {I I' : am_I} (h : sC s o I) (e : ∀ j, j < 4 → I' c j = I o j) : sC s c I' := by
  obtain ⟨h1, h2, h3, h4⟩ := h
  exact ⟨by rw [e 0 (by decide)]; exact h1, by rw [e 1 (by decide)]; exact h2, by rw [e 2 (by decide)]; exact h3, by rw [e 3 (by decide)]; exact h4⟩
theorem sC.z {s : sT} {c : Nat} {I : am_I} (h : sC s c I) : I c 3 = 0 ∨ I c 3 = 1 := by
  rw [h.2.2.2]
  cases s.2.2.2
  · exact Or.inl rfl
  · exact Or.inr rfl
theorem sp_beginAt_18 {x : Int32} (d : Nat) (hx : x = nI d) (h : ∀ I', frN [18] I I' → sC (d, 0, -9, false) 18 I' → Q none t I' L) : bm_C G l 224 [.ref 18, .int x] t I L Q := by
  refine bm_go (am_ok_all 224 (by decide)) 40 ?_
  refine ⟨Or.inl rfl, ?_⟩
  exact h _ (((((frN.refl _ _).u (by decide)).u (by decide)).u (by decide)).u (by decide)) ⟨hx, rfl, rfl, rfl⟩
theorem sp_beginAt_20 {x : Int32} (d : Nat) (hx : x = nI d) (h : ∀ I', frN [20] I I' → sC (d, 0, -9, false) 20 I' → Q none t I' L) : bm_C G l 224 [.ref 20, .int x] t I L Q := by
  refine bm_go (am_ok_all 224 (by decide)) 40 ?_
  refine ⟨Or.inl rfl, ?_⟩
  exact h _ (((((frN.refl _ _).u (by decide)).u (by decide)).u (by decide)).u (by decide)) ⟨hx, rfl, rfl, rfl⟩
theorem n_sh31 {k : Nat} (h : k < 32) : (1 : Int32) <<< (nI k &&& 31) = nI (1 <<< k) := shl1 h
theorem bar_un {T : tT} {s : sT} (hT : tOk T) (h : sOk T s) (hi : s.2.2.2 = true) : nI s.2.1 &&& ((1 : Int32) <<< (s.2.2.1 &&& 31) ^^^ (-1)) = nI (barS s) ∧ un s.2.2.1 < tN T ∧ s.2.2.1 = nI (un s.2.2.1) := by
  obtain ⟨k, hk, e⟩ := h.2.2.2 hi
  have n6 := hT.2.2.2.1
  unfold barS
  rw [if_pos hi, e, un_n (by omega)]
  refine ⟨?_, hk, rfl⟩
  rw [shl1 (by omega), km1, n_cm, n_and]
theorem sp_allowed_17 {T : tT} {s : sT} (sh : Nat) (hT : tOk T) (hc : cT T I) (hL : cL T sh 13 I) (hs : sC s 17 I) (hk : sOk T s) (h : Q (some (.int (nI (mayN T sh s)))) t I L) : bm_C G l 226 [.ref 17, .ref 7, .ref 12] t I L Q := by
  have h24 := hT.1.c24
  have n6 := hT.2.2.2.1
  have p6 := Nat.pow_le_pow_right (n := 2) (by decide) n6
  obtain ⟨g1, g2, g3, g4⟩ := id hk
  obtain ⟨s1, s2, s3, s4⟩ := id hs
  have bl := barS_lt hk
  have lb := lit_24 (Or.inl hT) sh (barS s)
  have ll := lit_24 (Or.inl hT) sh s.2.1
  have hP : ∀ k, k < tN T → I 9 k = nI (tP T k) ∧ tP T k < 32 := fun k hk => ⟨(hc.2.2.2.2.2.1 k hk).2.1, by have := (hT.2.2.2.2.1 k hk).2.1; omega⟩
  have bit : ((nI (lit T sh s.2.1)).toUInt32 >>> ((I 17 0).toUInt32 &&& Int32.toUInt32 31)).toInt32 &&& 1 = nI (if (lit T sh s.2.1).testBit s.1 then 1 else 0) := by
    rw [s1, n_ush (w24 ll) (by omega), k1, n_and, tb_sh1]
  have fin : ∀ m, m = nI (bO 4 (may1 T sh s)) → ∀ d3, bm_W G l 226 38 [some (.ref 17), some (.ref 7), some (.ref 12), some (.int d3), some (.int m), some (.int (nI 4))] [] t I L Q := by
    intro m hm d3
    subst hm
    have e5 : mayN T sh s = bO 4 (may1 T sh s) ||| (if may1 T sh s 4 then 16 else 0) := rfl
    have e4 : may1 T sh s 4 = ((lampO T s.1).isSome && !(lit T sh s.2.1).testBit s.1) := rfl
    refine bm_go (am_ok_all 226 (by decide)) 60 ?_
    refine And.intro (fun _ => ?_) (fun cd => absurd cd (by decide))
    refine sp_of 12 (Or.inl rfl) s.2.1 s2 (by omega) ?_
    rw [hL _ (by omega)]
    cases eb : (lit T sh s.2.1).testBit s.1 with
    | true =>
      rw [eb] at bit e4
      refine And.intro (fun cd => absurd (by rw [bit]; rfl) cd) (fun cd => ?_)
      first | refine And.intro (fun cd => absurd cd (by decide)) (fun _ => ?_) | refine And.intro (fun _ => ?_) (fun cd => absurd cd (by decide)) | refine And.intro (fun cd => ?_) (fun cd => ?_)
      rw [e5, e4] at h
      simp only [Bool.not_true, Bool.and_false, Bool.false_eq_true, if_false, Nat.or_zero] at h
      exact h
    | false =>
      rw [eb] at bit e4
      refine And.intro (fun cd => ?_) (fun cd => ?_)
      · first | refine And.intro (fun cd => absurd cd (by decide)) (fun _ => ?_) | refine And.intro (fun _ => ?_) (fun cd => absurd cd (by decide)) | refine And.intro (fun cd => ?_) (fun cd => ?_)
        refine sp_lampIn s.1 (by omega) n6 s1 hc.2.2.2.1 hP (fun k hk e => ?_) (fun e => ?_)
        · refine And.intro (fun cd => ?_) (fun cd => ?_)
          · rw [e5, e4, lampO_some hT hk e] at h
            simp only [Option.isSome_some, Bool.not_false, Bool.and_self, if_true] at h
            rw [← n_or] at h
            exact h
          · rw [nI_toInt (by omega), show (-9 : Int32).toInt = -9 from rfl] at cd
            omega
        · first | refine And.intro (fun cd => absurd cd (by decide)) (fun _ => ?_) | refine And.intro (fun _ => ?_) (fun cd => absurd cd (by decide)) | refine And.intro (fun cd => ?_) (fun cd => ?_)
          rw [e5, e4, lampO_none e] at h
          simp only [Option.isSome_none, Bool.false_and, Bool.false_eq_true, if_false, Nat.or_zero] at h
          exact h
      · rw [bit] at cd
        exact absurd cd (by decide)
  have lp : ∀ d way m y, 4 - way = d → way ≤ 4 → y = nI way → m = nI (bO way (may1 T sh s)) → bm_W G l 226 38 [some (.ref 17), some (.ref 7), some (.ref 12), some (.int (nI (lit T sh (barS s)))), some (.int m), some (.int y)] [] t I L Q := by
    intro d
    induction d with
    | zero =>
      intro way m y hd hw hy hm
      obtain rfl : way = 4 := by omega
      subst hy
      exact fin m hm _
    | succ d ih =>
      intro way m y hd hw hy hm
      subst hy hm
      have hb := bs_one hT.1 g1 (show way < 4 by omega)
      refine bm_go (am_ok_all 226 (by decide)) 60 ?_
      refine And.intro (fun cd => ?_) (fun cd => ?_)
      · simp (disch := omega) only [nI_toInt, T0, T1, T2, T3, T4, T5, T6, T7, T8, T9, T10, T15, T24, T32, T48, T60, T63, T64, T80, T200, T384, T1000, TN, TP, Tm1, Tm9] at cd
        omega
      · refine sp_beside (1 <<< s.1) way hT.1 hc.1 (by rw [s1, shl1 (by omega)]) (one_lt (by omega)) rfl (by omega) ?_
        rw [hb]
        have hw4 : ¬ way = 4 := by omega
        have ol : oneO (nx T s.1 way) < 2 ^ 24 := oneO_lt (fun j e => by have := (nx_lt hT.1 e).1; omega)
        have key : (nI (oneO (nx T s.1 way)) &&& (nI (lit T sh (barS s)) ^^^ (-1))).toInt = 0 ↔ may1 T sh s way = false := by
          rw [km1, n_cm, n_and, n_z (Nat.lt_trans (and_lt _ ol) (by decide))]
          unfold may1
          rw [if_neg hw4]
          cases e : nx T s.1 way with
          | none =>
            constructor
            · intro _; rfl
            · intro _; exact Nat.zero_and _
          | some j =>
            have hj := (nx_lt hT.1 e).1
            simp only [Bool.not_eq_false']
            constructor
            · intro q
              have := congrArg (fun z => z.testBit j) q
              simp only [Nat.zero_testBit] at this
              rw [show oneO (some j) = 1 <<< j from rfl, tb_and_cm (one_lt (by omega)), tb_one] at this
              simpa using this
            · intro q
              apply Nat.eq_of_testBit_eq
              intro i
              rw [show oneO (some j) = 1 <<< j from rfl, tb_and_cm (one_lt (by omega)), tb_one, Nat.zero_testBit]
              by_cases e : j = i
              · subst e; simp [q]
              · simp [e]
        refine And.intro (fun cd => ?_) (fun cd => ?_)
        · refine ih (way + 1) _ _ (by omega) (by omega) (nI_succ way).symm ?_
          rw [bO_s, key.mp cd, k0, n_or]
          rfl
        · refine ih (way + 1) _ _ (by omega) (by omega) (nI_succ way).symm ?_
          have : may1 T sh s way = true := by
            cases e : may1 T sh s way with
            | true => rfl
            | false => exact absurd (key.mpr e) cd
          rw [bO_s, this, shl1 (by omega), n_or]
          rfl
  refine bm_go (am_ok_all 226 (by decide)) 60 ?_
  refine And.intro (fun cd => ?_) (fun cd => ?_)
  · have hi : s.2.2.2 = false := by
      cases e : s.2.2.2 with
      | false => rfl
      | true =>
        rw [s4, e] at cd
        exact absurd cd (by decide)
    have eb : barS s = s.2.1 := by unfold barS; rw [hi]; rfl
    refine sp_of 12 (Or.inl rfl) s.2.1 s2 (by omega) ?_
    rw [hL _ (by omega), ← eb]
    exact lp 4 0 _ _ rfl (by omega) rfl rfl
  · have hi : s.2.2.2 = true := by
      cases e : s.2.2.2 with
      | true => rfl
      | false =>
        rw [s4, e] at cd
        exact absurd rfl cd
    obtain ⟨b1, b2, b3⟩ := bar_un hT hk hi
    refine sp_of 12 (Or.inl rfl) (barS s) (by rw [s2, s3]; exact b1) (by omega) ?_
    rw [hL _ (by omega)]
    exact lp 4 0 _ _ rfl (by omega) rfl rfl
theorem sp_carry_17 {T : tT} {s : sT} {x : Int32} (sh w : Nat) (hx : x = nI w) (hT : tOk T) (hc : cT T I) (hL : cL T sh 13 I) (hs : sC s 17 I) (hk : sOk T s) (hw : gOk T s.1 w) (h : ∀ I', frN [17] I I' → sC (do1 T sh s w) 17 I' → Q none t I' L) : bm_C G l 227 [.ref 17, .ref 7, .ref 12, .int x] t I L Q := by
  subst hx
  have h24 := hT.1.c24
  have n6 := hT.2.2.2.1
  have p6 := Nat.pow_le_pow_right (n := 2) (by decide) n6
  obtain ⟨g1, g2, g3, g4⟩ := id hk
  obtain ⟨s1, s2, s3, s4⟩ := id hs
  have hP : ∀ k, k < tN T → I 9 k = nI (tP T k) ∧ tP T k < 32 := fun k hk => ⟨(hc.2.2.2.2.2.1 k hk).2.1, by have := (hT.2.2.2.2.1 k hk).2.1; omega⟩
  unfold gOk at hw
  by_cases e4 : w = 4
  · subst e4
    rw [if_pos rfl] at hw
    refine bm_go (am_ok_all 227 (by decide)) 60 ?_
    first | refine And.intro (fun cd => absurd cd (by decide)) (fun _ => ?_) | refine And.intro (fun _ => ?_) (fun cd => absurd cd (by decide)) | refine And.intro (fun cd => ?_) (fun cd => ?_)
    refine sp_lampIn s.1 (by omega) n6 s1 hc.2.2.2.1 hP (fun k hk e => ?_) (fun e => ?_)
    · refine ⟨Or.inr rfl, ?_⟩
      refine h _ ((((frN.refl _ _).u (by decide)).u (by decide)).u (by decide)) ?_
      have ed : do1 T sh s 4 = (s.1, s.2.1 ||| 1 <<< k, nI k, true) := by
        unfold do1
        rw [if_pos rfl, lampO_some hT hk e]
      rw [ed]
      refine ⟨s1, ?_, rfl, rfl⟩
      show I 17 1 ||| (1 : Int32) <<< (nI k &&& 31) = _
      rw [s2, shl1 (by omega), n_or]
    · rw [lampO_none e] at hw
      cases hw
  · rw [if_neg e4] at hw
    obtain ⟨hw4, hw⟩ := hw
    obtain ⟨j, ej⟩ := Option.isSome_iff_exists.mp hw
    have hj := (nx_lt hT.1 ej).1
    have ed : do1 T sh s w = (j, s.2.1, s.2.2.1, s.2.2.2 && (shn T sh (un s.2.2.1)).testBit j) := by
      unfold do1
      rw [if_neg e4, ej]
    rw [ed] at h
    refine bm_go (am_ok_all 227 (by decide)) 60 ?_
    refine And.intro (fun cd => ?_) (fun cd => ?_)
    · refine sp_cellBeside s.1 w j hT.1 hc.1 s1 g1 rfl hw4 ej ?_
      refine And.intro (fun cd => ?_) (fun cd => ?_)
      · have hi : s.2.2.2 = false := by
          cases e : s.2.2.2 with
          | false => rfl
          | true =>
            have cd : (I 17 3).toInt = 0 := cd
            rw [s4, e] at cd
            exact absurd cd (by decide)
        refine ⟨Or.inl rfl, ?_⟩
        refine h _ (((frN.refl _ _).u (by decide)).u (by decide)) ?_
        rw [hi]
        exact ⟨rfl, s2, s3, rfl⟩
      · have hi : s.2.2.2 = true := by
          cases e : s.2.2.2 with
          | true => rfl
          | false =>
            have cd : ¬ (I 17 3).toInt = 0 := cd
            rw [s4, e] at cd
            exact absurd rfl cd
        obtain ⟨b1, b2, b3⟩ := bar_un hT hk hi
        rw [hi] at h
        simp only [Bool.true_and] at h
        generalize un s.2.2.1 = k at *
        have one6 : 1 <<< k < 64 := by
          have := one_lt (k := k) (n := 6) (by omega)
          omega
        have hsl := up24 hT.1 (shn_lt hT.1 (sh := sh) (hT.2.2.2.2.1 k b2).2.1)
        refine sp_of 12 (Or.inl rfl) (1 <<< k) (show (1 : Int32) <<< (I 17 2 &&& 31) = _ by rw [s3, b3, shl1 (by omega)]) one6 ?_
        have e13 : am_u I 17 0 (nI j) (12 + 1) (1 <<< k) = nI (shn T sh k) := by
          show I 13 (1 <<< k) = _
          rw [hL _ one6, lit_one sh b2]
        rw [e13]
        have bit : ((nI (shn T sh k)).toUInt32 >>> ((am_u I 17 0 (nI j) 17 0).toUInt32 &&& Int32.toUInt32 31)).toInt32 &&& 1 = nI (if (shn T sh k).testBit j then 1 else 0) := by
          show ((nI (shn T sh k)).toUInt32 >>> ((nI j).toUInt32 &&& Int32.toUInt32 31)).toInt32 &&& 1 = _
          rw [n_ush (w24 hsl) (by omega), k1, n_and, tb_sh1]
        cases eb : (shn T sh k).testBit j with
        | true =>
          rw [eb] at bit h
          refine And.intro (fun cd => absurd (by rw [bit]; rfl) cd) (fun cd => ?_)
          refine ⟨Or.inr rfl, ?_⟩
          exact h _ (((frN.refl _ _).u (by decide)).u (by decide)) ⟨rfl, s2, s3, rfl⟩
        | false =>
          rw [eb] at bit h
          refine And.intro (fun cd => ?_) (fun cd => ?_)
          · refine ⟨Or.inl rfl, ?_⟩
            exact h _ (((frN.refl _ _).u (by decide)).u (by decide)) ⟨rfl, s2, s3, rfl⟩
          · rw [bit] at cd
            exact absurd cd (by decide)
    · rw [nI_toInt (by omega), T4] at cd
      omega
theorem sp_allowed_20 {T : tT} {s : sT} (sh : Nat) (hT : tOk T) (hc : cT T I) (hL : cL T sh 13 I) (hs : sC s 20 I) (hk : sOk T s) (h : Q (some (.int (nI (mayN T sh s)))) t I L) : bm_C G l 226 [.ref 20, .ref 7, .ref 12] t I L Q := by
  have h24 := hT.1.c24
  have n6 := hT.2.2.2.1
  have p6 := Nat.pow_le_pow_right (n := 2) (by decide) n6
  obtain ⟨g1, g2, g3, g4⟩ := id hk
  obtain ⟨s1, s2, s3, s4⟩ := id hs
  have bl := barS_lt hk
  have lb := lit_24 (Or.inl hT) sh (barS s)
  have ll := lit_24 (Or.inl hT) sh s.2.1
  have hP : ∀ k, k < tN T → I 9 k = nI (tP T k) ∧ tP T k < 32 := fun k hk => ⟨(hc.2.2.2.2.2.1 k hk).2.1, by have := (hT.2.2.2.2.1 k hk).2.1; omega⟩
  have bit : ((nI (lit T sh s.2.1)).toUInt32 >>> ((I 20 0).toUInt32 &&& Int32.toUInt32 31)).toInt32 &&& 1 = nI (if (lit T sh s.2.1).testBit s.1 then 1 else 0) := by
    rw [s1, n_ush (w24 ll) (by omega), k1, n_and, tb_sh1]
  have fin : ∀ m, m = nI (bO 4 (may1 T sh s)) → ∀ d3, bm_W G l 226 38 [some (.ref 20), some (.ref 7), some (.ref 12), some (.int d3), some (.int m), some (.int (nI 4))] [] t I L Q := by
    intro m hm d3
    subst hm
    have e5 : mayN T sh s = bO 4 (may1 T sh s) ||| (if may1 T sh s 4 then 16 else 0) := rfl
    have e4 : may1 T sh s 4 = ((lampO T s.1).isSome && !(lit T sh s.2.1).testBit s.1) := rfl
    refine bm_go (am_ok_all 226 (by decide)) 60 ?_
    refine And.intro (fun _ => ?_) (fun cd => absurd cd (by decide))
    refine sp_of 12 (Or.inl rfl) s.2.1 s2 (by omega) ?_
    rw [hL _ (by omega)]
    cases eb : (lit T sh s.2.1).testBit s.1 with
    | true =>
      rw [eb] at bit e4
      refine And.intro (fun cd => absurd (by rw [bit]; rfl) cd) (fun cd => ?_)
      first | refine And.intro (fun cd => absurd cd (by decide)) (fun _ => ?_) | refine And.intro (fun _ => ?_) (fun cd => absurd cd (by decide)) | refine And.intro (fun cd => ?_) (fun cd => ?_)
      rw [e5, e4] at h
      simp only [Bool.not_true, Bool.and_false, Bool.false_eq_true, if_false, Nat.or_zero] at h
      exact h
    | false =>
      rw [eb] at bit e4
      refine And.intro (fun cd => ?_) (fun cd => ?_)
      · first | refine And.intro (fun cd => absurd cd (by decide)) (fun _ => ?_) | refine And.intro (fun _ => ?_) (fun cd => absurd cd (by decide)) | refine And.intro (fun cd => ?_) (fun cd => ?_)
        refine sp_lampIn s.1 (by omega) n6 s1 hc.2.2.2.1 hP (fun k hk e => ?_) (fun e => ?_)
        · refine And.intro (fun cd => ?_) (fun cd => ?_)
          · rw [e5, e4, lampO_some hT hk e] at h
            simp only [Option.isSome_some, Bool.not_false, Bool.and_self, if_true] at h
            rw [← n_or] at h
            exact h
          · rw [nI_toInt (by omega), show (-9 : Int32).toInt = -9 from rfl] at cd
            omega
        · first | refine And.intro (fun cd => absurd cd (by decide)) (fun _ => ?_) | refine And.intro (fun _ => ?_) (fun cd => absurd cd (by decide)) | refine And.intro (fun cd => ?_) (fun cd => ?_)
          rw [e5, e4, lampO_none e] at h
          simp only [Option.isSome_none, Bool.false_and, Bool.false_eq_true, if_false, Nat.or_zero] at h
          exact h
      · rw [bit] at cd
        exact absurd cd (by decide)
  have lp : ∀ d way m y, 4 - way = d → way ≤ 4 → y = nI way → m = nI (bO way (may1 T sh s)) → bm_W G l 226 38 [some (.ref 20), some (.ref 7), some (.ref 12), some (.int (nI (lit T sh (barS s)))), some (.int m), some (.int y)] [] t I L Q := by
    intro d
    induction d with
    | zero =>
      intro way m y hd hw hy hm
      obtain rfl : way = 4 := by omega
      subst hy
      exact fin m hm _
    | succ d ih =>
      intro way m y hd hw hy hm
      subst hy hm
      have hb := bs_one hT.1 g1 (show way < 4 by omega)
      refine bm_go (am_ok_all 226 (by decide)) 60 ?_
      refine And.intro (fun cd => ?_) (fun cd => ?_)
      · simp (disch := omega) only [nI_toInt, T0, T1, T2, T3, T4, T5, T6, T7, T8, T9, T10, T15, T24, T32, T48, T60, T63, T64, T80, T200, T384, T1000, TN, TP, Tm1, Tm9] at cd
        omega
      · refine sp_beside (1 <<< s.1) way hT.1 hc.1 (by rw [s1, shl1 (by omega)]) (one_lt (by omega)) rfl (by omega) ?_
        rw [hb]
        have hw4 : ¬ way = 4 := by omega
        have ol : oneO (nx T s.1 way) < 2 ^ 24 := oneO_lt (fun j e => by have := (nx_lt hT.1 e).1; omega)
        have key : (nI (oneO (nx T s.1 way)) &&& (nI (lit T sh (barS s)) ^^^ (-1))).toInt = 0 ↔ may1 T sh s way = false := by
          rw [km1, n_cm, n_and, n_z (Nat.lt_trans (and_lt _ ol) (by decide))]
          unfold may1
          rw [if_neg hw4]
          cases e : nx T s.1 way with
          | none =>
            constructor
            · intro _; rfl
            · intro _; exact Nat.zero_and _
          | some j =>
            have hj := (nx_lt hT.1 e).1
            simp only [Bool.not_eq_false']
            constructor
            · intro q
              have := congrArg (fun z => z.testBit j) q
              simp only [Nat.zero_testBit] at this
              rw [show oneO (some j) = 1 <<< j from rfl, tb_and_cm (one_lt (by omega)), tb_one] at this
              simpa using this
            · intro q
              apply Nat.eq_of_testBit_eq
              intro i
              rw [show oneO (some j) = 1 <<< j from rfl, tb_and_cm (one_lt (by omega)), tb_one, Nat.zero_testBit]
              by_cases e : j = i
              · subst e; simp [q]
              · simp [e]
        refine And.intro (fun cd => ?_) (fun cd => ?_)
        · refine ih (way + 1) _ _ (by omega) (by omega) (nI_succ way).symm ?_
          rw [bO_s, key.mp cd, k0, n_or]
          rfl
        · refine ih (way + 1) _ _ (by omega) (by omega) (nI_succ way).symm ?_
          have : may1 T sh s way = true := by
            cases e : may1 T sh s way with
            | true => rfl
            | false => exact absurd (key.mpr e) cd
          rw [bO_s, this, shl1 (by omega), n_or]
          rfl
  refine bm_go (am_ok_all 226 (by decide)) 60 ?_
  refine And.intro (fun cd => ?_) (fun cd => ?_)
  · have hi : s.2.2.2 = false := by
      cases e : s.2.2.2 with
      | false => rfl
      | true =>
        rw [s4, e] at cd
        exact absurd cd (by decide)
    have eb : barS s = s.2.1 := by unfold barS; rw [hi]; rfl
    refine sp_of 12 (Or.inl rfl) s.2.1 s2 (by omega) ?_
    rw [hL _ (by omega), ← eb]
    exact lp 4 0 _ _ rfl (by omega) rfl rfl
  · have hi : s.2.2.2 = true := by
      cases e : s.2.2.2 with
      | true => rfl
      | false =>
        rw [s4, e] at cd
        exact absurd rfl cd
    obtain ⟨b1, b2, b3⟩ := bar_un hT hk hi
    refine sp_of 12 (Or.inl rfl) (barS s) (by rw [s2, s3]; exact b1) (by omega) ?_
    rw [hL _ (by omega)]
    exact lp 4 0 _ _ rfl (by omega) rfl rfl
theorem sp_carry_20 {T : tT} {s : sT} {x : Int32} (sh w : Nat) (hx : x = nI w) (hT : tOk T) (hc : cT T I) (hL : cL T sh 13 I) (hs : sC s 20 I) (hk : sOk T s) (hw : gOk T s.1 w) (h : ∀ I', frN [20] I I' → sC (do1 T sh s w) 20 I' → Q none t I' L) : bm_C G l 227 [.ref 20, .ref 7, .ref 12, .int x] t I L Q := by
  subst hx
  have h24 := hT.1.c24
  have n6 := hT.2.2.2.1
  have p6 := Nat.pow_le_pow_right (n := 2) (by decide) n6
  obtain ⟨g1, g2, g3, g4⟩ := id hk
  obtain ⟨s1, s2, s3, s4⟩ := id hs
  have hP : ∀ k, k < tN T → I 9 k = nI (tP T k) ∧ tP T k < 32 := fun k hk => ⟨(hc.2.2.2.2.2.1 k hk).2.1, by have := (hT.2.2.2.2.1 k hk).2.1; omega⟩
  unfold gOk at hw
  by_cases e4 : w = 4
  · subst e4
    rw [if_pos rfl] at hw
    refine bm_go (am_ok_all 227 (by decide)) 60 ?_
    first | refine And.intro (fun cd => absurd cd (by decide)) (fun _ => ?_) | refine And.intro (fun _ => ?_) (fun cd => absurd cd (by decide)) | refine And.intro (fun cd => ?_) (fun cd => ?_)
    refine sp_lampIn s.1 (by omega) n6 s1 hc.2.2.2.1 hP (fun k hk e => ?_) (fun e => ?_)
    · refine ⟨Or.inr rfl, ?_⟩
      refine h _ ((((frN.refl _ _).u (by decide)).u (by decide)).u (by decide)) ?_
      have ed : do1 T sh s 4 = (s.1, s.2.1 ||| 1 <<< k, nI k, true) := by
        unfold do1
        rw [if_pos rfl, lampO_some hT hk e]
      rw [ed]
      refine ⟨s1, ?_, rfl, rfl⟩
      show I 20 1 ||| (1 : Int32) <<< (nI k &&& 31) = _
      rw [s2, shl1 (by omega), n_or]
    · rw [lampO_none e] at hw
      cases hw
  · rw [if_neg e4] at hw
    obtain ⟨hw4, hw⟩ := hw
    obtain ⟨j, ej⟩ := Option.isSome_iff_exists.mp hw
    have hj := (nx_lt hT.1 ej).1
    have ed : do1 T sh s w = (j, s.2.1, s.2.2.1, s.2.2.2 && (shn T sh (un s.2.2.1)).testBit j) := by
      unfold do1
      rw [if_neg e4, ej]
    rw [ed] at h
    refine bm_go (am_ok_all 227 (by decide)) 60 ?_
    refine And.intro (fun cd => ?_) (fun cd => ?_)
    · refine sp_cellBeside s.1 w j hT.1 hc.1 s1 g1 rfl hw4 ej ?_
      refine And.intro (fun cd => ?_) (fun cd => ?_)
      · have hi : s.2.2.2 = false := by
          cases e : s.2.2.2 with
          | false => rfl
          | true =>
            have cd : (I 20 3).toInt = 0 := cd
            rw [s4, e] at cd
            exact absurd cd (by decide)
        refine ⟨Or.inl rfl, ?_⟩
        refine h _ (((frN.refl _ _).u (by decide)).u (by decide)) ?_
        rw [hi]
        exact ⟨rfl, s2, s3, rfl⟩
      · have hi : s.2.2.2 = true := by
          cases e : s.2.2.2 with
          | true => rfl
          | false =>
            have cd : ¬ (I 20 3).toInt = 0 := cd
            rw [s4, e] at cd
            exact absurd rfl cd
        obtain ⟨b1, b2, b3⟩ := bar_un hT hk hi
        rw [hi] at h
        simp only [Bool.true_and] at h
        generalize un s.2.2.1 = k at *
        have one6 : 1 <<< k < 64 := by
          have := one_lt (k := k) (n := 6) (by omega)
          omega
        have hsl := up24 hT.1 (shn_lt hT.1 (sh := sh) (hT.2.2.2.2.1 k b2).2.1)
        refine sp_of 12 (Or.inl rfl) (1 <<< k) (show (1 : Int32) <<< (I 20 2 &&& 31) = _ by rw [s3, b3, shl1 (by omega)]) one6 ?_
        have e13 : am_u I 20 0 (nI j) (12 + 1) (1 <<< k) = nI (shn T sh k) := by
          show I 13 (1 <<< k) = _
          rw [hL _ one6, lit_one sh b2]
        rw [e13]
        have bit : ((nI (shn T sh k)).toUInt32 >>> ((am_u I 20 0 (nI j) 20 0).toUInt32 &&& Int32.toUInt32 31)).toInt32 &&& 1 = nI (if (shn T sh k).testBit j then 1 else 0) := by
          show ((nI (shn T sh k)).toUInt32 >>> ((nI j).toUInt32 &&& Int32.toUInt32 31)).toInt32 &&& 1 = _
          rw [n_ush (w24 hsl) (by omega), k1, n_and, tb_sh1]
        cases eb : (shn T sh k).testBit j with
        | true =>
          rw [eb] at bit h
          refine And.intro (fun cd => absurd (by rw [bit]; rfl) cd) (fun cd => ?_)
          refine ⟨Or.inr rfl, ?_⟩
          exact h _ (((frN.refl _ _).u (by decide)).u (by decide)) ⟨rfl, s2, s3, rfl⟩
        | false =>
          rw [eb] at bit h
          refine And.intro (fun cd => ?_) (fun cd => ?_)
          · refine ⟨Or.inl rfl, ?_⟩
            exact h _ (((frN.refl _ _).u (by decide)).u (by decide)) ⟨rfl, s2, s3, rfl⟩
          · rw [bit] at cd
            exact absurd cd (by decide)
    · rw [nI_toInt (by omega), T4] at cd
      omega
end SD

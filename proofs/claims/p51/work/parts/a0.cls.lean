/-! what holds of the class between the calls of the law, and what each of its calls answers (the class alone) -/
def cKeep : List Nat := [0, 7, 8, 9, 10, 11, 13, 27, 28, 29, 30]
def cB (T : tT) (sh : Nat) (t : am_T) (I : am_I) : Prop := tOk T ∧ cT T I ∧ sh < 2 ^ tN T ∧ I 0 14 = nI sh ∧ cL T sh 13 I ∧ I 15 0 = nI 0 ∧ InvO T sh t I ∧ I 0 13 = 0
theorem cT.fr {T : tT} {I I' : am_I} (h : cT T I) (f : ∀ x, x ∈ [7, 8, 9, 10, 11] → I' x = I x) : cT T I' := by
  unfold cT cG cLp at h ⊢
  rw [f 7 (by decide), f 8 (by decide), f 9 (by decide), f 10 (by decide), f 11 (by decide)]
  exact h
theorem tabs.fr {T : tT} {sh : Nat} {I I' : am_I} (h : tabs T sh I) (f : ∀ x, x ∈ [27, 28, 29, 30] → I' x = I x) : tabs T sh I' := by
  unfold tabs at h ⊢
  rw [f 27 (by decide), f 28 (by decide), f 29 (by decide), f 30 (by decide)]
  exact h
theorem cB.fr {T : tT} {sh : Nat} {t : am_T} {I I' : am_I} (h : cB T sh t I) (f : ∀ x, x ∈ cKeep → I' x = I x) (f15 : I' 15 0 = I 15 0) (f25 : ∀ j, 1 ≤ j → I' 25 j = I 25 j) : cB T sh t I' := by
  obtain ⟨h1, h2, h3, h4, h5, h6, h7, h8⟩ := h
  refine ⟨h1, h2.fr (fun x hx => f x (by revert hx; revert x; decide)), h3, by rw [f 0 (by decide)]; exact h4, fun s hs => ?_, by rw [f15]; exact h6, ?_, by rw [f 0 (by decide)]; exact h8⟩
  · rw [f 13 (by decide)]
    exact h5 s hs
  · rcases h7 with h7 | ⟨a, b, c, d, e⟩
    · exact Or.inl (by rw [f25 1 (by decide)]; exact h7)
    · exact Or.inr ⟨by rw [f25 1 (by decide)]; exact a, b, by rw [f25 3 (by decide)]; exact c, by rw [f25 4 (by decide)]; exact d, e.fr (fun x hx => f x (by revert hx; revert x; decide))⟩
theorem cB.n {T : tT} {sh : Nat} {t : am_T} {I I' : am_I} {cs : List Nat} (h : cB T sh t I) (f : frN cs I I') (hd : ∀ x, x ∈ 15 :: 25 :: cKeep → x ∉ cs) : cB T sh t I' :=
  h.fr (fun x hx => f x (hd x (List.mem_cons_of_mem _ (List.mem_cons_of_mem _ hx)))) (by rw [f 15 (hd 15 (by decide))]) (fun j _ => by rw [f 25 (hd 25 (by decide))])
/-- once it has learnt -/
theorem cB.ln {T : tT} {sh : Nat} {t : am_T} {I I' : am_I} {cs : List Nat} (h : cB T sh t I) (f : frN cs I I') (hd : ∀ x, x ∈ [0, 7, 8, 9, 10, 11, 13, 15] → x ∉ cs) (e1 : I' 25 1 = 0) (e3 : I' 25 3 = nI (tN T)) (e4 : I' 25 4 = nI (al T)) (tb : tabs T sh I') : cB T sh (t.1, some 7, some 12) I' := by
  obtain ⟨h1, h2, h3, h4, h5, h6, h7, h8⟩ := h
  refine ⟨h1, h2.fr (fun x hx => f x (hd x (by revert hx; revert x; decide))), h3, by rw [f 0 (hd 0 (by decide))]; exact h4, fun s hs => ?_, by rw [f 15 (hd 15 (by decide))]; exact h6, Or.inr ⟨e1, rfl, e3, e4, tb⟩, by rw [f 0 (hd 0 (by decide))]; exact h8⟩
  rw [f 13 (hd 13 (by decide))]
  exact h5 s hs
def rd0 (T : tT) : sT := (tD T, 0, -9, false)
theorem rd0_ok {T : tT} (hT : tOk T) : sOk T (rd0 T) := ⟨hT.2.1, hT.2.2.1, Nat.two_pow_pos _, fun h => by cases h⟩
/-- the round: what was done since the door -/
def cR (T : tT) (sh d : Nat) (a : Nat → Nat) (I : am_I) : Prop := d ≤ 200 ∧ I 16 1 = nI d ∧ sC (runS T sh (rd0 T) a d) 17 I ∧ sC (rd0 T) 18 I ∧ ∀ i, i < d → I 19 i = nI (a i) ∧ gOk T (runS T sh (rd0 T) a i).1 (a i)
theorem cR.fr {T : tT} {sh d : Nat} {a : Nat → Nat} {I I' : am_I} (h : cR T sh d a I) (f : ∀ x, x ∈ [16, 17, 18, 19] → I' x = I x) : cR T sh d a I' := by
  unfold cR sC at h ⊢
  rw [f 16 (by decide), f 17 (by decide), f 18 (by decide), f 19 (by decide)]
  exact h
theorem cR.n {T : tT} {sh d : Nat} {a : Nat → Nat} {I I' : am_I} {cs : List Nat} (h : cR T sh d a I) (f : frN cs I I') (hd : ∀ x, x ∈ [16, 17, 18, 19] → x ∉ cs) : cR T sh d a I' := h.fr (fun x hx => f x (hd x hx))
theorem cR.z {T : tT} {sh : Nat} {a : Nat → Nat} {I : am_I} (h : cR T sh 0 a I) (sh' : Nat) (a' : Nat → Nat) : cR T sh' 0 a' I :=
  ⟨h.1, h.2.1, h.2.2.1, h.2.2.2.1, fun i hi => absurd hi (Nat.not_lt_zero i)⟩
/-- what was seen -/
def cS (T : tT) (m : Nat) (a b : Nat → Nat) (I : am_I) : Prop := m ≤ 8 ∧ I 22 0 = nI m ∧ ∀ i, i < m → a i < tN T ∧ b i < tN T ∧ a i ≠ b i ∧ I 23 i = nI (a i) ∧ I 24 i = nI (b i)
theorem cS.n {T : tT} {m : Nat} {a b : Nat → Nat} {I I' : am_I} {cs : List Nat} (h : cS T m a b I) (f : frN cs I I') (hd : ∀ x, x ∈ [22, 23, 24] → x ∉ cs) : cS T m a b I' := by
  unfold cS at h ⊢
  rw [f 22 (hd 22 (by decide)), f 23 (hd 23 (by decide)), f 24 (hd 24 (by decide))]
  exact h
/-- what Orders alone may change -/
def exP : List Nat := [25, 26, 27, 28, 29, 30, 31, 32, 33]
section CC
variable {G : am_G} {l : Launch} {t : am_T} {I : am_I} {L : am_J} {Q : bm_P} {T : tT} {sh : Nat}
theorem cc_shines {x : Int32} (h : cB T sh t I) (k : Nat) (hk : k < tN T) (hx : x = nI k) (hQ : Q (some (.int (nI (shn T sh k)))) t I L) : bm_C G l 14 [.ref 0, .int x] t I L Q := by
  obtain ⟨hok, hc, hs, a1, hL, a4, hO, a13⟩ := h
  have hT : tOK T := Or.inl hok
  have n6 := hT.n6
  have xr := xn hx hk (by omega)
  refine bm_go (am_ok_all 14 (by decide)) 40 ?_
  refine sp_isLamp hT hc.2.2.2.1 (fun k2 hk2 hx2 => ?_) (fun cd => by omega)
  first | refine And.intro (fun cd => absurd cd (by decide)) (fun _ => ?_) | refine And.intro (fun _ => ?_) (fun cd => absurd cd (by decide)) | refine And.intro (fun cd => ?_) (fun cd => ?_)
  have one6 : 1 <<< k < 64 := by
    have := one_lt (k := k) (n := 6) (by omega)
    omega
  refine sp_of 12 (Or.inl rfl) (1 <<< k) (by rw [hx, shl1 (by omega)]) one6 ?_
  rw [hL _ one6, lit_one sh hk]
  exact hQ
theorem cc_light {x : Int32} (h : cB T sh t I) (s : Nat) (hs : s < 2 ^ tN T) (hx : x = nI s) (hQ : Q (some (.int (nI (lit T sh s)))) t (am_u I 36 0 (nI (pc (lit T sh s)))) L) : bm_C G l 15 [.ref 0, .int x] t I L Q := by
  obtain ⟨hok, hc, hs0, a1, hL, a4, hO, a13⟩ := h
  have hT : tOK T := Or.inl hok
  have n6 := hT.n6
  have p6 := Nat.pow_le_pow_right (n := 2) (by decide) n6
  have xr := xn hx hs (by omega)
  refine bm_go (am_ok_all 15 (by decide)) 40 ?_
  refine sp_isSet hT hc.2.2.2.1 (fun s2 hs2 hx2 => ?_) (fun cd => by omega)
  first | refine And.intro (fun cd => absurd cd (by decide)) (fun _ => ?_) | refine And.intro (fun _ => ?_) (fun cd => absurd cd (by decide)) | refine And.intro (fun cd => ?_) (fun cd => ?_)
  have l24 := lit_24 hT sh s
  refine sp_of 12 (Or.inl rfl) s hx (by omega) ?_
  rw [hL s (by omega)]
  refine sp_bitCount _ rfl (w24 l24) ?_
  refine sp_besides ?_
  exact hQ
theorem cc_thief {x y : Int32} (h : cB T sh t I) (c s : Nat) (hcc : c < tC T) (hs : s < 2 ^ tN T) (hx : x = nI c) (hy : y = nI s) (hQ : Q (some (.int (nI (dk T (lit T sh s) (1 <<< c) (tC T))))) t (am_u I 36 0 (nI (pc (dk T (lit T sh s) (1 <<< c) (tC T))))) L) : bm_C G l 35 [.ref 0, .int x, .int y] t I L Q := by
  obtain ⟨hok, hc, hs0, a1, hL, a4, hO, a13⟩ := h
  have hT : tOK T := Or.inl hok
  have n6 := hT.n6
  have c24 := hT.c24
  have p6 := Nat.pow_le_pow_right (n := 2) (by decide) n6
  have xr := xn hx hcc (by omega)
  have yr := xn hy hs (by omega)
  refine bm_go (am_ok_all 35 (by decide)) 40 ?_
  refine sp_isCell hT hc.2.1 (fun c2 hcc2 hx2 => ?_) (fun cd => by omega)
  first | refine And.intro (fun cd => absurd cd (by decide)) (fun _ => ?_) | refine And.intro (fun _ => ?_) (fun cd => absurd cd (by decide)) | refine And.intro (fun cd => ?_) (fun cd => ?_)
  refine sp_isSet hT hc.2.2.2.1 (fun s2 hs2 hy2 => ?_) (fun cd => by omega)
  first | refine And.intro (fun cd => absurd cd (by decide)) (fun _ => ?_) | refine And.intro (fun _ => ?_) (fun cd => absurd cd (by decide)) | refine And.intro (fun cd => ?_) (fun cd => ?_)
  have l24 := lit_24 hT sh s
  refine sp_of 12 (Or.inl rfl) s hy (by omega) ?_
  rw [hL s (by omega)]
  refine sp_darkFrom (1 <<< c) (lit T sh s) (by rw [hx, shl1 (by omega)]) rfl hok.1 hc.1 ?_
  rw [dk_all hok.1]
  have dlt := fun i => up24 hok.1 (dk_lt hok.1 (lit T sh s) (1 <<< c) i)
  refine sp_bitCount _ rfl (w24 (dlt _)) ?_
  refine sp_besides ?_
  exact hQ
theorem cc_bars {x : Int32} (h : cB T sh t I) (k : Nat) (hk : k < tN T) (hx : x = nI k) (hQ : Q (some (.int (nI (bar T sh k)))) t (am_u I 36 0 (nI (byL T sh k))) L) : bm_C G l 29 [.ref 0, .int x] t I L Q := by
  obtain ⟨hok, hc, hs, a1, hL, a4, hO, a13⟩ := h
  have hT : tOK T := Or.inl hok
  have n6 := hT.n6
  have xr := xn hx hk (by omega)
  refine bm_go (am_ok_all 29 (by decide)) 40 ?_
  refine sp_isLamp hT hc.2.2.2.1 (fun k2 hk2 hx2 => ?_) (fun cd => by omega)
  first | refine And.intro (fun cd => absurd cd (by decide)) (fun _ => ?_) | refine And.intro (fun _ => ?_) (fun cd => absurd cd (by decide)) | refine And.intro (fun cd => ?_) (fun cd => ?_)
  refine sp_barredBy sh k hk hx hok hc hL ?_
  refine sp_barring sh k hk hx hok hc hL ?_
  refine sp_besides ?_
  exact hQ
theorem cc_rings (h : cB T sh t I) (hQ : Q (some (.int (nI (bO (tN T) (inR T sh))))) t (am_u I 36 0 (nI (sml T sh (tN T)))) L) : bm_C G l 30 [.ref 0] t I L Q := by
  obtain ⟨hok, hc, hs, a1, hL, a4, hO, a13⟩ := h
  exact sp_rings sh (Or.inl hok) hc hL hQ
theorem cc_asked (hQ : Q (some (.int (I 36 0))) t I L) : bm_C G l 42 [.ref 0] t I L Q := by
  refine bm_go (am_ok_all 42 (by decide)) 40 ?_
  exact hQ
theorem cc_upper (hQ : Q (some (.long (L 36 1))) t I L) : bm_C G l 43 [.ref 0] t I L Q := by
  refine bm_go (am_ok_all 43 (by decide)) 40 ?_
  exact hQ
theorem cB.c0 {t : am_T} {I : am_I} (h : cB T sh t I) : ¬ (I 7 0).toInt = 0 := by
  have c2 := h.1.1.c2
  have c24 := h.1.1.c24
  rw [h.2.1.2.1, nI_toInt (by omega)]
  omega
theorem cc_may (h : cB T sh t I) {s : sT} (hs : sC s 17 I) (hk : sOk T s) (hQ : Q (some (.int (nI (mayN T sh s)))) t (am_u I 36 0 (bI s.2.2.2)) L) : bm_C G l 18 [.ref 0] t I L Q := by
  have c0 := h.c0
  obtain ⟨hok, hc, hs0, a1, hL, a4, hO, a13⟩ := h
  have e17 : I 17 3 = bI s.2.2.2 := hs.2.2.2
  refine bm_go (am_ok_all 18 (by decide)) 40 ?_
  refine And.intro (fun _ => ?_) (fun cd => absurd cd c0)
  cases hi : s.2.2.2 with
  | true =>
    rw [hi] at e17 hQ
    refine And.intro (fun cd => ?_) (fun cd => ?_)
    · rw [e17] at cd
      exact absurd cd (by decide)
    · refine sp_allowed_17 (s := s) sh hok hc hL hs hk ?_
      refine sp_besides ?_
      exact hQ
  | false =>
    rw [hi] at e17 hQ
    refine And.intro (fun cd => ?_) (fun cd => ?_)
    · refine sp_allowed_17 (s := s) sh hok hc hL hs hk ?_
      refine sp_besides ?_
      exact hQ
    · rw [e17] at cd
      exact absurd rfl cd
theorem cc_where (h : cB T sh t I) {c d : Nat} (h17 : I 17 0 = nI c) (h16 : I 16 1 = nI d) (hQ : Q (some (.int (nI c))) t (am_u I 36 0 (nI d)) L) : bm_C G l 20 [.ref 0] t I L Q := by
  have c0 := h.c0
  refine bm_go (am_ok_all 20 (by decide)) 40 ?_
  refine And.intro (fun _ => ?_) (fun cd => absurd cd c0)
  refine sp_besides ?_
  rw [← h17, ← h16] at hQ
  exact hQ
theorem cc_lit (hQ : Q (some (.int (I 17 1))) t (am_u I 36 0 (I 17 2)) L) : bm_C G l 21 [.ref 0] t I L Q := by
  refine bm_go (am_ok_all 21 (by decide)) 40 ?_
  refine sp_besides ?_
  exact hQ
theorem may_tb {s : sT} {w : Nat} (hw : w < 5) : (mayN T sh s).testBit w = may1 T sh s w := by
  unfold mayN
  rw [tb_bO]
  simp
  omega
theorem cc_act_no {x : Int32} (h : cB T sh t I) {s : sT} (hs : sC s 17 I) (hk : sOk T s) (w : Nat) (hw : w < 5) (hx : x = nI w) (hm : may1 T sh s w = false) (hQ : Q (some (.int (-4))) t I L) : bm_C G l 19 [.ref 0, .int x] t I L Q := by
  have c0 := h.c0
  obtain ⟨hok, hc, hs0, a1, hL, a4, hO, a13⟩ := h
  have xr := xn hx hw (by decide)
  have mlt : mayN T sh s < 2 ^ 5 := bO_lt _ _
  refine bm_go (am_ok_all 19 (by decide)) 60 ?_
  refine And.intro (fun cd => by omega) (fun cd => ?_)
  refine And.intro (fun c2 => ?_) (fun c2 => by rw [T4] at c2; omega)
  refine And.intro (fun cd => absurd cd c0) (fun _ => ?_)
  refine sp_allowed_17 (s := s) sh hok hc hL hs hk ?_
  refine sp_isIn (mayN T sh s) w rfl hx (by omega) (by omega) (fun e => ?_) (fun e => ?_)
  · rw [may_tb hw, hm] at e
    cases e
  · first | refine And.intro (fun cd => absurd cd (by decide)) (fun _ => ?_) | refine And.intro (fun _ => ?_) (fun cd => absurd cd (by decide)) | refine And.intro (fun cd => ?_) (fun cd => ?_)
    exact hQ
theorem cc_act_yes {x : Int32} (h : cB T sh t I) {d : Nat} {a : Nat → Nat} (hr : cR T sh d a I) (w : Nat) (hw : w < 5) (hx : x = nI w) (hm : may1 T sh (runS T sh (rd0 T) a d) w = true) (hd : d < 200) (hQ : ∀ I', frN [16, 17, 19] I I' → cR T sh (d + 1) (fun i => if i = d then w else a i) I' → Q (some (.int (nI (do1 T sh (runS T sh (rd0 T) a d) w).1))) t I' L) : bm_C G l 19 [.ref 0, .int x] t I L Q := by
  have c0 := h.c0
  have h0 := h
  obtain ⟨hok, hc, hs0, a1, hL, a4, hO, a13⟩ := h
  obtain ⟨r1, r2, r3, r4, r5⟩ := hr
  have xr := xn hx hw (by decide)
  have k0 := runS_ok hok sh (rd0_ok hok) a d
  have mlt : mayN T sh (runS T sh (rd0 T) a d) < 2 ^ 5 := bO_lt _ _
  have d16 : (I 16 1).toInt = (d : Int) := by rw [r2]; exact nI_toInt (by omega)
  have same : ∀ i, i ≤ d → runS T sh (rd0 T) (fun i => if i = d then w else a i) i = runS T sh (rd0 T) a i := by
    intro i
    induction i with
    | zero => intro _; rfl
    | succ i ih =>
      intro hi
      show do1 T sh (runS T sh (rd0 T) (fun i => if i = d then w else a i) i) (if i = d then w else a i) = do1 T sh (runS T sh (rd0 T) a i) (a i)
      rw [ih (by omega), if_neg (by omega)]
  refine bm_go (am_ok_all 19 (by decide)) 60 ?_
  refine And.intro (fun cd => by omega) (fun cd => ?_)
  refine And.intro (fun c2 => ?_) (fun c2 => by rw [T4] at c2; omega)
  refine And.intro (fun cd => absurd cd c0) (fun _ => ?_)
  refine sp_allowed_17 (s := runS T sh (rd0 T) a d) sh hok hc hL r3 k0 ?_
  refine sp_isIn (mayN T sh (runS T sh (rd0 T) a d)) w rfl hx (by omega) (by omega) (fun e => ?_) (fun e => ?_)
  · first | refine And.intro (fun cd => absurd cd (by decide)) (fun _ => ?_) | refine And.intro (fun _ => ?_) (fun cd => absurd cd (by decide)) | refine And.intro (fun cd => ?_) (fun cd => ?_)
    refine And.intro (fun c3 => ?_) (fun c3 => by rw [T200] at c3; omega)
    refine bm_go (am_ok_all 216 (by decide)) 60 ?_
    refine And.intro (fun c4 => absurd (show (I 16 1).toInt < 0 from c4) (by omega)) (fun _ => ?_)
    refine And.intro (fun c4 => absurd (show (200 : Int32).toInt ≤ (I 16 1).toInt from c4) (by rw [T200]; omega)) (fun _ => ?_)
    refine ⟨d, d16, (by omega : d < 200), ?_⟩
    have f0 : frN [16, 19] I (am_u (am_u I 19 d x) 16 1 (am_u I 19 d x 16 1 + 1)) := ((frN.refl _ _).u (by decide)).u (by decide)
    have b0 := h0.n f0 (by decide)
    have s0 : sC (runS T sh (rd0 T) a d) 17 (am_u (am_u I 19 d x) 16 1 (am_u I 19 d x 16 1 + 1)) := r3
    refine sp_carry_17 (s := runS T sh (rd0 T) a d) sh w hx hok b0.2.1 b0.2.2.2.2.1 s0 k0 (may_gOk hw hm) (fun I1 f1 s1 => ?_)
    have er : runS T sh (rd0 T) (fun i => if i = d then w else a i) (d + 1) = do1 T sh (runS T sh (rd0 T) a d) w := by
      show do1 T sh (runS T sh (rd0 T) (fun i => if i = d then w else a i) d) (if d = d then w else a d) = _
      rw [same d (Nat.le_refl _), if_pos rfl]
    have q := hQ I1 ((f0.mono (by decide)).trans (f1.mono (by decide))) ⟨by omega, ?_, by rw [er]; exact s1, ?_, fun i hi => ?_⟩
    · rw [← s1.1] at q
      exact q
    · rw [f1 16 (by decide)]
      show I 16 1 + 1 = _
      rw [r2, nI_succ]
    · unfold sC at r4 ⊢
      rw [f1 18 (by decide), f0 18 (by decide)]
      exact r4
    · rw [f1 19 (by decide), u_ne (show 19 ≠ 16 by decide), same i (by omega)]
      by_cases ei : i = d
      · subst ei
        rw [u_eq]
        show x = nI (if i = i then w else a i) ∧ gOk T (runS T sh (rd0 T) a i).1 (if i = i then w else a i)
        rw [if_pos rfl]
        exact ⟨hx, may_gOk hw hm⟩
      · rw [u_nj ei]
        show I 19 i = nI (if i = d then w else a i) ∧ gOk T (runS T sh (rd0 T) a i).1 (if i = d then w else a i)
        rw [if_neg ei]
        exact r5 i (by omega)
  · rw [may_tb hw, hm] at e
    cases e
end CC

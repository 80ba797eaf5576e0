/-! the class's calls: texts and towns, orders -/
theorem brt_st (P : Nat → Option Nat) (i : Nat) : brt P (i + 1) = match P i with
    | none => brt P i
    | some v => if (brt P i).2 < v ∨ (v = (brt P i).2 ∧ pc i < pc (brt P i).1) then (i, v) else brt P i := rfl
theorem brt_lt (P : Nat → Option Nat) (i : Nat) : (brt P (i + 1)).1 ≤ i := by
  have h := brt_le P i
  rw [brt_st]
  split
  · exact h
  · split
    · exact Nat.le_refl i
    · exact h
theorem brt_max {P : Nat → Option Nat} {j v : Nat} (e : P j = some v) : ∀ i, j < i → v ≤ (brt P i).2
  | 0, h => absurd h (Nat.not_lt_zero j)
  | i + 1, h => by
    rw [brt_st]
    by_cases q : j = i
    · subst q
      rw [e]
      show v ≤ (if _ then (j, v) else brt P j).2
      split
      · exact Nat.le_refl v
      · omega
    · have ih := brt_max e i (by omega)
      split
      · exact ih
      · split
        · show v ≤ _
          simp only
          omega
        · exact ih
section CC
variable {G : am_G} {l : Launch} {t : am_T} {I : am_I} {L : am_J} {Q : bm_P} {T : tT} {sh : Nat}
theorem cc_text {x y : Int32} (hx : x = nI 0) (n : Nat) (hn : n ≤ 80) (hy : y = nI n) (hQ : Q (some (.int (nI n))) t (am_f (am_u I 50 1 (nI n)) 51 80 32) L) : bm_C G l 7 [.ref 0, .int x, .int y] t I L Q := by
  have xt : x.toInt = 0 := by rw [hx]; rfl
  have yt : y.toInt = (n : Int) := by rw [hy]; exact nI_toInt (by omega)
  refine bm_go (am_ok_all 7 (by decide)) 30 ?_
  refine sp_renewed_t (fun cd => by omega) (fun k hk hx cd => by omega) (fun k hk hx2 c1 c2 => ?_)
  obtain rfl := xe hx hx2 (by decide) (by omega)
  rw [hy]
  exact hQ
theorem cc_put {x y v : Int32} (h : cZ I) (hx : x = nI 0) (j : Nat) (hy : y = nI j) (hj : (j : Int) < (I 50 1).toInt) (hQ : Q (some (.int (I 51 j + 1000))) t (am_u I 51 j v.toInt8.toInt32) L) : bm_C G l 8 [.ref 0, .int x, .int y, .int v] t I L Q := by
  have z1 := (h 6 (by decide)).2
  have c80 : cp 6 = 80 := rfl
  have e50 : I (38 + 2 * 6) 1 = I 50 1 := rfl
  rw [e50, c80] at z1
  have yt : y.toInt = (j : Int) := by rw [hy]; exact nI_toInt (by omega)
  have xt : x.toInt = 0 := by rw [hx]; rfl
  have one : ∀ k, k < 4 → x = nI k → k = 0 := fun k hk e => xe hx e (by decide) (by omega)
  refine sp_put (fun k hk => ?_) (fun cd => by omega) (fun k hk e cd => ?_) (fun k hk e _ cd => ?_) (fun k hk e _ _ => ?_)
  · have := (h (6 + k) (by omega)).2
    rw [show cp (6 + k) = 80 from if_neg (by omega)] at this
    exact this
  · obtain rfl := one k hk e
    have cd : (I 50 1).toInt < 0 := cd
    omega
  · obtain rfl := one k hk e
    have cd : y.toInt < 0 ∨ (I 50 1).toInt ≤ y.toInt := cd
    omega
  · obtain rfl := one k hk e
    have : y.toInt.toNat = j := by omega
    rw [this]
    exact hQ
theorem cc_fault {x : Int32} (hx : x = nI 0) (n q : Nat) (c : Nat → Int) (hn : n ≤ 80) (ht : txC 0 n c I) (hp : pP n c = (q, some T)) (hQ : ∀ I', frN [3, 4, 5, 6] I I' → Q (some (.int (-9))) (some 50, t.2) I' L) : bm_C G l 9 [.ref 0, .int x] t I L Q := by
  have xt : x.toInt = 0 := by rw [hx]; rfl
  have n50 : (I (38 + 2 * (6 + 0)) 1).toInt = (n : Int) := by rw [ht.1]; exact nI_toInt (by omega)
  refine bm_go (am_ok_all 9 (by decide)) 40 ?_
  refine sp_picked_t x (fun cd => by omega) (fun k hk hx2 => ?_)
  obtain rfl := xe hx hx2 (by decide) (by omega)
  refine sp_ref (6 + 0) (by decide) (fun cd => by omega) (fun cd => ?_)
  first | refine And.intro (fun cd => absurd cd (by decide)) (fun _ => ?_) | refine And.intro (fun _ => ?_) (fun cd => absurd cd (by decide)) | refine And.intro (fun cd => ?_) (fun cd => ?_)
  refine sp_read 0 n c (by decide) hn ht (fun q' T' I1 e f _ _ _ _ _ _ => ?_) (fun q' I1 e _ f => ?_)
  · exact hQ I1 f
  · rw [hp] at e
    cases e
theorem cc_town {x : Int32} (hx : x = nI 0) (n q : Nat) (c : Nat → Int) (hn : n ≤ 80) (ht : txC 0 n c I) (hp : pP n c = (q, some T)) (z13 : I 13 0 = nI 0) (z15 : I 15 0 = nI 0) (hQ : ∀ I', frN [0, 3, 4, 5, 6, 7, 8, 9, 10, 11, 13, 16, 17, 18, 22, 25] I I' → cB T 0 (some 50, t.2) I' → cR T 0 0 (fun _ => 0) I' → cS T 0 (fun _ => 0) (fun _ => 0) I' → Q (some (.int (nI (tN T)))) (some 50, t.2) I' L) : bm_C G l 10 [.ref 0, .int x] t I L Q := by
  have xt : x.toInt = 0 := by rw [hx]; rfl
  have n50 : (I (38 + 2 * (6 + 0)) 1).toInt = (n : Int) := by rw [ht.1]; exact nI_toInt (by omega)
  refine bm_go (am_ok_all 10 (by decide)) 60 ?_
  refine sp_picked_t x (fun cd => by omega) (fun k hk hx2 => ?_)
  obtain rfl := xe hx hx2 (by decide) (by omega)
  refine sp_ref (6 + 0) (by decide) (fun cd => by omega) (fun cd => ?_)
  first | refine And.intro (fun cd => absurd cd (by decide)) (fun _ => ?_) | refine And.intro (fun _ => ?_) (fun cd => absurd cd (by decide)) | refine And.intro (fun cd => ?_) (fun cd => ?_)
  refine sp_read 0 n c (by decide) hn ht (fun q' T' I1 e f e0 e1 e2 e3 e4 er => ?_) (fun q' I1 e _ f => ?_)
  · rw [hp] at e
    cases e
    first | refine And.intro (fun cd => absurd cd (by decide)) (fun _ => ?_) | refine And.intro (fun _ => ?_) (fun cd => absurd cd (by decide)) | refine And.intro (fun cd => ?_) (fun cd => ?_)
    have hT := pP_ok hp
    refine sp_build hT e0 e1 e2 e3 e4 er (fun I2 f2 hc => ?_)
    have f02 : frN [0, 3, 4, 5, 6, 7, 8, 9, 10, 11, 13, 16, 17, 18, 22, 25] I I2 := (f.mono (by decide)).trans (f2.mono (by decide))
    refine sp_lightsChanged 0 (Or.inl hT) (by exact hc) rfl (by decide) ?_ (fun I3 f3 hL hst => ?_)
    · show I2 13 0 = _
      rw [f2 13 (by decide), f 13 (by decide)]
      exact z13
    · have f23 : frN [0, 3, 4, 5, 6, 7, 8, 9, 10, 11, 13, 16, 17, 18, 22, 25] I I3 := (f02.u (a := 0) (j := 14) (v := 0) (by decide)).trans (fun x hx => f3 x (fun q => hx (by simp at q; rcases q with rfl | rfl <;> decide)))
      have hc3 : cT T I3 := by
        unfold cT cG cLp at hc ⊢
        rw [f3 7 (by decide), f3 8 (by decide), f3 9 (by decide), f3 10 (by decide), f3 11 (by decide)]
        exact hc
      refine sp_beginAt (tD T) hc3.2.2.1 (fun I4 f4 s17 s18 e16 => ?_)
      have hc4 : cT T I4 := hc3.n f4 (by decide)
      have f04 := ((f23.trans (f4.mono (by decide))).u (a := 22) (j := 0) (v := 0) (by decide)).u (a := 0) (j := 13) (v := 0) (by decide)
      have q := hQ _ f04 ⟨hT, hc4, Nat.two_pow_pos _, ?_, fun s hs => ?_, ?_, Or.inl ?_, rfl⟩ ⟨by omega, e16, s17, s18, fun i hi => absurd hi (Nat.not_lt_zero i)⟩ ⟨by omega, rfl, fun i hi => absurd hi (Nat.not_lt_zero i)⟩
      · rw [← hc4.2.2.2.1] at q
        exact q
      · show I4 0 14 = nI 0
        rw [f4 0 (by decide), f3 0 (by decide)]
        rfl
      · show I4 13 s = _
        rw [f4 13 (by decide)]
        exact hL s hs
      · rw [f04 15 (by decide)]
        exact z15
      · show I4 25 1 = 1
        rw [f4 25 (by decide)]
        exact hst
  · rw [hp] at e
    cases e
theorem lrn_f {I I1 I2 : am_I} {cs : List Nat} (f1 : frN exL I I1) (f2 : frN cs I1 I2) (hd : ∀ x, x ∈ cs → x ∈ 36 :: 37 :: exP) : frN (36 :: 37 :: exP) I I2 := (f1.mono (by decide)).trans (f2.mono hd)
theorem cc_first (h : cB T sh t I) (hQ : ∀ I', frN (36 :: 37 :: exP) I I' → cB T sh (t.1, some 7, some 12) I' → Q (some (.int (nI (bO (tN T) (fun k => (fby T sh k).isSome))))) (t.1, some 7, some 12) I' L) : bm_C G l 28 [.ref 0] t I L Q := by
  have c0 := h.c0
  have h0 := h
  obtain ⟨hok, hc, hs, a1, hL, a4, hO, a13⟩ := h
  have n6 : tN T ≤ 6 := hok.2.2.2.1
  refine bm_go (am_ok_all 28 (by decide)) 60 ?_
  refine And.intro (fun _ => ?_) (fun cd => absurd cd c0)
  refine sp_learn sh hok hc hL hO (fun I1 f1 e1 e3 e4 tb => ?_)
  have b1 := h0.ln f1 (by decide) e1 e3 e4 tb
  refine sp_lasts sh n6 e3 e4 tb ?_
  refine sp_firsts sh n6 e3 tb ?_
  refine sp_besides ?_
  have f2 : frN [36] I1 (am_u I1 36 0 (nI (bO (tN T) (fun k => (Fo (gap T sh) (al T) k).isSome)))) := (frN.refl _ _).u (by decide)
  exact hQ _ (lrn_f f1 f2 (by decide)) (b1.n f2 (by decide))
theorem cc_dark (h : cB T sh t I) (hQ : ∀ b I', mnm (fun s => Fm (gap T sh) (al T - s) ≠ none) (al T) b → frN (36 :: 37 :: exP) I I' → cB T sh (t.1, some 7, some 12) I' → I' 36 0 = nI b → Q (some (.int (nI (pc b)))) (t.1, some 7, some 12) I' L) : bm_C G l 31 [.ref 0] t I L Q := by
  have c0 := h.c0
  have h0 := h
  obtain ⟨hok, hc, hs, a1, hL, a4, hO, a13⟩ := h
  have n6 : tN T ≤ 6 := hok.2.2.2.1
  have a64 := al_lt (Or.inl hok : tOK T)
  refine bm_go (am_ok_all 31 (by decide)) 60 ?_
  refine And.intro (fun _ => ?_) (fun cd => absurd cd c0)
  refine sp_learn sh hok hc hL hO (fun I1 f1 e1 e3 e4 tb => ?_)
  have b1 := h0.ln f1 (by decide) e1 e3 e4 tb
  refine sp_fewestDark sh n6 e4 tb.2.2.2 (fun b hb => ?_)
  refine sp_bitCount b rfl (by have := hb.1; omega) ?_
  refine sp_besides ?_
  have f2 : frN [36] I1 (am_u I1 36 0 (nI b)) := (frN.refl _ _).u (by decide)
  exact hQ b _ hb (lrn_f f1 f2 (by decide)) (b1.n f2 (by decide)) rfl
theorem cc_bright (h : cB T sh t I) (hQ : ∀ I', frN (36 :: 37 :: exP) I I' → cB T sh (t.1, some 7, some 12) I' → I' 36 0 = nI (brt (brP T sh) (al T + 1)).1 → Q (some (.int (nI (pc (lit T sh (brt (brP T sh) (al T + 1)).1))))) (t.1, some 7, some 12) I' L) : bm_C G l 32 [.ref 0] t I L Q := by
  have c0 := h.c0
  have h0 := h
  obtain ⟨hok, hc, hs, a1, hL, a4, hO, a13⟩ := h
  have hT : tOK T := Or.inl hok
  have n6 : tN T ≤ 6 := hok.2.2.2.1
  have a64 := al_lt hT
  refine bm_go (am_ok_all 32 (by decide)) 60 ?_
  refine And.intro (fun _ => ?_) (fun cd => absurd cd c0)
  refine sp_learn sh hok hc hL hO (fun I1 f1 e1 e3 e4 tb => ?_)
  have b1 := h0.ln f1 (by decide) e1 e3 e4 tb
  have hL1 : cL T sh 13 I1 := hL.n f1 (by decide)
  refine sp_brightest sh n6 hok e4 rfl hL1 tb.2.2.2 ?_
  have bl : (brt (brP T sh) (al T + 1)).1 < 64 := by have := brt_lt (brP T sh) (al T); omega
  have l24 := lit_24 hT sh (brt (brP T sh) (al T + 1)).1
  refine sp_of 12 (Or.inl rfl) _ rfl (by omega) ?_
  rw [hL1 _ (by omega)]
  refine sp_bitCount _ rfl (w24 l24) ?_
  refine sp_besides ?_
  have f2 : frN [36] I1 (am_u I1 36 0 (nI (brt (brP T sh) (al T + 1)).1)) := (frN.refl _ _).u (by decide)
  exact hQ _ (lrn_f f1 f2 (by decide)) (b1.n f2 (by decide)) rfl
theorem cc_shades (h : cB T sh t I) (h0 : Fm (gap T (al T)) (al T) = none → ∀ I', frN (15 :: 36 :: 37 :: exP) I I' → cB T sh t I' → Q (some (.int (-9))) t I' L) (h1 : ∀ b I', mnm (shP T sh) (al T) b → frN (15 :: 36 :: 37 :: exP) I I' → cB T sh t I' → I' 36 0 = nI b → Q (some (.int (nI (pc b)))) t I' L) : bm_C G l 33 [.ref 0] t I L Q := by
  have hh := h
  obtain ⟨hok, hc, hs, a1, hL, a4, hO, a13⟩ := h
  have base : ∀ I1, frN [15, 26, 33] I I1 → I1 15 0 = nI 0 → cB T sh t I1 := fun I1 f1 z1 =>
    hh.fr (fun x hx => f1 x (by revert hx; revert x; decide)) (by rw [z1, a4]) (fun j _ => by rw [f1 25 (by decide)])
  refine sp_shades sh hok hc a1 hs a4 (fun e I1 f1 z1 => ?_) (fun b hb I1 f1 z1 => ?_)
  · exact h0 e I1 (f1.mono (by decide)) (base I1 f1 z1)
  · have f2 : frN [36] I1 (am_u I1 36 0 (nI b)) := (frN.refl _ _).u (by decide)
    exact h1 b _ hb ((f1.mono (by decide)).trans (f2.mono (by decide))) ((base I1 f1 z1).n f2 (by decide)) rfl
theorem uJ_at {L : am_J} {v w : Int64} : am_uJ (am_uJ L 36 1 v) 36 2 w 36 1 = v := by
  unfold am_uJ
  simp
theorem cc_orders (h : cB T sh t I) (hQ : ∀ I' L', frN (36 :: 37 :: exP) I I' → cB T sh (t.1, some 7, some 12) I' → L' 36 1 = (nI (Ws (gap T sh) aw (al T))).toInt64 → Q (some (.int 1)) (t.1, some 7, some 12) I' L') : bm_C G l 27 [.ref 0] t I L Q := by
  have c0 := h.c0
  have h0 := h
  obtain ⟨hok, hc, hs, a1, hL, a4, hO, a13⟩ := h
  have n6 : tN T ≤ 6 := hok.2.2.2.1
  have a64 := al_lt (Or.inl hok : tOK T)
  refine bm_go (am_ok_all 27 (by decide)) 60 ?_
  refine And.intro (fun _ => ?_) (fun cd => absurd cd c0)
  refine sp_learn sh hok hc hL hO (fun I1 f1 e1 e3 e4 tb => ?_)
  have b1 := h0.ln f1 (by decide) e1 e3 e4 tb
  refine sp_demandNothing (fun I2 f2 z2 => ?_)
  have r25 : I2 25 = I1 25 := f2 25 (by decide)
  refine sp_howManyO sh (fun _ => 0) n6 (fun _ => by decide) (by rw [r25]; exact e3) (by rw [r25]; exact e4) (by rw [f2 27 (by decide)]; exact tb.1) (fun k hk => z2 k hk) (fun I3 f3 => ?_)
  have wl := Ws_lt (gap T sh) aw a64
  rw [okD_0]
  refine sp_fraction (Ws (gap T sh) aw (al T)) 1 rfl rfl (by omega) (by decide) ?_
  refine hQ _ _ (lrn_f f1 (f2.mono (ds := [31, 32]) (by decide) |>.trans (f3.mono (by decide))) (by decide)) ((b1.n f2 (by decide)).n f3 (by decide)) ?_
  rw [uJ_at, Nat.gcd_one_right]
  show (nI (Ws (gap T sh) aw (al T) / 1)).toInt64 = _
  rw [Nat.div_one]
/-- how many orders fit what was seen -/
def Wf (T : tT) (sh m : Nat) (a b : Nat → Nat) : Nat := Ws (gap T sh) (okD (dmd a b m)) (al T)
def Wh (T : tT) (sh m : Nat) (a b : Nat → Nat) (j k : Nat) : Nat := Ws (gap T sh) (okD (fun q => if q = k then dmd a b m q ||| 1 <<< j else dmd a b m q)) (al T)
theorem cS.six {m : Nat} {a b : Nat → Nat} (hS : cS T m a b I) (h6 : tN T ≤ 6) : ∃ a' b' : Nat → Nat, (∀ i, a' i < 6) ∧ (∀ i, i < m → a' i = a i ∧ b' i = b i) ∧ dmd a' b' m = dmd a b m := by
  refine ⟨fun i => if i < m then a i else 0, fun i => if i < m then b i else 0, fun i => ?_, fun i hi => ⟨if_pos hi, if_pos hi⟩, ?_⟩
  · show (if i < m then a i else 0) < 6
    split
    · rename_i q
      have := (hS.2.2 i q).1
      omega
    · decide
  · have key : ∀ d, d ≤ m → dmd (fun i => if i < m then a i else 0) (fun i => if i < m then b i else 0) d = dmd a b d := by
      intro d
      induction d with
      | zero => intro _; rfl
      | succ d ih =>
        intro hd
        funext q
        unfold dmd
        rw [ih (by omega), if_pos (show d < m by omega), if_pos (show d < m by omega)]
    exact key m (Nat.le_refl _)
theorem cc_fits (h : cB T sh t I) {m : Nat} {a b : Nat → Nat} (hS : cS T m a b I) (hA : Ws (gap T sh) aw (al T) ≠ 0) (hQ : ∀ I' L', frN (36 :: 37 :: exP) I I' → cB T sh (t.1, some 7, some 12) I' → Q (some (.int (nI (Wf T sh m a b)))) (t.1, some 7, some 12) I' L') : bm_C G l 38 [.ref 0] t I L Q := by
  have c0 := h.c0
  have h0 := h
  obtain ⟨hok, hc, hs, a1, hL, a4, hO, a13⟩ := h
  have n6 : tN T ≤ 6 := hok.2.2.2.1
  have a64 := al_lt (Or.inl hok : tOK T)
  obtain ⟨a', b', s6, sab, sd⟩ := hS.six n6
  obtain ⟨m8, e22, hab⟩ := hS
  refine bm_go (am_ok_all 38 (by decide)) 60 ?_
  refine And.intro (fun _ => ?_) (fun cd => absurd cd c0)
  refine sp_learn sh hok hc hL hO (fun I1 f1 e1 e3 e4 tb => ?_)
  have b1 := h0.ln f1 (by decide) e1 e3 e4 tb
  refine sp_demandNothing (fun I2 f2 z2 => ?_)
  have r25 : I2 25 = I1 25 := f2 25 (by decide)
  refine sp_howManyO sh (fun _ => 0) n6 (fun _ => by decide) (by rw [r25]; exact e3) (by rw [r25]; exact e4) (by rw [f2 27 (by decide)]; exact tb.1) (fun k hk => z2 k hk) (fun I3 f3 => ?_)
  have wl := Ws_lt (gap T sh) aw a64
  rw [okD_0]
  have b3 := (b1.n f2 (by decide)).n f3 (by decide)
  have tA : (nI (Ws (gap T sh) aw (al T))).toInt = (Ws (gap T sh) aw (al T) : Int) := nI_toInt (by omega)
  have f13 : frN exP I I3 := ((f1.mono (by decide)).trans (f2.mono (by decide))).trans (f3.mono (by decide))
  refine And.intro (fun cd => ?_) (fun cd => ?_)
  · refine sp_demandOf m a' b' m8 (by rw [f13 22 (by decide)]; exact e22) (fun i hi => ⟨s6 i, by rw [(sab i hi).2]; have := (hab i hi).2.1; omega, by rw [f13 23 (by decide), (sab i hi).1]; exact (hab i hi).2.2.2.1, by rw [f13 24 (by decide), (sab i hi).2]; exact (hab i hi).2.2.2.2⟩) (fun k hk => by rw [f3 32 (by decide)]; exact z2 k hk) (fun I4 f4 z4 => ?_)
    have r4 : I4 25 = I1 25 := by rw [f4 25 (by decide), f3 25 (by decide), r25]
    refine sp_howManyO sh (dmd a' b' m) n6 (fun k => dmd_lt s6 m k) (by rw [r4]; exact e3) (by rw [r4]; exact e4) (by rw [f4 27 (by decide), f3 27 (by decide), f2 27 (by decide)]; exact tb.1) z4 (fun I5 f5 => ?_)
    have wl2 := Ws_lt (gap T sh) (okD (dmd a' b' m)) a64
    refine sp_fraction (Ws (gap T sh) (okD (dmd a' b' m)) (al T)) (Ws (gap T sh) aw (al T)) rfl rfl (by omega) (by omega) ?_
    rw [sd]
    exact hQ _ _ (((f13.mono (by decide)).trans (f4.mono (by decide))).trans (f5.mono (by decide))) ((b3.n f4 (by decide)).n f5 (by decide))
  · rw [tA] at cd
    have cd : (Ws (gap T sh) aw (al T) : Int) = 0 := cd
    omega
theorem cc_sure {x y : Int32} (h : cB T sh t I) {m : Nat} {a b : Nat → Nat} (hS : cS T m a b I) (j k : Nat) (hj : j < tN T) (hk : k < tN T) (jk : j ≠ k) (hx : x = nI j) (hy : y = nI k) (hQ : ∀ z I', (Wf T sh m a b = 0 → z = -3) → (Wf T sh m a b ≠ 0 → z = if Wh T sh m a b j k = 0 then 0 else if Wh T sh m a b j k = Wf T sh m a b then 1 else 2) → frN (36 :: 37 :: exP) I I' → cB T sh (t.1, some 7, some 12) I' → Q (some (.int z)) (t.1, some 7, some 12) I' L) : bm_C G l 39 [.ref 0, .int x, .int y] t I L Q := by
  have h0 := h
  obtain ⟨hok, hc, hs, a1, hL, a4, hO, a13⟩ := h
  have hT : tOK T := Or.inl hok
  have n6 : tN T ≤ 6 := hok.2.2.2.1
  have a64 := al_lt hT
  obtain ⟨a', b', s6, sab, sd⟩ := hS.six n6
  obtain ⟨m8, e22, hab⟩ := hS
  have xr := xn hx hj (by omega)
  have yr := xn hy hk (by omega)
  refine bm_go (am_ok_all 39 (by decide)) 60 ?_
  refine sp_isLamp hT hc.2.2.2.1 (fun _ _ _ => ?_) (fun cd => by omega)
  first | refine And.intro (fun cd => absurd cd (by decide)) (fun _ => ?_) | refine And.intro (fun _ => ?_) (fun cd => absurd cd (by decide)) | refine And.intro (fun cd => ?_) (fun cd => ?_)
  refine sp_isLamp hT hc.2.2.2.1 (fun _ _ _ => ?_) (fun cd => by omega)
  first | refine And.intro (fun cd => absurd cd (by decide)) (fun _ => ?_) | refine And.intro (fun _ => ?_) (fun cd => absurd cd (by decide)) | refine And.intro (fun cd => ?_) (fun cd => ?_)
  have tj : x.toInt = (j : Int) := by rw [hx]; exact nI_toInt (by omega)
  have tk : y.toInt = (k : Int) := by rw [hy]; exact nI_toInt (by omega)
  refine And.intro (fun cd => ?_) (fun cd => ?_)
  rotate_left
  · rw [tj, tk] at cd
    omega
  refine sp_learn sh hok hc hL hO (fun I1 f1 e1 e3 e4 tb => ?_)
  have b1 := h0.ln f1 (by decide) e1 e3 e4 tb
  refine sp_demandNothing (fun I2 f2 z2 => ?_)
  have f12 : frN exP I I2 := (f1.mono (by decide)).trans (f2.mono (by decide))
  refine sp_demandOf m a' b' m8 (by rw [f12 22 (by decide)]; exact e22) (fun i hi => ⟨s6 i, by rw [(sab i hi).2]; have := (hab i hi).2.1; omega, by rw [f12 23 (by decide), (sab i hi).1]; exact (hab i hi).2.2.2.1, by rw [f12 24 (by decide), (sab i hi).2]; exact (hab i hi).2.2.2.2⟩) z2 (fun I4 f4 z4 => ?_)
  have r4 : I4 25 = I1 25 := by rw [f4 25 (by decide), f2 25 (by decide)]
  refine sp_howManyO sh (dmd a' b' m) n6 (fun k => dmd_lt s6 m k) (by rw [r4]; exact e3) (by rw [r4]; exact e4) (by rw [f4 27 (by decide), f2 27 (by decide)]; exact tb.1) z4 (fun I5 f5 => ?_)
  have f15 : frN [31, 32] I1 I5 := ((f2.mono (by decide)).trans (f4.mono (by decide))).trans (f5.mono (by decide))
  have b5 := b1.n f15 (by decide)
  have g5 : frN (36 :: 37 :: exP) I I5 := lrn_f f1 f15 (by decide)
  have wl2 := Ws_lt (gap T sh) (okD (dmd a' b' m)) a64
  have eB : Ws (gap T sh) (okD (dmd a' b' m)) (al T) = Wf T sh m a b := by rw [sd]; rfl
  rw [eB] at wl2 ⊢
  have tB : (nI (Wf T sh m a b)).toInt = (Wf T sh m a b : Int) := nI_toInt (by omega)
  refine And.intro (fun cB => ?_) (fun cB => ?_)
  · have B0 : Wf T sh m a b ≠ 0 := fun e => cB (by rw [e]; rfl)
    refine sp_demand j k (dmd a' b' m k) hx hy (by omega) (by omega) (by rw [f5 32 (by decide)]; exact z4 k (by omega)) ?_
    generalize hI6 : am_u I5 32 k (nI (dmd a' b' m k ||| 1 <<< j)) = I6
    have f6 : frN [32] I5 I6 := by rw [← hI6]; exact (frN.refl _ _).u (by decide)
    have z6 : ∀ q, q < 8 → I6 32 q = nI ((fun q => if q = k then dmd a' b' m q ||| 1 <<< j else dmd a' b' m q) q) := by
      intro q hq
      rw [← hI6]
      by_cases e : q = k
      · subst e
        rw [u_eq]
        show _ = nI (if q = q then _ else _)
        rw [if_pos rfl]
      · rw [u_nj e, f5 32 (by decide), z4 q hq]
        show _ = nI (if q = k then _ else _)
        rw [if_neg e]
    have r6 : I6 25 = I1 25 := by rw [f6 25 (by decide), f15 25 (by decide)]
    refine sp_howManyO sh _ n6 (fun q => ?_) (by rw [r6]; exact e3) (by rw [r6]; exact e4) (by rw [f6 27 (by decide), f15 27 (by decide)]; exact tb.1) z6 (fun I7 f7 => ?_)
    · have := dmd_lt (b := b') s6 m q
      show (if q = k then dmd a' b' m q ||| 1 <<< j else dmd a' b' m q) < 64
      split
      · exact or_lt (n := 6) this (one_lt (by omega))
      · exact this
    have wl3 := Ws_lt (gap T sh) (okD (fun q => if q = k then dmd a' b' m q ||| 1 <<< j else dmd a' b' m q)) a64
    have eA : Ws (gap T sh) (okD (fun q => if q = k then dmd a' b' m q ||| 1 <<< j else dmd a' b' m q)) (al T) = Wh T sh m a b j k := by rw [sd]; rfl
    rw [eA] at wl3 ⊢
    have tA : (nI (Wh T sh m a b j k)).toInt = (Wh T sh m a b j k : Int) := nI_toInt (by omega)
    have b7 := (b5.n f6 (by decide)).n f7 (by decide)
    have g7 : frN (36 :: 37 :: exP) I I7 := (g5.trans (f6.mono (by decide))).trans (f7.mono (by decide))
    refine And.intro (fun d => ?_) (fun d => ?_)
    · rw [tA] at d
      have d : ¬ ((Wh T sh m a b j k : Int) = 0) := d
      refine And.intro (fun c => ?_) (fun c => ?_)
      · rw [tA, tB] at c
        exact hQ _ _ (fun e => absurd e B0) (fun _ => by rw [if_neg (by omega), if_neg (by omega)]) g7 b7
      · rw [tA, tB] at c
        exact hQ _ _ (fun e => absurd e B0) (fun _ => by rw [if_neg (by omega), if_pos (by omega)]) g7 b7
    · rw [tA] at d
      have d : (Wh T sh m a b j k : Int) = 0 := d
      exact hQ _ _ (fun e => absurd e B0) (fun _ => by rw [if_pos (by omega)]) g7 b7
  · have B0 : Wf T sh m a b = 0 := by
      rw [tB] at cB
      have cB : (Wf T sh m a b : Int) = 0 := cB
      omega
    refine sp_found 4 rfl (by decide) ?_
    have f8 : frN [36, 37] I5 (am_u (am_u I5 36 3 4) 37 4 (I5 37 4 + 1)) := ((frN.refl _ _).u (by decide)).u (by decide)
    exact hQ _ _ (fun _ => rfl) (fun e => absurd B0 e) (g5.trans (f8.mono (by decide))) (b5.n f8 (by decide))
end CC

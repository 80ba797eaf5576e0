/-! the class's calls: undo, shade, rows, what was seen -/
section CC
variable {G : am_G} {l : Launch} {t : am_T} {I : am_I} {L : am_J} {Q : bm_P} {T : tT} {sh : Nat}
theorem cT.n {I I' : am_I} {cs : List Nat} (h : cT T I) (f : frN cs I I') (hd : ∀ x, x ∈ [7, 8, 9, 10, 11] → x ∉ cs) : cT T I' := h.fr (fun x hx => f x (hd x hx))
theorem cL.n {c : Nat} {I I' : am_I} {cs : List Nat} (h : cL T sh c I) (f : frN cs I I') (hd : c ∉ cs) : cL T sh c I' := fun s hs => by rw [f c hd]; exact h s hs
theorem sC.n {s : sT} {c : Nat} {I I' : am_I} {cs : List Nat} (h : sC s c I) (f : frN cs I I') (hd : c ∉ cs) : sC s c I' := by
  unfold sC at h ⊢
  rw [f c hd]
  exact h
theorem sp_goBack {b : sT} {x : Int32} (m : Nat) (hx : x = nI m) (hm : m ≤ 200) (hT : tOk T) (hc : cT T I) (hL : cL T sh 13 I) (hb : sC b 18 I) (kb : sOk T b) (a : Nat → Nat) (ha : ∀ i, i < m → I 19 i = nI (a i) ∧ gOk T (runS T sh b a i).1 (a i)) (h : ∀ I', frN [16, 17] I I' → sC (runS T sh b a m) 17 I' → I' 16 1 = nI m → Q none t I' L) : bm_C G l 217 [.ref 16, .ref 7, .ref 12, .int x] t I L Q := by
  have lp : ∀ d i y (I1 : am_I), m - i = d → i ≤ m → y = nI i → frN [16, 17] I I1 → sC (runS T sh b a i) 17 I1 → I1 16 1 = nI m → bm_W G l 217 25 [some (.ref 16), some (.ref 7), some (.ref 12), some (.int x), some (.int y)] [] t I1 L Q := by
    intro d
    induction d with
    | zero =>
      intro i y I1 hd hi hy f1 s1 e1
      obtain rfl : i = m := by omega
      subst hy
      refine bm_go (am_ok_all 217 (by decide)) 40 ?_
      refine And.intro (fun cd => h I1 f1 s1 e1) (fun cd => ?_)
      rw [e1] at cd
      omega
    | succ d ih =>
      intro i y I1 hd hi hy f1 s1 e1
      subst hy
      refine bm_go (am_ok_all 217 (by decide)) 40 ?_
      refine And.intro (fun cd => ?_) (fun cd => ?_)
      · rw [e1, nI_toInt (by omega), nI_toInt (by omega)] at cd
        omega
      · refine ⟨i, nI_toInt (by omega), (by omega : i < 200), ?_⟩
        refine sp_carry_17 (s := runS T sh b a i) sh (a i) ?_ hT (hc.n f1 (by decide)) (hL.n f1 (by decide)) s1 (runS_ok hT sh kb a i) (ha i (by omega)).2 (fun I2 f2 s2 => ?_)
        · rw [f1 19 (by decide)]
          exact (ha i (by omega)).1
        · refine ih (i + 1) _ I2 (by omega) (by omega) (nI_succ i).symm (f1.trans (f2.mono (by decide))) s2 ?_
          rw [f2 16 (by decide)]
          exact e1
  refine bm_go (am_ok_all 217 (by decide)) 40 ?_
  refine sp_like_17_18 (fun I1 f1 e1 => ?_) hb.z
  intro z hz
  have hz2 : z = nI m := by
    apply Int32.toInt_inj.mp
    rw [hz, hx, nI_toInt (by omega), T200]
    omega
  refine lp m 0 _ _ rfl (Nat.zero_le _) rfl ((f1.mono (by decide)).u (by decide)) ?_ ?_
  · have := hb.like e1
    exact this
  · show z = _
    exact hz2
theorem cc_undo {x : Int32} (h : cB T sh t I) {d : Nat} {a : Nat → Nat} (hr : cR T sh d a I) (m : Nat) (hm : m ≤ d) (hx : x = nI m) (hQ : ∀ I', frN [16, 17] I I' → cR T sh m a I' → Q (some (.int (nI (d - m)))) t I' L) : bm_C G l 22 [.ref 0, .int x] t I L Q := by
  obtain ⟨hok, hc, hs0, a1, hL, a4, hO, a13⟩ := h
  obtain ⟨r1, r2, r3, r4, r5⟩ := hr
  have d16 : (I 16 1).toInt = (d : Int) := by rw [r2]; exact nI_toInt (by omega)
  have xt : x.toInt = (m : Int) := by rw [hx]; exact nI_toInt (by omega)
  refine bm_go (am_ok_all 22 (by decide)) 40 ?_
  refine And.intro (fun cd => by omega) (fun cd => ?_)
  refine And.intro (fun c2 => ?_) (fun c2 => by omega)
  refine sp_goBack m hx (by omega) hok hc hL r4 (rd0_ok hok) a (fun i hi => r5 i (by omega)) (fun I1 f1 s1 e1 => ?_)
  have q := hQ I1 f1 ⟨by omega, e1, s1, r4.n f1 (by decide), fun i hi => by rw [f1 19 (by decide)]; exact r5 i (by omega)⟩
  have e : I 16 1 - x = nI (d - m) := by rw [r2, hx, pk_sub hm]
  rw [← e] at q
  exact q
theorem cc_shade {x y : Int32} (h : cB T sh t I) (h17 : I 17 1 = nI 0) (k b : Nat) (hk : k < tN T) (hb2 : b < 2) (hx : x = nI k) (hy : y = nI b) (hQ : ∀ I', (∀ x, x ∉ [0, 13, 25] → I' x = I x) → cB T (if (if sh.testBit k then 1 else 0) = b then sh else sh ^^^ 1 <<< k) t I' → Q (some (.int (nI (if sh.testBit k then 1 else 0)))) t I' L) : bm_C G l 16 [.ref 0, .int x, .int y] t I L Q := by
  have h0 := h
  obtain ⟨hok, hc, hs, a1, hL, a4, hO, a13⟩ := h
  have hT : tOK T := Or.inl hok
  have n6 := hT.n6
  have p6 := Nat.pow_le_pow_right (n := 2) (by decide) n6
  have xr := xn hx hk (by omega)
  have yr := xn hy hb2 (by omega)
  refine bm_go (am_ok_all 16 (by decide)) 60 ?_
  refine sp_isLamp hT hc.2.2.2.1 (fun k2 hk2 hx2 => ?_) (fun cd => by omega)
  first | refine And.intro (fun cd => absurd cd (by decide)) (fun _ => ?_) | refine And.intro (fun _ => ?_) (fun cd => absurd cd (by decide)) | refine And.intro (fun cd => ?_) (fun cd => ?_)
  refine And.intro (fun cd => by omega) (fun cd => ?_)
  refine And.intro (fun c2 => ?_) (fun c2 => by rw [T1] at c2; omega)
  refine sp_isIn 0 k h17 hx (by decide) (by omega) (fun e => ?_) (fun e => ?_)
  · rw [Nat.zero_testBit] at e
    cases e
  · first | refine And.intro (fun cd => absurd cd (by decide)) (fun _ => ?_) | refine And.intro (fun _ => ?_) (fun cd => absurd cd (by decide)) | refine And.intro (fun cd => ?_) (fun cd => ?_)
    refine sp_bit sh k a1 hx (by omega) (by omega) ?_
    refine And.intro (fun c3 => ?_) (fun c3 => ?_)
    rotate_left
    · have hne : ¬ (if sh.testBit k then 1 else 0) = b := fun q => c3 (by rw [q, hy])
      have xs : sh ^^^ 1 <<< k < 2 ^ tN T := Nat.xor_lt_two_pow hs (one_lt hk)
      have e14 : I 0 14 ^^^ (1 : Int32) <<< (x &&& 31) = nI (sh ^^^ 1 <<< k) := by rw [a1, hx, shl1 (by omega), n_xor]
      refine sp_lightsChanged (T := T) (I := am_u I 0 14 (I 0 14 ^^^ (1 : Int32) <<< (x &&& 31))) (sh ^^^ 1 <<< k) hT ?_ e14 (by omega) ?_ (fun I2 f2 l2 s2 => ?_)
      · unfold cT cG cLp at hc ⊢
        exact hc
      · show I 13 0 = nI 0
        rw [hL 0 (by decide), lit_0]
      · have q := hQ I2 (fun x hx => ?_) ?_
        · exact q
        · rw [f2 x (fun q => hx (by simp at q; rcases q with rfl | rfl <;> decide)), u_ne (fun q => hx (by rw [q]; decide))]
        · rw [if_neg hne]
          refine ⟨hok, hc.fr (fun x hx => ?_), xs, by rw [f2 0 (by decide)]; exact e14, l2, by rw [f2 15 (by decide)]; exact a4, Or.inl s2, by rw [f2 0 (by decide)]; exact a13⟩
          rw [f2 x (by revert hx; revert x; decide), u_ne (by revert hx; revert x; decide)]
    · have heq : (if sh.testBit k then 1 else 0) = b := by
        rw [hy] at c3
        have c3 : (nI (if sh.testBit k then 1 else 0)).toInt = (nI b).toInt := c3
        rw [nI_toInt (by split <;> decide), nI_toInt (by omega)] at c3
        omega
      refine hQ I (fun _ _ => rfl) ?_
      rw [if_pos heq]
      exact h0
/-- the sizes of rows and texts are what they may be -/
def cZ (I : am_I) : Prop := ∀ k, k < 10 → -1 ≤ (I (38 + 2 * k) 1).toInt ∧ (I (38 + 2 * k) 1).toInt ≤ (cp k : Int)
theorem cZ.fr {I I' : am_I} (h : cZ I) (f : ∀ k, k < 10 → I' (38 + 2 * k) 1 = I (38 + 2 * k) 1) : cZ I' := fun k hk => by rw [f k hk]; exact h k hk
theorem cc_at {x y : Int32} (h : cZ I) (j : Nat) (hx : x = nI 1) (hy : y = nI j) (hj : (j : Int) < (I 40 1).toInt) (hQ : Q (some (.int 1)) t (am_u I 36 0 (I 41 j)) L) : bm_C G l 3 [.ref 0, .int x, .int y] t I L Q := by
  have z1 := (h 1 (by decide)).2
  have c60 : cp 1 = 60 := rfl
  have e40 : I (38 + 2 * 1) 1 = I 40 1 := rfl
  rw [e40, c60] at z1
  have yt : y.toInt = (j : Int) := by rw [hy]; exact nI_toInt (by omega)
  have xt : x.toInt = 1 := by rw [hx]; rfl
  have one : ∀ k, k < 6 → x = nI k → k = 1 := fun k hk e => xe hx e (by decide) (by omega)
  refine sp_at (fun k hk => ?_) (fun cd => by omega) (fun k hk e cd => ?_) (fun k hk e _ cd => ?_) (fun k hk e _ _ => ?_)
  · have := (h k (by omega)).2
    rw [show cp k = 60 from if_pos hk] at this
    exact this
  · obtain rfl := one k hk e
    have cd : (I 40 1).toInt < 0 := cd
    omega
  · obtain rfl := one k hk e
    have cd : y.toInt < 0 ∨ (I 40 1).toInt ≤ y.toInt := cd
    omega
  · obtain rfl := one k hk e
    have : y.toInt.toNat = j := by omega
    rw [this]
    exact hQ
theorem cc_tear {x : Int32} (hx : x = nI 1) (h0 : 0 ≤ (I 40 1).toInt) (hQ : Q (some (.int 1)) t (am_u I 40 1 (-1)) L) : bm_C G l 4 [.ref 0, .int x] t I L Q := by
  have xt : x.toInt = 1 := by rw [hx]; rfl
  have one : ∀ k, k < 6 → x = nI k → k = 1 := fun k hk e => xe hx e (by decide) (by omega)
  refine sp_tear (fun cd => by omega) (fun k hk e cd => ?_) (fun k hk e _ => ?_)
  · obtain rfl := one k hk e
    have cd : (I 40 1).toInt < 0 := cd
    omega
  · obtain rfl := one k hk e
    exact hQ
theorem cc_saw {x y : Int32} (h : cB T sh t I) {m : Nat} {a b : Nat → Nat} (hS : cS T m a b I) (hm : m < 8) (k j : Nat) (hk : k < tN T) (hj : j < tN T) (kj : k ≠ j) (hx : x = nI k) (hy : y = nI j) (hQ : ∀ I', frN [22, 23, 24] I I' → cS T (m + 1) (fun i => if i = m then k else a i) (fun i => if i = m then j else b i) I' → Q (some (.int (nI m))) t I' L) : bm_C G l 36 [.ref 0, .int x, .int y] t I L Q := by
  obtain ⟨hok, hc, hs, a1, hL, a4, hO, a13⟩ := h
  obtain ⟨s1, s2, s4⟩ := hS
  have hT : tOK T := Or.inl hok
  have n6 := hT.n6
  have xr := xn hx hk (by omega)
  have yr := xn hy hj (by omega)
  have m8 : (I 22 0).toInt = (m : Int) := by rw [s2]; exact nI_toInt (by omega)
  refine bm_go (am_ok_all 36 (by decide)) 40 ?_
  refine sp_isLamp hT hc.2.2.2.1 (fun k2 hk2 hx2 => ?_) (fun cd => by omega)
  first | refine And.intro (fun cd => absurd cd (by decide)) (fun _ => ?_) | refine And.intro (fun _ => ?_) (fun cd => absurd cd (by decide)) | refine And.intro (fun cd => ?_) (fun cd => ?_)
  refine sp_isLamp hT hc.2.2.2.1 (fun j2 hj2 hy2 => ?_) (fun cd => by omega)
  first | refine And.intro (fun cd => absurd cd (by decide)) (fun _ => ?_) | refine And.intro (fun _ => ?_) (fun cd => absurd cd (by decide)) | refine And.intro (fun cd => ?_) (fun cd => ?_)
  refine And.intro (fun cd => ?_) (fun cd => ?_)
  · refine And.intro (fun c2 => ?_) (fun c2 => by rw [T8] at c2; omega)
    have e7 : (I 22 0 &&& 7) = nI m := by
      have := and7 (k := m) (by omega)
      rw [s2]
      exact Int32.toInt_inj.mp (by rw [this, nI_toInt (by omega)])
    have e7t : (I 22 0 &&& 7).toInt = (m : Int) := by rw [e7]; exact nI_toInt (by omega)
    refine bm_go (am_ok_all 220 (by decide)) 40 ?_
    refine ⟨m, e7t, (by omega : m < 8), m, e7t, (by omega : m < 8), ?_⟩
    rw [e7]
    refine hQ _ (((((frN.refl _ _).u (by decide)).u (by decide)).u (by decide))) ⟨by omega, ?_, fun i hi => ?_⟩
    · show nI m + 1 = _
      rw [nI_succ]
    · by_cases e : i = m
      · subst e
        have ea : (fun i_1 => if i_1 = i then k else a i_1) i = k := if_pos rfl
        have eb : (fun i_1 => if i_1 = i then j else b i_1) i = j := if_pos rfl
        rw [ea, eb]
        refine ⟨hk, hj, kj, ?_, ?_⟩
        · rw [u_ne (by decide), u_ne (by decide), u_eq]; exact hx
        · rw [u_ne (by decide), u_eq]; exact hy
      · obtain ⟨b1, b2, b3, b4, b5⟩ := s4 i (by omega)
        have ea : (fun i_1 => if i_1 = m then k else a i_1) i = a i := if_neg e
        have eb : (fun i_1 => if i_1 = m then j else b i_1) i = b i := if_neg e
        rw [ea, eb]
        refine ⟨b1, b2, b3, ?_, ?_⟩
        · rw [u_ne (by decide), u_ne (by decide), u_nj e]; exact b4
        · rw [u_ne (by decide), u_nj e]; exact b5
  · have cd : x = y := Int32.toInt_inj.mp cd
    exact absurd (xe (hx) (cd.trans hy) (by omega) (by omega)) (Ne.symm kj)
theorem cc_forget {x : Int32} {m : Nat} {a b : Nat → Nat} (hS : cS T m a b I) (hx : x = nI 0) (hQ : ∀ I', frN [22] I I' → cS T 0 a b I' → Q (some (.int (nI m))) t I' L) : bm_C G l 37 [.ref 0, .int x] t I L Q := by
  obtain ⟨s1, s2, s4⟩ := hS
  have m8 : (I 22 0).toInt = (m : Int) := by rw [s2]; exact nI_toInt (by omega)
  have xt : x.toInt = 0 := by rw [hx]; rfl
  refine bm_go (am_ok_all 37 (by decide)) 40 ?_
  refine And.intro (fun cd => by omega) (fun cd => ?_)
  refine And.intro (fun c2 => ?_) (fun c2 => by omega)
  have q := hQ (am_u I 22 0 x) ((frN.refl _ _).u (by decide)) ⟨by omega, hx, fun i hi => absurd hi (Nat.not_lt_zero i)⟩
  have e : I 22 0 - x = nI m := by rw [s2, hx, pk_sub (Nat.zero_le _)]; rfl
  rw [← e] at q
  exact q
end CC

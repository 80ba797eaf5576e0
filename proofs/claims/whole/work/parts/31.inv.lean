/-! what holds between the calls: the class and the reference tell of one town, one round, the same rows -/
def cp (k : Nat) : Nat := if k < 6 then 60 else 80
/-- rows and texts -/
def InvR (I : am_I) : Prop := ∀ k, k < 10 → I (38 + 2 * k) 1 = I 63 k ∧ -1 ≤ (I 63 k).toInt ∧ (I 63 k).toInt ≤ (cp k : Int) ∧ (∀ j : Nat, (j : Int) < (I 63 k).toInt → I (39 + 2 * k) j = I 64 (rb k + j)) ∧ (6 ≤ k → ∀ j : Nat, (j : Int) < (I 63 k).toInt → -128 ≤ (I 64 (rb k + j)).toInt ∧ (I 64 (rb k + j)).toInt ≤ 127)
/-- what is told -/
def InvD (I : am_I) (L : am_J) : Prop := I 36 0 = I 61 0 ∧ I 36 3 = I 61 3 ∧ (∀ f, 1 ≤ f → f < 6 → I 37 f = I 62 f) ∧ L 36 1 = L 61 1 ∧ L 36 2 = L 61 2
/-- the town in the reference -/
def mT (T : tT) (I : am_I) : Prop := I 61 11 = nI (tW T) ∧ I 61 12 = nI (tH T) ∧ I 61 13 = nI (tC T) ∧ I 61 14 = nI (tN T) ∧ I 61 15 = nI (tD T) ∧ I 61 16 = nI (tS T) ∧ I 61 17 = nI (lA T) ∧ I 61 18 = nI (rB T) ∧ ∀ k, k < tN T → I 66 k = nI (tK T k) ∧ I 67 k = nI (tP T k) ∧ I 68 k = nI (tR T k)
/-- where one stands, what is lit, the last, whether inside -/
abbrev sT : Type := Nat × Nat × Int32 × Bool
def sOk (T : tT) (s : sT) : Prop := s.1 < tC T ∧ (tS T).testBit s.1 = true ∧ s.2.1 < 2 ^ tN T ∧ (s.2.2.2 = true → ∃ k, k < tN T ∧ s.2.2.1 = nI k)
def bI (b : Bool) : Int32 := if b then 1 else 0
/-- a stand of the class -/
def sC (s : sT) (c : Nat) (I : am_I) : Prop := I c 0 = nI s.1 ∧ I c 1 = nI s.2.1 ∧ I c 2 = s.2.2.1 ∧ I c 3 = bI s.2.2.2
/-- and of the reference: its place from j on -/
def sM (s : sT) (j : Nat) (I : am_I) : Prop := I 61 j = nI s.1 ∧ I 61 (j + 1) = nI s.2.1 ∧ I 61 (j + 2) = s.2.2.1 ∧ I 61 (j + 3) = bI s.2.2.2
/-- what one does next, as far as the places go -/
def sGo (T : tT) (p a p' : Nat) : Prop := (a < 4 ∧ nx T p a = some p') ∨ (a = 4 ∧ p' = p ∧ ∃ k, k < tN T ∧ tP T k = p)
def InvG (T : tT) (I : am_I) : Prop := ∃ (n b : sT) (d : Nat) (p : Nat → Nat) (a : Nat → Nat), sOk T n ∧ sOk T b ∧ sC n 17 I ∧ sM n 23 I ∧ (I 61 29 = nI b.1 ∧ I 61 30 = nI b.2.1 ∧ I 61 31 = b.2.2.1 ∧ I 61 32 = bI b.2.2.2) ∧ sC b 18 I ∧
  d ≤ 200 ∧ I 16 1 = nI d ∧ I 61 27 = nI d ∧ p 0 = b.1 ∧ p d = n.1 ∧ ∀ i, i < d → sGo T (p i) (a i) (p (i + 1)) ∧ I 19 i = nI (a i) ∧ I 69 i = nI (a i)
/-- there is no town yet -/
def InvE (I : am_I) : Prop := I 17 1 = 0 ∧ I 17 2 = -9 ∧ I 17 3 = 0 ∧ I 18 1 = 0 ∧ I 18 2 = -9 ∧ I 18 3 = 0 ∧ I 16 1 = 0 ∧ I 61 23 = -9 ∧ I 61 24 = 0 ∧ I 61 25 = -9 ∧ I 61 26 = 0 ∧ I 61 27 = 0 ∧ I 61 29 = -9 ∧ I 61 30 = 0 ∧ I 61 31 = -9 ∧ I 61 32 = 0
/-- kept rounds -/
def InvK (T : tT) (I : am_I) : Prop := ∃ m, m < 8 ∧ I 0 13 = nI m ∧ ∀ k, k < 3 → if m.testBit k then ∃ s : sT, sOk T s ∧ sC s (58 + k) I ∧ I 70 k = nI s.1 ∧ I 71 k = nI s.2.1 ∧ I 72 k = s.2.2.1 ∧ I 73 k = bI s.2.2.2 else I 70 k = -9
/-- what was seen -/
def InvS (T : tT) (I : am_I) : Prop := ∃ m, m ≤ 8 ∧ I 22 0 = nI m ∧ I 61 42 = nI m ∧ ∀ i, i < m → ∃ a b, a < tN T ∧ b < tN T ∧ a ≠ b ∧ I 23 i = nI a ∧ I 79 i = nI a ∧ I 24 i = nI b ∧ I 80 i = nI b
/-- what the class has learnt of orders is so, or is known to be stale -/
def InvO (T : tT) (sh : Nat) (t : am_T) (I : am_I) : Prop := I 25 1 = 1 ∨ (I 25 1 = 0 ∧ t.2 = (some 7, some 12) ∧ I 25 3 = nI (tN T) ∧ I 25 4 = nI (al T) ∧ tabs T sh I)
def InvX (t : am_T) (I : am_I) : Prop := ∃ (T : tT) (sh : Nat), cT T I ∧ mT T I ∧ sh < 2 ^ tN T ∧ I 0 14 = nI sh ∧ I 61 19 = nI sh ∧ cL T sh 13 I ∧ I 15 0 = nI 0 ∧ InvK T I ∧ InvS T I ∧ InvO T sh t I ∧ ((tOk T ∧ InvG T I) ∨ (tE T ∧ InvE I))
def Inv (t : am_T) (I : am_I) (L : am_J) : Prop := InvR I ∧ InvD I L ∧ InvX t I
/-- what may change without a trace in the third part -/
def exX : List Nat := [3, 4, 5, 6, 14, 15, 20, 25, 26, 31, 32, 33, 34, 35, 36, 37, 38, 39, 40, 41, 42, 43, 44, 45, 46, 47, 48, 49, 50, 51, 52, 53, 54, 55, 56, 57, 61, 62, 63, 64, 65, 74, 75, 76, 77, 78]
def agX (I I' : am_I) : Prop := (∀ x, x ∉ exX → I' x = I x) ∧ I' 15 0 = I 15 0 ∧ (∀ j, 1 ≤ j → I' 25 j = I 25 j) ∧ ∀ j, 11 ≤ j → j < 45 → I' 61 j = I 61 j
theorem agX.refl (I : am_I) : agX I I := ⟨fun _ _ => rfl, rfl, fun _ _ => rfl, fun _ _ _ => rfl⟩
theorem agX.u {I I' : am_I} (h : agX I I') {a j : Nat} {v : Int32} (ha : a ∈ exX) (h15 : a ≠ 15) (h25 : a ≠ 25) (h61 : a ≠ 61) : agX I (am_u I' a j v) := by
  obtain ⟨h1, h2, h3, h4⟩ := h
  refine ⟨fun x hx => ?_, ?_, fun k hk => ?_, fun k hk hk2 => ?_⟩
  · rw [u_ne (fun e => hx (by rw [e]; exact ha))]
    exact h1 x hx
  · rw [u_ne (Ne.symm h15)]; exact h2
  · rw [u_ne (Ne.symm h25)]; exact h3 k hk
  · rw [u_ne (Ne.symm h61)]; exact h4 k hk hk2
theorem agX.f {I I' : am_I} (h : agX I I') {a j : Nat} {v : Int32} (ha : a ∈ exX) (h15 : a ≠ 15) (h25 : a ≠ 25) (h61 : a ≠ 61) : agX I (am_f I' a j v) := by
  obtain ⟨h1, h2, h3, h4⟩ := h
  refine ⟨fun x hx => ?_, ?_, fun k hk => ?_, fun k hk hk2 => ?_⟩
  · rw [f_ne (fun e => hx (by rw [e]; exact ha))]
    exact h1 x hx
  · rw [f_ne (Ne.symm h15)]; exact h2
  · rw [f_ne (Ne.symm h25)]; exact h3 k hk
  · rw [f_ne (Ne.symm h61)]; exact h4 k hk hk2
theorem agX.u61 {I I' : am_I} (h : agX I I') {j : Nat} {v : Int32} (hj : j < 11 ∨ 45 ≤ j) : agX I (am_u I' 61 j v) := by
  obtain ⟨h1, h2, h3, h4⟩ := h
  refine ⟨fun x hx => ?_, ?_, fun k hk => ?_, fun k hk hk2 => ?_⟩
  · rw [u_ne (fun e => hx (by rw [e]; decide))]
    exact h1 x hx
  · rw [u_ne (by decide)]; exact h2
  · rw [u_ne (by decide)]; exact h3 k hk
  · rw [u_nj (by omega)]; exact h4 k hk hk2
theorem agX.u25 {I I' : am_I} (h : agX I I') {v : Int32} : agX I (am_u I' 25 0 v) := by
  obtain ⟨h1, h2, h3, h4⟩ := h
  refine ⟨fun x hx => ?_, ?_, fun k hk => ?_, fun k hk hk2 => ?_⟩
  · rw [u_ne (fun e => hx (by rw [e]; decide))]
    exact h1 x hx
  · rw [u_ne (by decide)]; exact h2
  · rw [u_nj (by omega)]; exact h3 k hk
  · rw [u_ne (by decide)]; exact h4 k hk hk2
theorem agX.trans {I I' I'' : am_I} (h : agX I I') (g : agX I' I'') : agX I I'' := by
  obtain ⟨h1, h2, h3, h4⟩ := h
  obtain ⟨g1, g2, g3, g4⟩ := g
  exact ⟨fun x hx => (g1 x hx).trans (h1 x hx), g2.trans h2, fun k hk => (g3 k hk).trans (h3 k hk), fun k hk hk2 => (g4 k hk hk2).trans (h4 k hk hk2)⟩
theorem frN.ag {cs : List Nat} {I I' : am_I} (h : frN cs I I') (hs : ∀ x, x ∈ cs → x ∈ exX) (h15 : 15 ∉ cs) (h25 : 25 ∉ cs) (h61 : 61 ∉ cs) : agX I I' :=
  ⟨fun x hx => h x (fun q => hx (hs x q)), by rw [h 15 h15], fun k _ => by rw [h 25 h25], fun k _ _ => by rw [h 61 h61]⟩
theorem InvX.fr {t : am_T} {I I' : am_I} (h : InvX t I) (ha : agX I I') : InvX t I' := by
  obtain ⟨h1, h2, h3, h4⟩ := ha
  have r : ∀ x, x ∉ exX → I' x = I x := h1
  have r0 : I' 0 = I 0 := r 0 (by decide)
  have r7 : I' 7 = I 7 := r 7 (by decide)
  have r8 : I' 8 = I 8 := r 8 (by decide)
  have r9 : I' 9 = I 9 := r 9 (by decide)
  have r10 : I' 10 = I 10 := r 10 (by decide)
  have r11 : I' 11 = I 11 := r 11 (by decide)
  have r13 : I' 13 = I 13 := r 13 (by decide)
  have r16 : I' 16 = I 16 := r 16 (by decide)
  have r17 : I' 17 = I 17 := r 17 (by decide)
  have r18 : I' 18 = I 18 := r 18 (by decide)
  have r19 : I' 19 = I 19 := r 19 (by decide)
  have r22 : I' 22 = I 22 := r 22 (by decide)
  have r23 : I' 23 = I 23 := r 23 (by decide)
  have r24 : I' 24 = I 24 := r 24 (by decide)
  have r27 : I' 27 = I 27 := r 27 (by decide)
  have r28 : I' 28 = I 28 := r 28 (by decide)
  have r29 : I' 29 = I 29 := r 29 (by decide)
  have r30 : I' 30 = I 30 := r 30 (by decide)
  have r66 : I' 66 = I 66 := r 66 (by decide)
  have r67 : I' 67 = I 67 := r 67 (by decide)
  have r68 : I' 68 = I 68 := r 68 (by decide)
  have r69 : I' 69 = I 69 := r 69 (by decide)
  have r70 : I' 70 = I 70 := r 70 (by decide)
  have r71 : I' 71 = I 71 := r 71 (by decide)
  have r72 : I' 72 = I 72 := r 72 (by decide)
  have r73 : I' 73 = I 73 := r 73 (by decide)
  have r79 : I' 79 = I 79 := r 79 (by decide)
  have r80 : I' 80 = I 80 := r 80 (by decide)
  have rk : ∀ k, k < 3 → I' (58 + k) = I (58 + k) := fun k hk => r _ (by
    have : k = 0 ∨ k = 1 ∨ k = 2 := by omega
    rcases this with rfl | rfl | rfl <;> decide)
  have m := h4
  obtain ⟨T, sh, hc, hm, hs, a1, a2, a3, a4, a5, a6, a7, a8⟩ := h
  refine ⟨T, sh, ?_, ?_, hs, by rw [r0]; exact a1, by rw [m 19 (by decide) (by decide)]; exact a2, ?_, by rw [h2]; exact a4, ?_, ?_, ?_, ?_⟩
  · unfold cT cG cLp at hc ⊢
    rw [r7, r8, r9, r10, r11]
    exact hc
  · unfold mT at hm ⊢
    rw [m 11 (by decide) (by decide), m 12 (by decide) (by decide), m 13 (by decide) (by decide), m 14 (by decide) (by decide), m 15 (by decide) (by decide), m 16 (by decide) (by decide), m 17 (by decide) (by decide), m 18 (by decide) (by decide), r66, r67, r68]
    exact hm
  · unfold cL at a3 ⊢
    rw [r13]
    exact a3
  · obtain ⟨q, q1, q2, q3⟩ := a5
    refine ⟨q, q1, by rw [r0]; exact q2, fun k hk => ?_⟩
    have q4 := q3 k hk
    rw [r70, r71, r72, r73]
    unfold sC at q4 ⊢
    rw [rk k hk]
    exact q4
  · unfold InvS at a6 ⊢
    rw [r22, r23, r24, r79, r80, m 42 (by decide) (by decide)]
    exact a6
  · unfold InvO tabs at a7 ⊢
    rw [h3 1 (by decide), h3 3 (by decide), h3 4 (by decide), r27, r28, r29, r30]
    exact a7
  · rcases a8 with ⟨b1, b2⟩ | ⟨b1, b2⟩
    · refine Or.inl ⟨b1, ?_⟩
      unfold InvG sC sM at b2 ⊢
      simp only [m _ (show 11 ≤ 23 by decide) (by decide), m _ (show 11 ≤ 23 + 1 by decide) (by decide), m _ (show 11 ≤ 23 + 2 by decide) (by decide), m _ (show 11 ≤ 23 + 3 by decide) (by decide), m _ (show 11 ≤ 27 by decide) (by decide), m _ (show 11 ≤ 29 by decide) (by decide), m _ (show 11 ≤ 30 by decide) (by decide), m _ (show 11 ≤ 31 by decide) (by decide), m _ (show 11 ≤ 32 by decide) (by decide), r17, r18, r16, r19, r69]
      exact b2
    · refine Or.inr ⟨b1, ?_⟩
      unfold InvE at b2 ⊢
      rw [r16, r17, r18, m 23 (by decide) (by decide), m 24 (by decide) (by decide), m 25 (by decide) (by decide), m 26 (by decide) (by decide), m 27 (by decide) (by decide), m 29 (by decide) (by decide), m 30 (by decide) (by decide), m 31 (by decide) (by decide), m 32 (by decide) (by decide)]
      exact b2

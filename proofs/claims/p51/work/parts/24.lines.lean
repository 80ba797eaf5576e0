/-! the class: lines, corners, light -/
section LF
variable {G : am_G} {l : Launch} {t : am_T} {I : am_I} {L : am_J} {Q : bm_P}
theorem lp_byLines_i {T : tT} (hT : tG T) (hc : cG T I) {way base n : Nat} {A : Nat → Nat} (hway : way < 4) (hA : ∀ i, bs T way (A i) = A (i + 1)) (hA2 : ∀ i, A i < 2 ^ 24) {f ws fr xw : Int32} (hfr : fr = nI n) (hxw : xw = nI way) (hn : n < 1000)
    (hk : ∀ a i, bm_W G l 255 6 [some (.ref 7), some (.int f), some (.int ws), some (.int fr), some (.int (nI (base ||| orN (n + 1) A))), some (.int (xw + 1)), a, i] [] t I L Q) :
    ∀ d i x a s, n - i = d → i ≤ n → x = nI i → a = nI (A i) → s = nI (base ||| orN (i + 1) A) → bm_W G l 255 31 [some (.ref 7), some (.int f), some (.int ws), some (.int fr), some (.int s), some (.int xw), some (.int a), some (.int x)] [] t I L Q := by
  intro d
  induction d with
  | zero =>
    intro i x a s hd hi hx ha hs
    obtain rfl : i = n := by omega
    subst hx hs
    refine bm_go (am_ok_all 255 (by decide)) 20 ?_
    refine And.intro (fun cd => hk _ _) (fun cd => ?_)
    rw [hfr] at cd
    omega
  | succ d ih =>
    intro i x a s hd hi hx ha hs
    subst hx ha hs
    refine bm_go (am_ok_all 255 (by decide)) 20 ?_
    refine And.intro (fun cd => ?_) (fun cd => ?_)
    · rw [hfr] at cd
      simp (disch := omega) only [nI_toInt, T0, T1, T2, T3, T4, T5, T6, T7, T8, T9, T10, T15, T24, T32, T48, T60, T63, T64, T80, T200, T384, T1000, TN, TP, Tm1, Tm9] at cd
      omega
    · refine sp_beside (A i) way hT hc rfl (w24 (hA2 i)) hxw hway ?_
      refine ih (i + 1) _ _ _ (by omega) (by omega) (nI_succ i).symm (by rw [hA]) ?_
      rw [n_or, hA, Nat.or_assoc]
      rfl
theorem lp_byLines_o {T : tT} (hT : tG T) (hc : cG T I) {c ways n : Nat} (hcc : c < tC T) (hways : ways < 16) (hn : n < 1000) {f ws fr : Int32} (hf : f = nI (1 <<< c)) (hws : ws = nI ways) (hfr : fr = nI n) (h : Q (some (.int (nI (ln T c n ways)))) t I L) :
    ∀ d way x s d6 d7, 4 - way = d → way ≤ 4 → x = nI way → s = nI (1 <<< c ||| orN way (fun way => if ways.testBit way then lnS T c way n else 0)) → bm_W G l 255 6 [some (.ref 7), some (.int f), some (.int ws), some (.int fr), some (.int s), some (.int x), d6, d7] [] t I L Q := by
  have h24 := hT.c24
  intro d
  induction d with
  | zero =>
    intro way x s d6 d7 hd hi hx hs
    obtain rfl : way = 4 := by omega
    subst hx hs
    refine bm_go (am_ok_all 255 (by decide)) 20 ?_
    refine And.intro (fun cd => h) (fun cd => ?_)
    simp (disch := omega) only [nI_toInt, T0, T1, T2, T3, T4, T5, T6, T7, T8, T9, T10, T15, T24, T32, T48, T60, T63, T64, T80, T200, T384, T1000, TN, TP, Tm1, Tm9] at cd
    omega
  | succ d ih =>
    intro way x s d6 d7 hd hi hx hs
    subst hx hs
    refine bm_go (am_ok_all 255 (by decide)) 20 ?_
    refine And.intro (fun cd => ?_) (fun cd => ?_)
    · simp (disch := omega) only [nI_toInt, T0, T1, T2, T3, T4, T5, T6, T7, T8, T9, T10, T15, T24, T32, T48, T60, T63, T64, T80, T200, T384, T1000, TN, TP, Tm1, Tm9] at cd
      omega
    · refine sp_isIn ways way hws rfl (by omega) (by omega) (fun hb => ?_) (fun hb => ?_)
      · first | refine And.intro (fun cd => absurd cd (by decide)) (fun _ => ?_) | refine And.intro (fun _ => ?_) (fun cd => absurd cd (by decide)) | refine And.intro (fun cd => ?_) (fun cd => ?_)
        refine lp_byLines_i hT hc (A := fun i => oneO (lnAt T c way i)) (base := 1 <<< c ||| orN way (fun way => if ways.testBit way then lnS T c way n else 0)) (by omega) (bs_ln hT hcc (by omega)) (fun i => up24 hT (oneO_lt (lnAt_lt hT hcc i))) hfr rfl hn ?_ n 0 _ _ _ (by omega) (by omega) rfl hf ?_
        · intro a i
          refine ih (way + 1) _ _ _ _ (by omega) (by omega) (nI_succ way).symm ?_
          rw [Nat.or_assoc]
          show _ = nI (1 <<< c ||| (orN way _ ||| if ways.testBit way then lnS T c way n else 0))
          rw [hb]
          rfl
        · show _ = nI (_ ||| (0 ||| 1 <<< c))
          congr 1
          rw [Nat.zero_or]
          apply Nat.eq_of_testBit_eq
          intro j
          simp only [Nat.testBit_or]
          cases (1 <<< c).testBit j <;> simp
      · first | refine And.intro (fun cd => absurd cd (by decide)) (fun _ => ?_) | refine And.intro (fun _ => ?_) (fun cd => absurd cd (by decide)) | refine And.intro (fun cd => ?_) (fun cd => ?_)
        refine lp_byLines_i hT hc (A := fun _ => 0) (base := 1 <<< c ||| orN way (fun way => if ways.testBit way then lnS T c way n else 0)) (by omega) (fun _ => bs_0 T way) (fun _ => by decide) hfr rfl hn ?_ n 0 _ _ _ (by omega) (by omega) rfl rfl ?_
        · intro a i
          refine ih (way + 1) _ _ _ _ (by omega) (by omega) (nI_succ way).symm ?_
          show _ = nI (1 <<< c ||| (orN way _ ||| if ways.testBit way then lnS T c way n else 0))
          rw [hb, orN_0, Nat.or_zero]
          simp
        · rw [orN_0, Nat.or_zero]
theorem sp_byLines {T : tT} (hT : tG T) (hc : cG T I) {c ways n : Nat} (hcc : c < tC T) (hways : ways < 16) (hn : n < 1000) {f ws fr : Int32} (hf : f = nI (1 <<< c)) (hws : ws = nI ways) (hfr : fr = nI n) (h : Q (some (.int (nI (ln T c n ways)))) t I L) : bm_C G l 255 [.ref 7, .int f, .int ws, .int fr] t I L Q := by
  refine bm_go (am_ok_all 255 (by decide)) 20 ?_
  exact lp_byLines_o hT hc hcc hways hn hf hws hfr h 4 0 _ _ _ _ rfl (by omega) rfl (by rw [hf]; show _ = nI (1 <<< c ||| 0); rw [Nat.or_zero])
theorem sp_roundCorners {T : tT} (hT : tG T) (hc : cG T I) {c n : Nat} (hcc : c < tC T) (hn : n < 1000) {f fr : Int32} (hf : f = nI (1 <<< c)) (hfr : fr = nI n) (h : Q (some (.int (nI (cor T c n)))) t I L) : bm_C G l 256 [.ref 7, .int f, .int fr] t I L Q := by
  have lp : ∀ d i x s, n - i = d → i ≤ n → x = nI i → s = nI (cor T c i) → bm_W G l 256 5 [some (.ref 7), some (.int f), some (.int fr), some (.int s), some (.int x)] [] t I L Q := by
    intro d
    induction d with
    | zero =>
      intro i x s hd hi hx hs
      obtain rfl : i = n := by omega
      subst hx hs
      refine bm_go (am_ok_all 256 (by decide)) 20 ?_
      refine And.intro (fun cd => h) (fun cd => ?_)
      rw [hfr] at cd
      omega
    | succ d ih =>
      intro i x s hd hi hx hs
      subst hx hs
      refine bm_go (am_ok_all 256 (by decide)) 20 ?_
      refine And.intro (fun cd => ?_) (fun cd => ?_)
      · rw [hfr] at cd
        simp (disch := omega) only [nI_toInt, T0, T1, T2, T3, T4, T5, T6, T7, T8, T9, T10, T15, T24, T32, T48, T60, T63, T64, T80, T200, T384, T1000, TN, TP, Tm1, Tm9] at cd
        omega
      · refine sp_near _ hT hc rfl (w24 (up24 hT (cor_lt hT hcc i))) ?_
        exact ih (i + 1) _ _ (by omega) (by omega) (nI_succ i).symm (by rw [n_or]; rfl)
  refine bm_go (am_ok_all 256 (by decide)) 20 ?_
  exact lp n 0 _ _ rfl (by omega) rfl hf
theorem sp_farOf {T : tT} {x : Int32} (k : Nat) (hk : k < 8) (hx : x = nI k) (hl : cLp T I k) (hL : tLp T k) (h : Q (some (.int (nI (far T k)))) t I L) : bm_C G l 257 [.ref 7, .int x] t I L Q := by
  subst hx
  obtain ⟨h1, h2, h3⟩ := hl
  obtain ⟨g1, g2, g3, g4, g5⟩ := hL
  have f1 : I 10 k + 1 = nI (tR T k + 1) := by rw [h3, nI_succ]
  have f2 : I 10 k - 1 = nI (tR T k - 1) := by rw [h3, k1, pk_sub g4]
  refine bm_go (am_ok_all 257 (by decide)) 30 ?_
  refine ⟨k, and7 hk, hk, ?_⟩
  refine ⟨k, and7 hk, hk, ?_⟩
  rw [h1]
  unfold far at h
  have hK : tK T k = 0 ∨ tK T k = 1 ∨ tK T k = 2 ∨ tK T k = 3 ∨ tK T k = 4 ∨ tK T k = 5 := by omega
  rcases hK with e | e | e | e | e | e <;> rw [e] at h ⊢
  · rw [if_neg (by decide), if_neg (by decide)] at h
    first | refine And.intro (fun cd => absurd cd (by decide)) (fun _ => ?_) | refine And.intro (fun _ => ?_) (fun cd => absurd cd (by decide)) | refine And.intro (fun cd => ?_) (fun cd => ?_)
    first | refine And.intro (fun cd => absurd cd (by decide)) (fun _ => ?_) | refine And.intro (fun _ => ?_) (fun cd => absurd cd (by decide)) | refine And.intro (fun cd => ?_) (fun cd => ?_)
    first | refine And.intro (fun cd => absurd cd (by decide)) (fun _ => ?_) | refine And.intro (fun _ => ?_) (fun cd => absurd cd (by decide)) | refine And.intro (fun cd => ?_) (fun cd => ?_)
    first | refine And.intro (fun cd => absurd cd (by decide)) (fun _ => ?_) | refine And.intro (fun _ => ?_) (fun cd => absurd cd (by decide)) | refine And.intro (fun cd => ?_) (fun cd => ?_)
    first | refine And.intro (fun cd => absurd cd (by decide)) (fun _ => ?_) | refine And.intro (fun _ => ?_) (fun cd => absurd cd (by decide)) | refine And.intro (fun cd => ?_) (fun cd => ?_)
    rw [← h3] at h
    exact h
  · rw [if_pos (by decide)] at h
    first | refine And.intro (fun cd => absurd cd (by decide)) (fun _ => ?_) | refine And.intro (fun _ => ?_) (fun cd => absurd cd (by decide)) | refine And.intro (fun cd => ?_) (fun cd => ?_)
    rw [← f1] at h
    exact h
  · rw [if_neg (by decide), if_neg (by decide)] at h
    first | refine And.intro (fun cd => absurd cd (by decide)) (fun _ => ?_) | refine And.intro (fun _ => ?_) (fun cd => absurd cd (by decide)) | refine And.intro (fun cd => ?_) (fun cd => ?_)
    first | refine And.intro (fun cd => absurd cd (by decide)) (fun _ => ?_) | refine And.intro (fun _ => ?_) (fun cd => absurd cd (by decide)) | refine And.intro (fun cd => ?_) (fun cd => ?_)
    rw [← h3] at h
    exact h
  · rw [if_neg (by decide), if_neg (by decide)] at h
    first | refine And.intro (fun cd => absurd cd (by decide)) (fun _ => ?_) | refine And.intro (fun _ => ?_) (fun cd => absurd cd (by decide)) | refine And.intro (fun cd => ?_) (fun cd => ?_)
    first | refine And.intro (fun cd => absurd cd (by decide)) (fun _ => ?_) | refine And.intro (fun _ => ?_) (fun cd => absurd cd (by decide)) | refine And.intro (fun cd => ?_) (fun cd => ?_)
    first | refine And.intro (fun cd => absurd cd (by decide)) (fun _ => ?_) | refine And.intro (fun _ => ?_) (fun cd => absurd cd (by decide)) | refine And.intro (fun cd => ?_) (fun cd => ?_)
    rw [← h3] at h
    exact h
  · rw [if_neg (by decide), if_pos (by decide)] at h
    first | refine And.intro (fun cd => absurd cd (by decide)) (fun _ => ?_) | refine And.intro (fun _ => ?_) (fun cd => absurd cd (by decide)) | refine And.intro (fun cd => ?_) (fun cd => ?_)
    first | refine And.intro (fun cd => absurd cd (by decide)) (fun _ => ?_) | refine And.intro (fun _ => ?_) (fun cd => absurd cd (by decide)) | refine And.intro (fun cd => ?_) (fun cd => ?_)
    first | refine And.intro (fun cd => absurd cd (by decide)) (fun _ => ?_) | refine And.intro (fun _ => ?_) (fun cd => absurd cd (by decide)) | refine And.intro (fun cd => ?_) (fun cd => ?_)
    first | refine And.intro (fun cd => absurd cd (by decide)) (fun _ => ?_) | refine And.intro (fun _ => ?_) (fun cd => absurd cd (by decide)) | refine And.intro (fun cd => ?_) (fun cd => ?_)
    rw [← f2] at h
    exact h
  · rw [if_pos (by decide)] at h
    first | refine And.intro (fun cd => absurd cd (by decide)) (fun _ => ?_) | refine And.intro (fun _ => ?_) (fun cd => absurd cd (by decide)) | refine And.intro (fun cd => ?_) (fun cd => ?_)
    first | refine And.intro (fun cd => absurd cd (by decide)) (fun _ => ?_) | refine And.intro (fun _ => ?_) (fun cd => absurd cd (by decide)) | refine And.intro (fun cd => ?_) (fun cd => ?_)
    first | refine And.intro (fun cd => absurd cd (by decide)) (fun _ => ?_) | refine And.intro (fun _ => ?_) (fun cd => absurd cd (by decide)) | refine And.intro (fun cd => ?_) (fun cd => ?_)
    first | refine And.intro (fun cd => absurd cd (by decide)) (fun _ => ?_) | refine And.intro (fun _ => ?_) (fun cd => absurd cd (by decide)) | refine And.intro (fun cd => ?_) (fun cd => ?_)
    first | refine And.intro (fun cd => absurd cd (by decide)) (fun _ => ?_) | refine And.intro (fun _ => ?_) (fun cd => absurd cd (by decide)) | refine And.intro (fun cd => ?_) (fun cd => ?_)
    rw [← f1] at h
    exact h
/-- whether a kind is of a kind -/
def isK (own kind : Nat) : Bool := own == kind || (kind == 2 && own == 5) || (kind == 3 && own == 4)
theorem sp_isOfKind {T : tT} {x y : Int32} (k q : Nat) (hk : k < 8) (hx : x = nI k) (hy : y = nI q) (hq : q ≤ 5) (hl : I 8 k = nI (tK T k)) (hL : tK T k ≤ 5) (h1 : isK (tK T k) q = true → Q (some (.int 1)) t I L) (h0 : isK (tK T k) q = false → Q (some (.int 0)) t I L) : bm_C G l 250 [.ref 7, .int x, .int y] t I L Q := by
  subst hx hy
  refine bm_go (am_ok_all 250 (by decide)) 40 ?_
  refine ⟨k, and7 hk, hk, ?_⟩
  rw [hl]
  generalize tK T k = o at *
  have hQ : q = 0 ∨ q = 1 ∨ q = 2 ∨ q = 3 ∨ q = 4 ∨ q = 5 := by omega
  have hO : o = 0 ∨ o = 1 ∨ o = 2 ∨ o = 3 ∨ o = 4 ∨ o = 5 := by omega
  rcases hQ with e | e | e | e | e | e <;> rcases hO with e2 | e2 | e2 | e2 | e2 | e2 <;> subst e e2 <;> repeat (first | exact ⟨Or.inr rfl, h1 rfl⟩ | exact ⟨Or.inl rfl, h0 rfl⟩ | refine And.intro (fun cd => absurd cd (by decide)) (fun _ => ?_) | refine And.intro (fun _ => ?_) (fun cd => absurd cd (by decide)))
theorem sp_lightOf {T : tT} {x : Int32} (k : Nat) (hk : k < 8) (hx : x = nI k) (hT : tG T) (hc : cG T I) (hl : cLp T I k) (hL : tLp T k) (h : Q (some (.int (nI (bare T k)))) t I L) : bm_C G l 258 [.ref 7, .int x] t I L Q := by
  have h24 := hT.c24
  have hp : tP T k < 32 := by have := hL.2.1; omega
  have hf : far T k < 1000 := by
    unfold far
    have := hL.2.2.2.2
    split
    · omega
    · split <;> omega
  unfold bare at h
  refine bm_go (am_ok_all 258 (by decide)) 40 ?_
  refine sp_isOfKind k 2 hk hx rfl (by decide) hl.1 hL.1 (fun e => ?_) (fun e => ?_)
  · first | refine And.intro (fun cd => absurd cd (by decide)) (fun _ => ?_) | refine And.intro (fun _ => ?_) (fun cd => absurd cd (by decide)) | refine And.intro (fun cd => ?_) (fun cd => ?_)
    have e : tK T k = 2 ∨ tK T k = 5 := by simpa [isK] using e
    rw [if_pos e] at h
    refine sp_spotOf k _ hx hk hl.2.1 hp ?_
    refine sp_farOf k hk hx hl hL ?_
    exact sp_roundCorners hT hc hL.2.1 hf rfl rfl h
  · first | refine And.intro (fun cd => absurd cd (by decide)) (fun _ => ?_) | refine And.intro (fun _ => ?_) (fun cd => absurd cd (by decide)) | refine And.intro (fun cd => ?_) (fun cd => ?_)
    have e : ¬ (tK T k = 2 ∨ tK T k = 5) := by simpa [isK] using e
    rw [if_neg e] at h
    refine sp_spotOf k _ hx hk hl.2.1 hp ?_
    refine sp_isOfKind k 3 hk hx rfl (by decide) hl.1 hL.1 (fun e => ?_) (fun e => ?_)
    · first | refine And.intro (fun cd => absurd cd (by decide)) (fun _ => ?_) | refine And.intro (fun _ => ?_) (fun cd => absurd cd (by decide)) | refine And.intro (fun cd => ?_) (fun cd => ?_)
      have e : tK T k = 3 ∨ tK T k = 4 := by simpa [isK] using e
      rw [if_pos e] at h
      refine sp_farOf k hk hx hl hL ?_
      exact sp_byLines hT hc hL.2.1 (by decide) hf rfl rfl rfl h
    · first | refine And.intro (fun cd => absurd cd (by decide)) (fun _ => ?_) | refine And.intro (fun _ => ?_) (fun cd => absurd cd (by decide)) | refine And.intro (fun cd => ?_) (fun cd => ?_)
      have e : ¬ (tK T k = 3 ∨ tK T k = 4) := by simpa [isK] using e
      rw [if_neg e] at h
      refine sp_farOf k hk hx hl hL ?_
      exact sp_byLines hT hc hL.2.1 (by decide) hf rfl rfl rfl h
end LF

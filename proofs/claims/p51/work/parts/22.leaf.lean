/-! leaf methods of the class -/
theorem and7 {k : Nat} (h : k < 8) : (nI k &&& 7).toInt = (k : Int) := by
  rw [k7, n_and, show (7 : Nat) = 2 ^ 3 - 1 from rfl, Nat.and_two_pow_sub_one_eq_mod, Nat.mod_eq_of_lt h, nI_toInt (by omega)]
theorem and63 {k : Nat} (h : k < 64) : (nI k &&& 63).toInt = (k : Int) := by
  rw [k63, n_and, show (63 : Nat) = 2 ^ 6 - 1 from rfl, Nat.and_two_pow_sub_one_eq_mod, Nat.mod_eq_of_lt h, nI_toInt (by omega)]
theorem shl1 {k : Nat} (h : k < 32) : (1 : Int32) <<< (nI k &&& 31) = nI (1 <<< k) := by rw [k1, n_shl _ h]
section LF
variable {G : am_G} {l : Launch} {t : am_T} {I : am_I} {L : am_J} {Q : bm_P}
theorem sp_isIn {x y : Int32} (s j : Nat) (hx : x = nI s) (hy : y = nI j) (hs : s < 2 ^ 32) (hj : j < 32) (h1 : s.testBit j = true → Q (some (.int 1)) t I L) (h0 : s.testBit j = false → Q (some (.int 0)) t I L) : bm_C G l 50 [.int x, .int y] t I L Q := by
  subst hx hy
  refine bm_go (am_ok_all 50 (by decide)) 20 ?_
  have e := nI_toInt (n := j) (by omega)
  have key : ((nI s).toUInt32 >>> ((nI j).toUInt32 &&& Int32.toUInt32 31)).toInt32 &&& 1 = nI (if s.testBit j then 1 else 0) := by
    rw [n_ush hs hj, k1, n_and, tb_sh1]
  refine And.intro (fun cd => ?_) (fun cd => ?_)
  · omega
  refine And.intro (fun cd => ?_) (fun cd => ?_)
  · simp (disch := omega) only [nI_toInt, T0, T1, T2, T3, T4, T5, T6, T7, T8, T9, T10, T15, T24, T32, T48, T60, T63, T64, T80, T200, T384, T1000, TN, TP, Tm1, Tm9] at cd
    omega
  cases hb : s.testBit j with
  | true =>
    rw [hb] at key
    refine And.intro (fun cd => ?_) (fun cd => ⟨Or.inr rfl, h1 hb⟩)
    rw [key] at cd
    exact absurd cd (by decide)
  | false =>
    rw [hb] at key
    refine And.intro (fun cd => ⟨Or.inl rfl, h0 hb⟩) (fun cd => ?_)
    rw [key] at cd
    exact absurd cd (by decide)
theorem sp_bit {x y : Int32} (s j : Nat) (hx : x = nI s) (hy : y = nI j) (hs : s < 2 ^ 32) (hj : j < 32) (h : Q (some (.int (nI (if s.testBit j then 1 else 0)))) t I L) : bm_C G l 51 [.int x, .int y] t I L Q := by
  refine bm_go (am_ok_all 51 (by decide)) 20 ?_
  refine sp_isIn s j hx hy hs hj (fun cd => ?_) (fun cd => ?_)
  · rw [cd] at h
    first | refine And.intro (fun cd => absurd cd (by decide)) (fun _ => ?_) | refine And.intro (fun _ => ?_) (fun cd => absurd cd (by decide)) | refine And.intro (fun cd => ?_) (fun cd => ?_)
    exact h
  · rw [cd] at h
    first | refine And.intro (fun cd => absurd cd (by decide)) (fun _ => ?_) | refine And.intro (fun _ => ?_) (fun cd => absurd cd (by decide)) | refine And.intro (fun cd => ?_) (fun cd => ?_)
    exact h
theorem sp_near {T : tT} {x : Int32} (s : Nat) (hT : tG T) (hc : cG T I) (hx : x = nI s) (hs : s < 2 ^ 32) (h : Q (some (.int (nI (nr T s)))) t I L) : bm_C G l 254 [.ref 7, .int x] t I L Q := by
  refine bm_go (am_ok_all 254 (by decide)) 60 ?_
  obtain ⟨hS, hw, hA, hB⟩ := hc
  have hw2 : tW T < 32 := Nat.lt_of_le_of_lt hT.2.1 (by decide)
  have key : ((x.toUInt32 >>> ((I 7 9).toUInt32 &&& Int32.toUInt32 31)).toInt32 ||| x <<< (I 7 9 &&& 31) ||| ((x &&& (I 7 11 ^^^ -1)) <<< ((1 : Int32) &&& 31) ||| ((x &&& (I 7 10 ^^^ -1)).toUInt32 >>> (Int32.toUInt32 1 &&& Int32.toUInt32 31)).toInt32)) &&& I 7 1 = nI (nr T s) := by
    rw [hx, hw, hS, hA, hB, km1, n_cm, n_cm, n_and, n_and, n_ush hs hw2, n_shl _ hw2, k1, n_shl _ (by decide), n_ush (and_lt _ hs) (by decide)]
    simp only [n_or, n_and]
    rfl
  rw [← key] at h
  exact h
theorem sp_spotOf {x : Int32} (k p : Nat) (hx : x = nI k) (hk : k < 8) (hP : I 9 k = nI p) (hp : p < 32) (h : Q (some (.int (nI (1 <<< p)))) t I L) : bm_C G l 247 [.ref 7, .int x] t I L Q := by
  subst hx
  refine bm_go (am_ok_all 247 (by decide)) 20 ?_
  refine ⟨k, and7 hk, hk, ?_⟩
  rw [← shl1 hp, ← hP] at h
  exact h
theorem sp_all {T : tT} (hT : tOK T) (hn : I 7 3 = nI (tN T)) (h : Q (some (.int (nI (al T)))) t I L) : bm_C G l 246 [.ref 7] t I L Q := by
  refine bm_go (am_ok_all 246 (by decide)) 20 ?_
  have n6 := hT.n6
  have key : (1 : Int32) <<< (I 7 3 &&& 31) - 1 = nI (al T) := by
    rw [hn, shl1 (by omega), n_one, k1, pk_sub Nat.one_le_two_pow]
    rfl
  rw [← key] at h
  exact h
theorem sp_of {x : Int32} (c : Nat) (hc : c = 12 ∨ c = 14) (s : Nat) (hx : x = nI s) (hs : s < 64) (h : Q (some (.int (I (c + 1) s))) t I L) : bm_C G l 173 [.ref c, .int x] t I L Q := by
  subst hx
  rcases hc with rfl | rfl
  · refine bm_go (am_ok_all 173 (by decide)) 20 ?_
    exact ⟨s, and63 hs, hs, h⟩
  · refine bm_go (am_ok_all 173 (by decide)) 20 ?_
    exact ⟨s, and63 hs, hs, h⟩
theorem sp_what {T : tT} {x : Int32} (c : Nat) (hT : tOk T) (hc : cG T I) (hd : I 7 2 = nI (tD T)) (hx : x = nI c) (hcc : c < tC T) (h : Q (some (.int (if c = tD T then 2 else if (tS T).testBit c then 0 else 1))) t I L) : bm_C G l 248 [.ref 7, .int x] t I L Q := by
  subst hx
  have h24 := hT.1.c24
  have hD := hT.2.1
  refine bm_go (am_ok_all 248 (by decide)) 20 ?_
  refine And.intro (fun c1 => ?_) (fun c1 => ?_)
  · rw [if_neg (fun e => c1 (by rw [e, hd]))] at h
    refine sp_isIn (tS T) c hc.1 rfl (w24 hT.1.s24) (by omega) (fun cd => ?_) (fun cd => ?_)
    · rw [cd] at h
      first | refine And.intro (fun cd => absurd cd (by decide)) (fun _ => ?_) | refine And.intro (fun _ => ?_) (fun cd => absurd cd (by decide)) | refine And.intro (fun cd => ?_) (fun cd => ?_)
      exact h
    · rw [cd] at h
      first | refine And.intro (fun cd => absurd cd (by decide)) (fun _ => ?_) | refine And.intro (fun _ => ?_) (fun cd => absurd cd (by decide)) | refine And.intro (fun cd => ?_) (fun cd => ?_)
      exact h
  · rw [hd] at c1
    simp (disch := omega) only [nI_toInt] at c1
    rw [if_pos (by omega)] at h
    exact h
theorem sp_beside {T : tT} {x y : Int32} (s way : Nat) (hT : tG T) (hc : cG T I) (hx : x = nI s) (hs : s < 2 ^ 32) (hy : y = nI way) (hw : way < 4) (h : Q (some (.int (nI (bs T way s)))) t I L) : bm_C G l 252 [.ref 7, .int x, .int y] t I L Q := by
  subst hx hy
  obtain ⟨hS, hw1, hA, hB⟩ := hc
  have hw2 : tW T < 32 := Nat.lt_of_le_of_lt hT.2.1 (by decide)
  refine bm_go (am_ok_all 252 (by decide)) 30 ?_
  match way, hw with
  | 0, _ =>
    first | refine And.intro (fun cd => absurd cd (by decide)) (fun _ => ?_) | refine And.intro (fun _ => ?_) (fun cd => absurd cd (by decide)) | refine And.intro (fun cd => ?_) (fun cd => ?_)
    have key : ((nI s).toUInt32 >>> ((I 7 9).toUInt32 &&& Int32.toUInt32 31)).toInt32 &&& I 7 1 = nI (bs T 0 s) := by
      rw [hw1, hS, n_ush hs hw2, n_and]
      rfl
    rw [← key] at h
    exact h
  | 1, _ =>
    first | refine And.intro (fun cd => absurd cd (by decide)) (fun _ => ?_) | refine And.intro (fun _ => ?_) (fun cd => absurd cd (by decide)) | refine And.intro (fun cd => ?_) (fun cd => ?_)
    first | refine And.intro (fun cd => absurd cd (by decide)) (fun _ => ?_) | refine And.intro (fun _ => ?_) (fun cd => absurd cd (by decide)) | refine And.intro (fun cd => ?_) (fun cd => ?_)
    have key : ((nI s &&& (I 7 11 ^^^ -1)) <<< ((1 : Int32) &&& 31)) &&& I 7 1 = nI (bs T 1 s) := by
      rw [hB, hS, km1, n_cm, n_and, k1, n_shl _ (by decide), n_and]
      rfl
    rw [← key] at h
    exact h
  | 2, _ =>
    first | refine And.intro (fun cd => absurd cd (by decide)) (fun _ => ?_) | refine And.intro (fun _ => ?_) (fun cd => absurd cd (by decide)) | refine And.intro (fun cd => ?_) (fun cd => ?_)
    first | refine And.intro (fun cd => absurd cd (by decide)) (fun _ => ?_) | refine And.intro (fun _ => ?_) (fun cd => absurd cd (by decide)) | refine And.intro (fun cd => ?_) (fun cd => ?_)
    first | refine And.intro (fun cd => absurd cd (by decide)) (fun _ => ?_) | refine And.intro (fun _ => ?_) (fun cd => absurd cd (by decide)) | refine And.intro (fun cd => ?_) (fun cd => ?_)
    have key : (nI s <<< (I 7 9 &&& 31)) &&& I 7 1 = nI (bs T 2 s) := by
      rw [hw1, hS, n_shl _ hw2, n_and]
      rfl
    rw [← key] at h
    exact h
  | 3, _ =>
    first | refine And.intro (fun cd => absurd cd (by decide)) (fun _ => ?_) | refine And.intro (fun _ => ?_) (fun cd => absurd cd (by decide)) | refine And.intro (fun cd => ?_) (fun cd => ?_)
    first | refine And.intro (fun cd => absurd cd (by decide)) (fun _ => ?_) | refine And.intro (fun _ => ?_) (fun cd => absurd cd (by decide)) | refine And.intro (fun cd => ?_) (fun cd => ?_)
    first | refine And.intro (fun cd => absurd cd (by decide)) (fun _ => ?_) | refine And.intro (fun _ => ?_) (fun cd => absurd cd (by decide)) | refine And.intro (fun cd => ?_) (fun cd => ?_)
    have key : ((nI s &&& (I 7 10 ^^^ -1)).toUInt32 >>> (Int32.toUInt32 1 &&& Int32.toUInt32 31)).toInt32 &&& I 7 1 = nI (bs T 3 s) := by
      rw [hA, hS, km1, n_cm, n_and, k1, n_ush (and_lt _ hs) (by decide), n_and]
      rfl
    rw [← key] at h
    exact h
/-- what a step leads to, if it may be done -/
theorem sp_cellBeside {T : tT} {x y : Int32} (c way j : Nat) (hT : tG T) (hc : cG T I) (hx : x = nI c) (hcc : c < tC T) (hy : y = nI way) (hw : way < 4) (hj : nx T c way = some j) (h : Q (some (.int (nI j))) t I L) : bm_C G l 253 [.ref 7, .int x, .int y] t I L Q := by
  subst hx hy
  obtain ⟨hS, hw1, hA, hB⟩ := hc
  have hq : nq T c way = some j := by
    unfold nx at hj
    split at hj
    · rename_i q e
      split at hj
      · cases hj; exact e
      · cases hj
    · cases hj
  refine bm_go (am_ok_all 253 (by decide)) 30 ?_
  unfold nq at hq
  match way, hw with
  | 0, _ =>
    first | refine And.intro (fun cd => absurd cd (by decide)) (fun _ => ?_) | refine And.intro (fun _ => ?_) (fun cd => absurd cd (by decide)) | refine And.intro (fun cd => ?_) (fun cd => ?_)
    simp only at hq
    split at hq
    · cases hq
    · cases hq
      rw [← pk_sub (by omega), ← hw1] at h
      exact h
  | 1, _ =>
    first | refine And.intro (fun cd => absurd cd (by decide)) (fun _ => ?_) | refine And.intro (fun _ => ?_) (fun cd => absurd cd (by decide)) | refine And.intro (fun cd => ?_) (fun cd => ?_)
    first | refine And.intro (fun cd => absurd cd (by decide)) (fun _ => ?_) | refine And.intro (fun _ => ?_) (fun cd => absurd cd (by decide)) | refine And.intro (fun cd => ?_) (fun cd => ?_)
    simp only at hq
    split at hq
    · cases hq
    · cases hq
      rw [nI_succ] at h
      exact h
  | 2, _ =>
    first | refine And.intro (fun cd => absurd cd (by decide)) (fun _ => ?_) | refine And.intro (fun _ => ?_) (fun cd => absurd cd (by decide)) | refine And.intro (fun cd => ?_) (fun cd => ?_)
    first | refine And.intro (fun cd => absurd cd (by decide)) (fun _ => ?_) | refine And.intro (fun _ => ?_) (fun cd => absurd cd (by decide)) | refine And.intro (fun cd => ?_) (fun cd => ?_)
    first | refine And.intro (fun cd => absurd cd (by decide)) (fun _ => ?_) | refine And.intro (fun _ => ?_) (fun cd => absurd cd (by decide)) | refine And.intro (fun cd => ?_) (fun cd => ?_)
    simp only at hq
    split at hq
    · cases hq
      rw [← nI_add, ← hw1] at h
      exact h
    · cases hq
  | 3, _ =>
    first | refine And.intro (fun cd => absurd cd (by decide)) (fun _ => ?_) | refine And.intro (fun _ => ?_) (fun cd => absurd cd (by decide)) | refine And.intro (fun cd => ?_) (fun cd => ?_)
    first | refine And.intro (fun cd => absurd cd (by decide)) (fun _ => ?_) | refine And.intro (fun _ => ?_) (fun cd => absurd cd (by decide)) | refine And.intro (fun cd => ?_) (fun cd => ?_)
    first | refine And.intro (fun cd => absurd cd (by decide)) (fun _ => ?_) | refine And.intro (fun _ => ?_) (fun cd => absurd cd (by decide)) | refine And.intro (fun cd => ?_) (fun cd => ?_)
    simp only at hq
    split at hq
    · cases hq
    · rename_i e
      cases hq
      have : 1 ≤ c := by
        rcases Nat.eq_zero_or_pos c with e0 | e0
        · subst e0; simp at e
        · exact e0
      rw [← pk_sub this, ← k1] at h
      exact h
end LF

/-! pairs: asked, upper, lower, finding, findings, saw, forget, lamp, count -/
/-- how many rows are there, of n from a on -/
def cntR (I : am_I) (a : Nat) : Nat → Nat
  | 0 => 0
  | n + 1 => cntR I a n + (if 0 ≤ (I 63 (a + n)).toInt then 1 else 0)
theorem cntR_le (I : am_I) (a : Nat) : ∀ n, cntR I a n ≤ n
  | 0 => Nat.le_refl 0
  | n + 1 => by
    unfold cntR
    have := cntR_le I a n
    split <;> omega
/-- what count() tells -/
def cV (T : tT) (sh : Nat) (I : am_I) (w : Nat) : Int32 := match w with
  | 0 => nI (tC T)
  | 1 => nI (tN T)
  | 2 => nI (pc (un (I 61 24)))
  | 3 => nI (pc sh)
  | 4 => nI (pc (bO (tN T) (fun k => isK (tK T k) 2)))
  | 5 => nI (pc (bO (tN T) (fun k => isK (tK T k) 3)))
  | 6 => nI (cntR I 0 6)
  | 7 => nI (cntR I 6 4)
  | _ => I 61 42
theorem InvG.lit {T : tT} {I : am_I} (hok : tOk T) (h : InvG T I) : I 17 1 = I 61 24 ∧ un (I 61 24) < 2 ^ tN T := by
  obtain ⟨n, b, d, p, a, h1, h2, h3, h4, -⟩ := h
  have n6 := hok.2.2.2.1
  have p6 := Nat.pow_le_pow_right (n := 2) (by decide) n6
  rw [h3.2.1, show I 61 24 = nI n.2.1 from h4.2.1]
  exact ⟨rfl, by rw [un_n (by have := h1.2.2.1; omega)]; exact h1.2.2.1⟩
theorem InvX.lit {T : tT} {I : am_I} (h : (tOk T ∧ InvG T I) ∨ (tE T ∧ InvE I)) : I 17 1 = I 61 24 ∧ un (I 61 24) < 2 ^ tN T := by
  rcases h with ⟨h1, h2⟩ | ⟨h1, h2⟩
  · exact h2.lit h1
  · obtain ⟨q1, q2, q3, q4, q5, q6, q7, q8, q9, -⟩ := h2
    rw [q1, q9]
    exact ⟨rfl, by have := Nat.two_pow_pos (tN T); show 0 < _; exact this⟩
section PS
variable {G : am_G} {l : Launch} {t : am_T} {I : am_I} {L : am_J} {Q : bm_P}
theorem pair_asked (h : Inv t I L) : bm_C G l 42 [.ref 0] t I L (pI G l 158 [.ref 61]) := by
  refine bm_go (am_ok_all 42 (by decide)) 40 ?_
  refine ⟨_, rfl, ?_⟩
  refine bm_go (am_ok_all 158 (by decide)) 40 ?_
  exact ⟨by rw [h.2.1.1], h⟩
theorem pair_upper (h : Inv t I L) : bm_C G l 43 [.ref 0] t I L (pL G l 159 [.ref 61]) := by
  refine bm_go (am_ok_all 43 (by decide)) 40 ?_
  refine ⟨_, rfl, ?_⟩
  refine bm_go (am_ok_all 159 (by decide)) 40 ?_
  exact ⟨by rw [h.2.1.2.2.2.1], h⟩
theorem pair_lower (h : Inv t I L) : bm_C G l 44 [.ref 0] t I L (pL G l 160 [.ref 61]) := by
  refine bm_go (am_ok_all 44 (by decide)) 40 ?_
  refine ⟨_, rfl, ?_⟩
  refine bm_go (am_ok_all 160 (by decide)) 40 ?_
  exact ⟨by rw [h.2.1.2.2.2.2], h⟩
theorem pair_finding (h : Inv t I L) : bm_C G l 46 [.ref 0] t I L (pI G l 162 [.ref 61]) := by
  refine bm_go (am_ok_all 46 (by decide)) 40 ?_
  refine ⟨_, rfl, ?_⟩
  refine bm_go (am_ok_all 162 (by decide)) 40 ?_
  exact ⟨by rw [h.2.1.2.1], h⟩
theorem pair_findings {x : Int32} (h : Inv t I L) : bm_C G l 47 [.ref 0, .int x] t I L (pI G l 163 [.ref 61, .int x]) := by
  have e5 : (5 : Int32).toInt = 5 := rfl
  have bad : (x.toInt < 1 ∨ 5 < x.toInt) → bm_C G l 163 [.ref 61, .int x] t I L (fun v' t I L => v' = some (.int (-1)) ∧ Inv t I L) := by
    intro q
    refine bm_go (am_ok_all 163 (by decide)) 40 ?_
    refine sm_in x.toInt 1 5 (i64 x) rfl rfl (fun a b => by omega) (fun a => ?_)
    first | refine And.intro (fun cd => absurd cd (by decide)) (fun _ => ?_) | refine And.intro (fun _ => ?_) (fun cd => absurd cd (by decide)) | refine And.intro (fun cd => ?_) (fun cd => ?_)
    exact ⟨rfl, h⟩
  refine bm_go (am_ok_all 47 (by decide)) 40 ?_
  refine And.intro (fun cd => ?_) (fun cd => ?_)
  · rw [T1] at cd
    exact ⟨_, rfl, bad (by omega)⟩
  · rw [T1] at cd
    refine And.intro (fun c2 => ?_) (fun c2 => ?_)
    · have hx := of_nn (y := x) (by omega)
      generalize hk : x.toInt.toNat = k at hx
      refine ⟨k, by rw [hx]; exact and7 (by omega), (by omega : k < 8), ?_⟩
      refine ⟨_, rfl, ?_⟩
      refine bm_go (am_ok_all 163 (by decide)) 40 ?_
      refine sm_in x.toInt 1 5 (i64 x) rfl rfl (fun a b => ?_) (fun a => by omega)
      first | refine And.intro (fun cd => absurd cd (by decide)) (fun _ => ?_) | refine And.intro (fun _ => ?_) (fun cd => absurd cd (by decide)) | refine And.intro (fun cd => ?_) (fun cd => ?_)
      refine ⟨k, by omega, (by omega : k < 6), ?_⟩
      exact ⟨by rw [h.2.1.2.2.1 k (by omega) (by omega)], h⟩
    · exact ⟨_, rfl, bad (by omega)⟩
theorem sp_ofLamp {T : tT} {x y : Int32} (sh k w : Nat) (hx : x = nI k) (hT : tOK T) (hc : cT T I) (hk : k < tN T) (hsh : I 0 14 = nI sh) (hs : sh < 2 ^ 31) (hlt : un (I 17 1) < 2 ^ 31) (hy : y = nI w) (hw : w < 5)
    (h : Q (some (.int (if w = 0 then I 8 k else if w = 1 then I 9 k else if w = 2 then I 10 k else if w = 3 then nI (if (un (I 17 1)).testBit k then 1 else 0) else nI (if sh.testBit k then 1 else 0)))) t I L) : bm_C G l 61 [.ref 0, .int x, .int y] t I L Q := by
  have n6 := hT.n6
  subst hy
  have e7 : (x &&& 7).toInt = (k : Int) := by rw [hx]; exact and7 (by omega)
  refine bm_go (am_ok_all 61 (by decide)) 40 ?_
  match w, hw with
  | 0, _ =>
    first | refine And.intro (fun cd => absurd cd (by decide)) (fun _ => ?_) | refine And.intro (fun _ => ?_) (fun cd => absurd cd (by decide)) | refine And.intro (fun cd => ?_) (fun cd => ?_)
    exact ⟨k, e7, (by omega : k < 8), h⟩
  | 1, _ =>
    first | refine And.intro (fun cd => absurd cd (by decide)) (fun _ => ?_) | refine And.intro (fun _ => ?_) (fun cd => absurd cd (by decide)) | refine And.intro (fun cd => ?_) (fun cd => ?_)
    first | refine And.intro (fun cd => absurd cd (by decide)) (fun _ => ?_) | refine And.intro (fun _ => ?_) (fun cd => absurd cd (by decide)) | refine And.intro (fun cd => ?_) (fun cd => ?_)
    exact ⟨k, e7, (by omega : k < 8), h⟩
  | 2, _ =>
    first | refine And.intro (fun cd => absurd cd (by decide)) (fun _ => ?_) | refine And.intro (fun _ => ?_) (fun cd => absurd cd (by decide)) | refine And.intro (fun cd => ?_) (fun cd => ?_)
    first | refine And.intro (fun cd => absurd cd (by decide)) (fun _ => ?_) | refine And.intro (fun _ => ?_) (fun cd => absurd cd (by decide)) | refine And.intro (fun cd => ?_) (fun cd => ?_)
    first | refine And.intro (fun cd => absurd cd (by decide)) (fun _ => ?_) | refine And.intro (fun _ => ?_) (fun cd => absurd cd (by decide)) | refine And.intro (fun cd => ?_) (fun cd => ?_)
    exact ⟨k, e7, (by omega : k < 8), h⟩
  | 3, _ =>
    first | refine And.intro (fun cd => absurd cd (by decide)) (fun _ => ?_) | refine And.intro (fun _ => ?_) (fun cd => absurd cd (by decide)) | refine And.intro (fun cd => ?_) (fun cd => ?_)
    first | refine And.intro (fun cd => absurd cd (by decide)) (fun _ => ?_) | refine And.intro (fun _ => ?_) (fun cd => absurd cd (by decide)) | refine And.intro (fun cd => ?_) (fun cd => ?_)
    first | refine And.intro (fun cd => absurd cd (by decide)) (fun _ => ?_) | refine And.intro (fun _ => ?_) (fun cd => absurd cd (by decide)) | refine And.intro (fun cd => ?_) (fun cd => ?_)
    first | refine And.intro (fun cd => absurd cd (by decide)) (fun _ => ?_) | refine And.intro (fun _ => ?_) (fun cd => absurd cd (by decide)) | refine And.intro (fun cd => ?_) (fun cd => ?_)
    exact sp_bit (un (I 17 1)) k (n_un _).symm hx (by omega) (by omega) h
  | 4, _ =>
    first | refine And.intro (fun cd => absurd cd (by decide)) (fun _ => ?_) | refine And.intro (fun _ => ?_) (fun cd => absurd cd (by decide)) | refine And.intro (fun cd => ?_) (fun cd => ?_)
    first | refine And.intro (fun cd => absurd cd (by decide)) (fun _ => ?_) | refine And.intro (fun _ => ?_) (fun cd => absurd cd (by decide)) | refine And.intro (fun cd => ?_) (fun cd => ?_)
    first | refine And.intro (fun cd => absurd cd (by decide)) (fun _ => ?_) | refine And.intro (fun _ => ?_) (fun cd => absurd cd (by decide)) | refine And.intro (fun cd => ?_) (fun cd => ?_)
    first | refine And.intro (fun cd => absurd cd (by decide)) (fun _ => ?_) | refine And.intro (fun _ => ?_) (fun cd => absurd cd (by decide)) | refine And.intro (fun cd => ?_) (fun cd => ?_)
    exact sp_bit sh k hsh hx (by omega) (by omega) h
theorem sm_part {T : tT} {x y : Int32} (sh k w : Nat) (hx : x = nI k) (hT : tOK T) (hm : mT T I) (hk : k < tN T) (hsh : I 61 19 = nI sh) (hs : sh < 2 ^ 31) (hlt : un (I 61 24) < 2 ^ 31) (hy : y = nI w) (hw : w < 5)
    (h : Q (some (.int (if w = 0 then I 66 k else if w = 1 then I 67 k else if w = 2 then I 68 k else if w = 3 then nI (if (un (I 61 24)).testBit k then 1 else 0) else nI (if sh.testBit k then 1 else 0)))) t I L) : bm_C G l 105 [.ref 61, .int x, .int y] t I L Q := by
  have n6 := hT.n6
  subst hy
  have ex : x.toInt = (k : Int) := by rw [hx]; exact nI_toInt (by omega)
  have b1 := n_bit (j := k) hlt (by omega)
  rw [n_un, ← hx] at b1
  have b2 := n_bit (j := k) hs (by omega)
  rw [← hsh, ← hx] at b2
  refine bm_go (am_ok_all 105 (by decide)) 60 ?_
  match w, hw with
  | 0, _ =>
    first | refine And.intro (fun cd => absurd cd (by decide)) (fun _ => ?_) | refine And.intro (fun _ => ?_) (fun cd => absurd cd (by decide)) | refine And.intro (fun cd => ?_) (fun cd => ?_)
    exact ⟨k, ex, (by omega : k < 6), h⟩
  | 1, _ =>
    first | refine And.intro (fun cd => absurd cd (by decide)) (fun _ => ?_) | refine And.intro (fun _ => ?_) (fun cd => absurd cd (by decide)) | refine And.intro (fun cd => ?_) (fun cd => ?_)
    first | refine And.intro (fun cd => absurd cd (by decide)) (fun _ => ?_) | refine And.intro (fun _ => ?_) (fun cd => absurd cd (by decide)) | refine And.intro (fun cd => ?_) (fun cd => ?_)
    exact ⟨k, ex, (by omega : k < 6), h⟩
  | 2, _ =>
    first | refine And.intro (fun cd => absurd cd (by decide)) (fun _ => ?_) | refine And.intro (fun _ => ?_) (fun cd => absurd cd (by decide)) | refine And.intro (fun cd => ?_) (fun cd => ?_)
    first | refine And.intro (fun cd => absurd cd (by decide)) (fun _ => ?_) | refine And.intro (fun _ => ?_) (fun cd => absurd cd (by decide)) | refine And.intro (fun cd => ?_) (fun cd => ?_)
    first | refine And.intro (fun cd => absurd cd (by decide)) (fun _ => ?_) | refine And.intro (fun _ => ?_) (fun cd => absurd cd (by decide)) | refine And.intro (fun cd => ?_) (fun cd => ?_)
    exact ⟨k, ex, (by omega : k < 6), h⟩
  | 3, _ =>
    first | refine And.intro (fun cd => absurd cd (by decide)) (fun _ => ?_) | refine And.intro (fun _ => ?_) (fun cd => absurd cd (by decide)) | refine And.intro (fun cd => ?_) (fun cd => ?_)
    first | refine And.intro (fun cd => absurd cd (by decide)) (fun _ => ?_) | refine And.intro (fun _ => ?_) (fun cd => absurd cd (by decide)) | refine And.intro (fun cd => ?_) (fun cd => ?_)
    first | refine And.intro (fun cd => absurd cd (by decide)) (fun _ => ?_) | refine And.intro (fun _ => ?_) (fun cd => absurd cd (by decide)) | refine And.intro (fun cd => ?_) (fun cd => ?_)
    first | refine And.intro (fun cd => absurd cd (by decide)) (fun _ => ?_) | refine And.intro (fun _ => ?_) (fun cd => absurd cd (by decide)) | refine And.intro (fun cd => ?_) (fun cd => ?_)
    rw [if_neg (by decide), if_neg (by decide), if_neg (by decide), if_pos rfl, ← b1] at h
    exact h
  | 4, _ =>
    first | refine And.intro (fun cd => absurd cd (by decide)) (fun _ => ?_) | refine And.intro (fun _ => ?_) (fun cd => absurd cd (by decide)) | refine And.intro (fun cd => ?_) (fun cd => ?_)
    first | refine And.intro (fun cd => absurd cd (by decide)) (fun _ => ?_) | refine And.intro (fun _ => ?_) (fun cd => absurd cd (by decide)) | refine And.intro (fun cd => ?_) (fun cd => ?_)
    first | refine And.intro (fun cd => absurd cd (by decide)) (fun _ => ?_) | refine And.intro (fun _ => ?_) (fun cd => absurd cd (by decide)) | refine And.intro (fun cd => ?_) (fun cd => ?_)
    first | refine And.intro (fun cd => absurd cd (by decide)) (fun _ => ?_) | refine And.intro (fun _ => ?_) (fun cd => absurd cd (by decide)) | refine And.intro (fun cd => ?_) (fun cd => ?_)
    rw [if_neg (by decide), if_neg (by decide), if_neg (by decide), if_neg (by decide), ← b2] at h
    exact h
theorem pair_lamp {x y : Int32} (h : Inv t I L) : bm_C G l 12 [.ref 0, .int x, .int y] t I L (pI G l 106 [.ref 61, .int x, .int y]) := by
  obtain ⟨T, sh, hc, hm, hs, a1, a2, hL, a4, hK, hS, hO, hG⟩ := h.2.2
  have hT := InvX.ok hG
  have n6 := hT.n6
  have p6 := Nat.pow_le_pow_right (n := 2) (by decide) n6
  have hl := InvX.lit hG
  have bad : (x.toInt < 0 ∨ (tN T : Int) ≤ x.toInt ∨ y.toInt < 0 ∨ 4 < y.toInt) → bm_C G l 106 [.ref 61, .int x, .int y] t I L (fun v' t I L => v' = some (.int (-1)) ∧ Inv t I L) := by
    intro q
    refine bm_go (am_ok_all 106 (by decide)) 40 ?_
    refine sm_isLamp hT hm (fun k hk hx => ?_) (fun cd => ?_)
    · have := xn hx hk (by omega)
      first | refine And.intro (fun cd => absurd cd (by decide)) (fun _ => ?_) | refine And.intro (fun _ => ?_) (fun cd => absurd cd (by decide)) | refine And.intro (fun cd => ?_) (fun cd => ?_)
      refine sm_in y.toInt 0 4 (i64 y) rfl rfl (fun a b => by omega) (fun a => ?_)
      first | refine And.intro (fun cd => absurd cd (by decide)) (fun _ => ?_) | refine And.intro (fun _ => ?_) (fun cd => absurd cd (by decide)) | refine And.intro (fun cd => ?_) (fun cd => ?_)
      exact ⟨rfl, h⟩
    · first | refine And.intro (fun cd => absurd cd (by decide)) (fun _ => ?_) | refine And.intro (fun _ => ?_) (fun cd => absurd cd (by decide)) | refine And.intro (fun cd => ?_) (fun cd => ?_)
      exact ⟨rfl, h⟩
  refine bm_go (am_ok_all 12 (by decide)) 40 ?_
  refine sp_isLamp hT hc.2.2.2.1 (fun k hk hx => ?_) (fun cd => ?_)
  · have xr := xn hx hk (by omega)
    first | refine And.intro (fun cd => absurd cd (by decide)) (fun _ => ?_) | refine And.intro (fun _ => ?_) (fun cd => absurd cd (by decide)) | refine And.intro (fun cd => ?_) (fun cd => ?_)
    refine And.intro (fun cd => ?_) (fun cd => ?_)
    · exact ⟨_, rfl, bad (by omega)⟩
    · refine And.intro (fun c2 => ?_) (fun c2 => ?_)
      · rw [T4] at c2
        have hy := of_nn cd
        have hyr : y.toInt = (y.toInt.toNat : Int) := by omega
        generalize y.toInt.toNat = w at hy hyr
        refine sp_ofLamp sh k w hx hT hc hk a1 (by omega) (by rw [hl.1]; omega) hy (by omega) ?_
        refine sp_besides ?_
        refine ⟨_, rfl, ?_⟩
        refine bm_go (am_ok_all 106 (by decide)) 40 ?_
        refine sm_isLamp hT hm (fun k2 hk2 hx2 => ?_) (fun cd => by omega)
        obtain rfl := xe hx hx2 (by omega) (by omega)
        first | refine And.intro (fun cd => absurd cd (by decide)) (fun _ => ?_) | refine And.intro (fun _ => ?_) (fun cd => absurd cd (by decide)) | refine And.intro (fun cd => ?_) (fun cd => ?_)
        refine sm_in y.toInt 0 4 (i64 y) rfl rfl (fun a b => ?_) (fun a => by omega)
        first | refine And.intro (fun cd => absurd cd (by decide)) (fun _ => ?_) | refine And.intro (fun _ => ?_) (fun cd => absurd cd (by decide)) | refine And.intro (fun cd => ?_) (fun cd => ?_)
        refine sm_part sh k2 w hx hT hm hk a2 (by omega) (show un (I 61 24) < 2 ^ 31 by omega) hy (by omega) ?_
        refine sm_tells ?_
        obtain ⟨c1, c2, c3⟩ := hc.2.2.2.2.2.1 k2 hk
        obtain ⟨m1, m2, m3⟩ := hm.2.2.2.2.2.2.2.2 k2 hk
        refine ⟨rfl, ?_⟩
        rw [c1, c2, c3, hl.1]
        show Inv t (am_u (am_u I 36 0 _) 61 0 (if w = 0 then I 66 k2 else if w = 1 then I 67 k2 else if w = 2 then I 68 k2 else if w = 3 then nI (if (un (I 61 24)).testBit k2 then 1 else 0) else nI (if sh.testBit k2 then 1 else 0))) L
        rw [m1, m2, m3]
        exact h.tell _
      · rw [T4] at c2
        exact ⟨_, rfl, bad (by omega)⟩
  · first | refine And.intro (fun cd => absurd cd (by decide)) (fun _ => ?_) | refine And.intro (fun _ => ?_) (fun cd => absurd cd (by decide)) | refine And.intro (fun cd => ?_) (fun cd => ?_)
    exact ⟨_, rfl, bad (by omega)⟩
end PS

/-! pairs: saw, forget, rings -/
theorem InvK.fr {T : tT} {I I' : am_I} (h : InvK T I) (h0 : I' 0 13 = I 0 13) (h1 : ∀ k, k < 3 → I' (58 + k) = I (58 + k)) (h2 : I' 70 = I 70) (h3 : I' 71 = I 71) (h4 : I' 72 = I 72) (h5 : I' 73 = I 73) : InvK T I' := by
  obtain ⟨m, q1, q2, q3⟩ := h
  refine ⟨m, q1, by rw [h0]; exact q2, fun k hk => ?_⟩
  have q4 := q3 k hk
  rw [h2, h3, h4, h5]
  unfold sC at q4 ⊢
  rw [h1 k hk]
  exact q4
theorem InvK.u {T : tT} {I : am_I} (h : InvK T I) {a j : Nat} {v : Int32} (ha : (a ≠ 0 ∨ j ≠ 13) ∧ a ≠ 58 ∧ a ≠ 59 ∧ a ≠ 60 ∧ a ≠ 70 ∧ a ≠ 71 ∧ a ≠ 72 ∧ a ≠ 73) : InvK T (am_u I a j v) := by
  refine h.fr ?_ (fun k hk => u_ne (by omega)) (u_ne (by omega)) (u_ne (by omega)) (u_ne (by omega)) (u_ne (by omega))
  by_cases e : a = 0
  · subst e; exact u_nj (by omega)
  · rw [u_ne (by omega)]
section PW
variable {G : am_G} {l : Launch} {t : am_T} {I : am_I} {L : am_J} {Q : bm_P}
theorem pair_saw {x y : Int32} (h : Inv t I L) : bm_C G l 36 [.ref 0, .int x, .int y] t I L (pI G l 147 [.ref 61, .int x, .int y]) := by
  obtain ⟨T, sh, hc, hm, hs, a1, a2, hL, a4, hK, hS, hO, hG⟩ := h.2.2
  have hT := InvX.ok hG
  have n6 := hT.n6
  obtain ⟨m, s1, s2, s3, s4⟩ := id hS
  have bad : (x.toInt < 0 ∨ (tN T : Int) ≤ x.toInt ∨ y.toInt < 0 ∨ (tN T : Int) ≤ y.toInt ∨ x = y) → bm_C G l 147 [.ref 61, .int x, .int y] t I L (fun v' t I L => v' = some (.int (-1)) ∧ Inv t I L) := by
    intro q
    refine bm_go (am_ok_all 147 (by decide)) 40 ?_
    refine sm_isLamp hT hm (fun k hk hx => ?_) (fun cd => ?_)
    · have := xn hx hk (by omega)
      first | refine And.intro (fun cd => absurd cd (by decide)) (fun _ => ?_) | refine And.intro (fun _ => ?_) (fun cd => absurd cd (by decide)) | refine And.intro (fun cd => ?_) (fun cd => ?_)
      refine sm_isLamp hT hm (fun j hj hy => ?_) (fun cd => ?_)
      · have := xn hy hj (by omega)
        first | refine And.intro (fun cd => absurd cd (by decide)) (fun _ => ?_) | refine And.intro (fun _ => ?_) (fun cd => absurd cd (by decide)) | refine And.intro (fun cd => ?_) (fun cd => ?_)
        refine And.intro (fun cd => ?_) (fun cd => ⟨rfl, h⟩)
        rcases q with q | q | q | q | q
        · omega
        · omega
        · omega
        · omega
        · exact absurd (congrArg Int32.toInt q) cd
      · first | refine And.intro (fun cd => absurd cd (by decide)) (fun _ => ?_) | refine And.intro (fun _ => ?_) (fun cd => absurd cd (by decide)) | refine And.intro (fun cd => ?_) (fun cd => ?_)
        exact ⟨rfl, h⟩
    · first | refine And.intro (fun cd => absurd cd (by decide)) (fun _ => ?_) | refine And.intro (fun _ => ?_) (fun cd => absurd cd (by decide)) | refine And.intro (fun cd => ?_) (fun cd => ?_)
      exact ⟨rfl, h⟩
  refine bm_go (am_ok_all 36 (by decide)) 40 ?_
  refine sp_isLamp hT hc.2.2.2.1 (fun k hk hx => ?_) (fun cd => ?_)
  · have xr := xn hx hk (by omega)
    first | refine And.intro (fun cd => absurd cd (by decide)) (fun _ => ?_) | refine And.intro (fun _ => ?_) (fun cd => absurd cd (by decide)) | refine And.intro (fun cd => ?_) (fun cd => ?_)
    refine sp_isLamp hT hc.2.2.2.1 (fun j hj hy => ?_) (fun cd => ?_)
    · have yr := xn hy hj (by omega)
      first | refine And.intro (fun cd => absurd cd (by decide)) (fun _ => ?_) | refine And.intro (fun _ => ?_) (fun cd => absurd cd (by decide)) | refine And.intro (fun cd => ?_) (fun cd => ?_)
      refine And.intro (fun cd => ?_) (fun cd => ?_)
      · have m8 : (I 22 0).toInt = (m : Int) := by rw [s2]; exact nI_toInt (by omega)
        have m42 : (I 61 42).toInt = (m : Int) := by rw [s3]; exact nI_toInt (by omega)
        have kj : k ≠ j := fun e => cd (by rw [hx, hy, e])
        have start : ∀ (Q2 : bm_P) (I : am_I), mT T I → ((I 61 42).toInt = 8 → Q2 (some (.int (-2))) t I L) → (¬ (I 61 42).toInt = 8 → ∃ q : Nat, (I 61 42).toInt = (q : Int) ∧ q < 8 ∧ Q2 (some (.int (I 61 42 + 1 - 1))) t (am_u (am_u (am_u I 79 q x) 80 q y) 61 42 (I 61 42 + 1)) L) → bm_C G l 147 [.ref 61, .int x, .int y] t I L Q2 := by
          intro Q2 I hm z1 z2
          refine bm_go (am_ok_all 147 (by decide)) 60 ?_
          refine sm_isLamp hT hm (fun k2 hk2 hx2 => ?_) (fun cd => by omega)
          first | refine And.intro (fun cd => absurd cd (by decide)) (fun _ => ?_) | refine And.intro (fun _ => ?_) (fun cd => absurd cd (by decide)) | refine And.intro (fun cd => ?_) (fun cd => ?_)
          refine sm_isLamp hT hm (fun k2 hk2 hx2 => ?_) (fun cd => by omega)
          first | refine And.intro (fun cd => absurd cd (by decide)) (fun _ => ?_) | refine And.intro (fun _ => ?_) (fun cd => absurd cd (by decide)) | refine And.intro (fun cd => ?_) (fun cd => ?_)
          refine And.intro (fun c2 => ?_) (fun c2 => absurd c2 cd)
          refine And.intro (fun c3 => ?_) (fun c3 => ?_)
          · rw [T8] at c3
            obtain ⟨q, e1, e2, z⟩ := z2 c3
            exact ⟨q, e1, e2, q, e1, e2, z⟩
          · rw [T8] at c3
            exact z1 c3
        refine And.intro (fun c2 => ?_) (fun c2 => ?_)
        · rw [T8] at c2
          have e7 : (I 22 0 &&& 7) = nI m := by
            have := and7 (k := m) (by omega)
            rw [s2]
            exact Int32.toInt_inj.mp (by rw [this, nI_toInt (by omega)])
          have e7t : (I 22 0 &&& 7).toInt = (m : Int) := by rw [e7]; exact nI_toInt (by omega)
          refine bm_go (am_ok_all 220 (by decide)) 40 ?_
          refine ⟨m, e7t, (by omega : m < 8), m, e7t, (by omega : m < 8), ?_⟩
          refine ⟨_, rfl, ?_⟩
          rw [e7]
          refine start _ _ hm (fun c3 => ?_) (fun c3 => ?_)
          · have c3 : (I 61 42).toInt = 8 := c3
            omega
          · refine ⟨m, m42, by omega, ?_⟩
            refine ⟨?_, ?_, ?_, ?_⟩
            · show some (Value.int (I 61 42 + 1 - 1)) = _
              rw [s3, ← nI_succ, k1, pk_sub (by omega)]
              rfl
            · exact (((((h.1.u (by decide)).u (by decide)).u (by decide)).u (by omega)).u (by omega)).u (by omega)
            · exact (((((h.2.1.u (by omega)).u (by omega)).u (by omega)).u (by omega)).u (by omega)).u (by omega)
            · refine ⟨T, sh, hc, hm, hs, a1, a2, hL, a4, ?_, ?_, hO, hG⟩
              · exact (((((hK.u (by omega)).u (by omega)).u (by omega)).u (by omega)).u (by omega)).u (by omega)
              · refine ⟨m + 1, by omega, ?_, ?_, fun i hi => ?_⟩
                · show nI m + 1 = _
                  rw [nI_succ]
                · show I 61 42 + 1 = _
                  rw [s3, nI_succ]
                · by_cases e : i = m
                  · subst e
                    refine ⟨k, j, hk, hj, kj, ?_, ?_, ?_, ?_⟩
                    · rw [u_ne (by decide), u_ne (by decide), u_ne (by decide), u_ne (by decide), u_ne (by decide), u_eq]; exact hx
                    · rw [u_ne (by decide), u_ne (by decide), u_eq]; exact hx
                    · rw [u_ne (by decide), u_ne (by decide), u_ne (by decide), u_ne (by decide), u_eq]; exact hy
                    · rw [u_ne (by decide), u_eq]; exact hy
                  · obtain ⟨a, b, b1, b2, b3, b4, b5, b6, b7⟩ := s4 i (by omega)
                    refine ⟨a, b, b1, b2, b3, ?_, ?_, ?_, ?_⟩
                    · rw [u_ne (by decide), u_ne (by decide), u_ne (by decide), u_ne (by decide), u_ne (by decide), u_nj e]; exact b4
                    · rw [u_ne (by decide), u_ne (by decide), u_nj e]; exact b5
                    · rw [u_ne (by decide), u_ne (by decide), u_ne (by decide), u_ne (by decide), u_nj e]; exact b6
                    · rw [u_ne (by decide), u_nj e]; exact b7
        · rw [T8] at c2
          refine ⟨_, rfl, start _ _ hm (fun c3 => ⟨rfl, h⟩) (fun c3 => by omega)⟩
      · have cd : x = y := Int32.toInt_inj.mp cd
        exact ⟨_, rfl, bad (by simp [cd])⟩
    · first | refine And.intro (fun cd => absurd cd (by decide)) (fun _ => ?_) | refine And.intro (fun _ => ?_) (fun cd => absurd cd (by decide)) | refine And.intro (fun cd => ?_) (fun cd => ?_)
      exact ⟨_, rfl, bad (by omega)⟩
  · first | refine And.intro (fun cd => absurd cd (by decide)) (fun _ => ?_) | refine And.intro (fun _ => ?_) (fun cd => absurd cd (by decide)) | refine And.intro (fun cd => ?_) (fun cd => ?_)
    exact ⟨_, rfl, bad (by omega)⟩
theorem pair_forget {x : Int32} (h : Inv t I L) : bm_C G l 37 [.ref 0, .int x] t I L (pI G l 148 [.ref 61, .int x]) := by
  obtain ⟨T, sh, hc, hm, hs, a1, a2, hL, a4, hK, hS, hO, hG⟩ := h.2.2
  obtain ⟨m, s1, s2, s3, s4⟩ := id hS
  have m8 : (I 22 0).toInt = (m : Int) := by rw [s2]; exact nI_toInt (by omega)
  have m42 : (I 61 42).toInt = (m : Int) := by rw [s3]; exact nI_toInt (by omega)
  have bad : (x.toInt < 0 ∨ (m : Int) < x.toInt) → bm_C G l 148 [.ref 61, .int x] t I L (fun v' t I L => v' = some (.int (-1)) ∧ Inv t I L) := by
    intro q
    refine bm_go (am_ok_all 148 (by decide)) 40 ?_
    refine sm_in x.toInt 0 m (i64 x) rfl ((i64 _).trans m42) (fun a b => by omega) (fun a => ?_)
    first | refine And.intro (fun cd => absurd cd (by decide)) (fun _ => ?_) | refine And.intro (fun _ => ?_) (fun cd => absurd cd (by decide)) | refine And.intro (fun cd => ?_) (fun cd => ?_)
    exact ⟨rfl, h⟩
  refine bm_go (am_ok_all 37 (by decide)) 40 ?_
  refine And.intro (fun cd => ?_) (fun cd => ?_)
  · exact ⟨_, rfl, bad (by omega)⟩
  · refine And.intro (fun c2 => ?_) (fun c2 => ?_)
    · refine ⟨_, rfl, ?_⟩
      refine bm_go (am_ok_all 148 (by decide)) 40 ?_
      refine sm_in x.toInt 0 m (i64 x) rfl ((i64 _).trans m42) (fun a b => ?_) (fun a => by omega)
      first | refine And.intro (fun cd => absurd cd (by decide)) (fun _ => ?_) | refine And.intro (fun _ => ?_) (fun cd => absurd cd (by decide)) | refine And.intro (fun cd => ?_) (fun cd => ?_)
      refine ⟨?_, (h.1.u (by decide)).u (by decide), (h.2.1.u (by omega)).u (by omega), ⟨T, sh, hc, hm, hs, a1, a2, hL, a4, (hK.u (by omega)).u (by omega), ?_, hO, hG⟩⟩
      · show some (Value.int (I 61 42 - x)) = some (Value.int (I 22 0 - x))
        rw [s2, s3]
      · have hx := of_nn cd
        refine ⟨x.toInt.toNat, by omega, hx, hx, fun i hi => ?_⟩
        exact s4 i (by omega)
    · exact ⟨_, rfl, bad (by omega)⟩
end PW

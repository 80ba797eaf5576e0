/-! the class lays a town down -/
theorem edges : ∀ w, w < 7 → ∀ h, h < 5 → 2 ≤ w → 1 ≤ h → bO (w * h) (fun i => decide (i % w = 0)) = orN h (fun i => 1 <<< (w * i)) ∧ bO (w * h) (fun i => decide (i % w + 1 = w)) = orN h (fun i => 1 <<< (w * i)) <<< (w - 1) := by decide +kernel
theorem edgeA {T : tT} (h : tG T) : lA T = orN (tH T) (fun i => 1 <<< (tW T * i)) := (edges (tW T) (by have := h.2.1; omega) (tH T) (by have := h.2.2.2.1; omega) h.1 h.2.2.1).1
theorem edgeB {T : tT} (h : tG T) : rB T = lA T <<< (tW T - 1) := by
  rw [edgeA h]
  exact (edges (tW T) (by have := h.2.1; omega) (tH T) (by have := h.2.2.2.1; omega) h.1 h.2.2.1).2
section PT
variable {G : am_G} {l : Launch} {t : am_T} {I : am_I} {L : am_J} {Q : bm_P}
theorem sp_build {T : tT} (hT : tOk T) (h0 : I 3 0 = nI (tW T)) (h1 : I 3 1 = nI (tH T)) (h2 : I 3 2 = nI (tS T)) (h3 : I 3 3 = nI (tD T)) (h4 : I 3 4 = nI (tN T)) (ha : ∀ j, j < tN T → I 4 j = nI (tK T j) ∧ I 5 j = nI (tP T j) ∧ I 6 j = nI (tR T j)) (h : ∀ I', frN [7, 8, 9, 10, 11] I I' → cT T I' → Q none t I' L) : bm_C G l 245 [.ref 7, .ref 3] t I L Q := by
  obtain ⟨⟨w2, w6, g1, g4, gS⟩, hD, hSD, n6, hlp, hdis⟩ := hT
  have hG : tG T := ⟨w2, w6, g1, g4, gS⟩
  have c24 := hG.c24
  have i4 : (nI (tN T)).toInt = (tN T : Int) := nI_toInt (by omega)
  have lp2 : ∀ d i y (I1 : am_I), tN T - i = d → i ≤ tN T → y = nI i → frN [7, 8, 9, 10, 11] I I1 → cG T I1 → I1 7 0 = nI (tC T) → I1 7 2 = nI (tD T) → I1 7 3 = nI (tN T) → I1 7 4 = nI (orN i (fun k => 1 <<< tP T k)) → (∀ k, k < i → cLp T I1 k ∧ I1 11 k = nI (bare T k)) → bm_W G l 245 105 [some (.ref 7), some (.ref 3), some (.int y)] [] t I1 L Q := by
    intro d
    induction d with
    | zero =>
      intro i y I1 hd hi hy f1 e1 e2 e3 e4 e5 e6
      obtain rfl : i = tN T := by omega
      subst hy
      refine bm_go (am_ok_all 245 (by decide)) 60 ?_
      refine And.intro (fun _ => ?_) (fun cd => ?_)
      · exact h I1 f1 ⟨e1, e2, e3, e4, e5, fun k hk => (e6 k hk).1, fun k hk => (e6 k hk).2⟩
      · have cd : (nI (tN T)).toInt < (I1 7 3).toInt := cd
        rw [e4] at cd
        omega
    | succ d ih =>
      intro i y I1 hd hi hy f1 e1 e2 e3 e4 e5 e6
      subst hy
      have ii : (nI i).toInt = (i : Int) := nI_toInt (by omega)
      obtain ⟨a4, a5, a6⟩ := ha i (by omega)
      have r4 : ∀ j, I1 4 j = I 4 j := fun j => by rw [f1 4 (by decide)]
      have r5 : ∀ j, I1 5 j = I 5 j := fun j => by rw [f1 5 (by decide)]
      have r6 : ∀ j, I1 6 j = I 6 j := fun j => by rw [f1 6 (by decide)]
      have q4 : I1 4 i = nI (tK T i) := by rw [r4]; exact a4
      have q5 : I1 5 i = nI (tP T i) := by rw [r5]; exact a5
      have q6 : I1 6 i = nI (tR T i) := by rw [r6]; exact a6
      have li := hlp i (by omega)
      refine bm_go (am_ok_all 245 (by decide)) 90 ?_
      refine And.intro (fun cd => ?_) (fun _ => ?_)
      · rw [e4, i4, ii] at cd
        omega
      refine And.intro (fun cd => ?_) (fun _ => ?_)
      · rw [T6, ii] at cd
        omega
      refine ⟨i, ii, (by omega : i < 8), i, ii, (by omega : i < 8), i, ii, (by omega : i < 8), i, ii, (by omega : i < 8), i, ii, (by omega : i < 8), i, ii, (by omega : i < 8), ?_⟩
      have cl : cLp T (am_u (am_u (am_u I1 8 i (I1 4 i)) 9 i (I1 5 i)) 10 i (I1 6 i)) i := by
        refine ⟨?_, ?_, ?_⟩
        · rw [u_ne (by decide), u_ne (by decide), u_eq, q4]
        · rw [u_ne (by decide), u_eq, q5]
        · rw [u_eq, q6]
      refine sp_lightOf i (by omega) rfl hG (by exact e1) (by exact cl) li ?_
      refine ⟨i, ii, (by omega : i < 8), ?_⟩
      refine sp_spotOf i (tP T i) rfl (by omega) (by exact cl.2.1) (by have := li.2.1; omega) ?_
      refine ih (i + 1) _ _ (by omega) (by omega) (nI_succ i).symm (((((f1.u (by decide)).u (by decide)).u (by decide)).u (by decide)).u (by decide)) (by exact e1) (by exact e2) (by exact e3) (by exact e4) ?_ ?_
      · show I1 7 4 ||| nI (1 <<< tP T i) = _
        rw [e5, n_or]
        rfl
      · intro k hk
        by_cases e : k = i
        · subst e
          refine ⟨by exact cl, ?_⟩
          rw [u_ne (by decide), u_eq]
        · obtain ⟨⟨b1, b2, b3⟩, b4⟩ := e6 k (by omega)
          refine ⟨⟨?_, ?_, ?_⟩, ?_⟩
          · rw [u_ne (by decide), u_ne (by decide), u_ne (by decide), u_ne (by decide), u_nj e]; exact b1
          · rw [u_ne (by decide), u_ne (by decide), u_ne (by decide), u_nj e, u_ne (by decide)]; exact b2
          · rw [u_ne (by decide), u_ne (by decide), u_nj e, u_ne (by decide), u_ne (by decide)]; exact b3
          · rw [u_ne (by decide), u_nj e, u_ne (by decide), u_ne (by decide), u_ne (by decide)]; exact b4
  have lp1 : ∀ d i y (I1 : am_I), tH T - i = d → i ≤ tH T → y = nI i → frN [7, 8, 9, 10, 11] I I1 → I1 7 9 = nI (tW T) → I1 7 1 = nI (tS T) → I1 7 0 = nI (tC T) → I1 7 2 = nI (tD T) → I1 7 3 = nI (tN T) → I1 7 10 = nI (orN i (fun i => 1 <<< (tW T * i))) → bm_W G l 245 52 [some (.ref 7), some (.ref 3), some (.int y)] [] t I1 L Q := by
    intro d
    induction d with
    | zero =>
      intro i y I1 hd hi hy f1 e9 e1 e0 e2 e3 e10
      obtain rfl : i = tH T := by omega
      subst hy
      have w3 : I1 3 1 = nI (tH T) := by rw [f1 3 (by decide)]; exact h1
      refine bm_go (am_ok_all 245 (by decide)) 60 ?_
      refine And.intro (fun _ => ?_) (fun cd => ?_)
      · refine lp2 _ 0 _ _ rfl (Nat.zero_le _) rfl ((f1.u (by decide)).u (by decide)) ⟨by exact e1, by exact e9, ?_, ?_⟩ (by exact e0) (by exact e2) (by exact e3) rfl (fun k hk => by omega)
        · rw [edgeA hG]
          exact e10
        · show I1 7 10 <<< ((I1 7 9 - 1) &&& 31) = _
          rw [e10, e9, k1, pk_sub (by omega), n_shl _ (by omega), edgeB hG, edgeA hG]
      · rw [w3] at cd
        omega
    | succ d ih =>
      intro i y I1 hd hi hy f1 e9 e1 e0 e2 e3 e10
      subst hy
      have w3 : I1 3 1 = nI (tH T) := by rw [f1 3 (by decide)]; exact h1
      have wi : tW T * i < 32 := by
        have : tW T * i ≤ 6 * 4 := Nat.mul_le_mul w6 (by omega)
        omega
      refine bm_go (am_ok_all 245 (by decide)) 60 ?_
      refine And.intro (fun cd => ?_) (fun _ => ?_)
      · rw [w3, nI_toInt (by omega), nI_toInt (by omega)] at cd
        omega
      · refine ih (i + 1) _ _ (by omega) (by omega) (nI_succ i).symm (f1.u (by decide)) (by exact e9) (by exact e1) (by exact e0) (by exact e2) (by exact e3) ?_
        show I1 7 10 ||| 1 <<< (I1 7 9 * nI i &&& 31) = _
        rw [e10, e9, pk_mul, k1, n_shl _ wi, n_or]
        rfl
  refine bm_go (am_ok_all 245 (by decide)) 60 ?_
  refine lp1 _ 0 _ _ rfl (Nat.zero_le _) rfl ((((((((frN.refl _ _).u (by decide)).u (by decide)).u (by decide)).u (by decide)).u (by decide)).u (by decide))) ?_ ?_ ?_ ?_ ?_ rfl
  · exact h0
  · exact h2
  · show I 3 0 * I 3 1 = _
    rw [h0, h1, pk_mul]
    rfl
  · exact h3
  · exact h4
end PT

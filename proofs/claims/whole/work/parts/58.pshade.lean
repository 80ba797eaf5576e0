/-! pair: shade -/
def exS : List Nat := [0, 13, 25, 61]
def agS (I I' : am_I) : Prop := (∀ x, x ∉ exS → I' x = I x) ∧ I' 0 13 = I 0 13 ∧ ∀ j, j ≠ 19 → I' 61 j = I 61 j
theorem Inv.sh {t : am_T} {I I' : am_I} {L : am_J} (hR : InvR I) (hD : InvD I L) {T : tT} {sh' : Nat} (hc : cT T I) (hm : mT T I) (hs' : sh' < 2 ^ tN T) (a1' : I' 0 14 = nI sh') (a2' : I' 61 19 = nI sh') (hL' : cL T sh' 13 I') (a4 : I 15 0 = nI 0) (hK : InvK T I) (hS : InvS T I) (hG : (tOk T ∧ InvG T I) ∨ (tE T ∧ InvE I)) (h : agS I I') (hst : I' 25 1 = 1) : Inv t I' L := by
  have r : ∀ x, x ∉ exS → I' x = I x := h.1
  have m := h.2.2
  refine ⟨hR.fr (fun x h1 h2 => r x (by unfold exS; simp; omega)) (r 63 (by decide)) (r 64 (by decide)), ?_, T, sh', ?_, ?_, hs', a1', a2', hL', by rw [r 15 (by decide)]; exact a4, ?_, ?_, Or.inl hst, ?_⟩
  · exact hD.fr ⟨by rw [r 36 (by decide)], by rw [r 36 (by decide)]⟩ (r 37 (by decide)) ⟨m 0 (by decide), m 3 (by decide)⟩ (r 62 (by decide))
  · unfold cT cG cLp at hc ⊢
    rw [r 7 (by decide), r 8 (by decide), r 9 (by decide), r 10 (by decide), r 11 (by decide)]
    exact hc
  · unfold mT at hm ⊢
    rw [m 11 (by decide), m 12 (by decide), m 13 (by decide), m 14 (by decide), m 15 (by decide), m 16 (by decide), m 17 (by decide), m 18 (by decide), r 66 (by decide), r 67 (by decide), r 68 (by decide)]
    exact hm
  · exact hK.fr h.2.1 (fun k hk => r _ (by unfold exS; simp; omega)) (r 70 (by decide)) (r 71 (by decide)) (r 72 (by decide)) (r 73 (by decide))
  · unfold InvS at hS ⊢
    rw [r 22 (by decide), r 23 (by decide), r 24 (by decide), r 79 (by decide), r 80 (by decide), m 42 (by decide)]
    exact hS
  · rcases hG with ⟨b1, b2⟩ | ⟨b1, b2⟩
    · refine Or.inl ⟨b1, ?_⟩
      unfold InvG sC sM at b2 ⊢
      rw [m 23 (by decide), m (23 + 1) (by decide), m (23 + 2) (by decide), m (23 + 3) (by decide), m 27 (by decide), m 29 (by decide), m 30 (by decide), m 31 (by decide), m 32 (by decide), r 17 (by decide), r 18 (by decide), r 16 (by decide), r 19 (by decide), r 69 (by decide)]
      exact b2
    · refine Or.inr ⟨b1, ?_⟩
      unfold InvE at b2 ⊢
      rw [m 23 (by decide), m 24 (by decide), m 25 (by decide), m 26 (by decide), m 27 (by decide), m 29 (by decide), m 30 (by decide), m 31 (by decide), m 32 (by decide), r 17 (by decide), r 18 (by decide), r 16 (by decide)]
      exact b2
theorem shx : ∀ s, s < 64 → ∀ k, k < 6 → ∀ b, b < 2 → nI s + (nI b - nI (if s.testBit k then 1 else 0)) <<< (nI k &&& 31) = nI (if (if s.testBit k then 1 else 0) = b then s else s ^^^ 1 <<< k) := by decide +kernel
section PH
variable {G : am_G} {l : Launch} {t : am_T} {I : am_I} {L : am_J} {Q : bm_P}
theorem sp_lightsChanged {T : tT} (sh : Nat) (hT : tOK T) (hc : cT T I) (hsh : I 0 14 = nI sh) (hs : sh < 64) (h0 : I 13 0 = nI 0) (h : ∀ I', (∀ x, x ∉ [13, 25] → I' x = I x) → cL T sh 13 I' → I' 25 1 = 1 → Q none t I' L) : bm_C G l 62 [.ref 0] t I L Q := by
  refine bm_go (am_ok_all 62 (by decide)) 40 ?_
  refine sp_settle_12 sh hT hc hsh hs h0 (fun I1 f1 l1 => ?_)
  refine ⟨Or.inr rfl, ?_⟩
  refine h _ (fun x hx => ?_) ?_ rfl
  · rw [u_ne (fun e => hx (by rw [e]; decide))]
    exact f1 x (fun q => hx (by simp at q; rw [q]; decide))
  · intro s hs2
    exact l1 s hs2
theorem pair_shade {x y : Int32} (h : Inv t I L) : bm_C G l 16 [.ref 0, .int x, .int y] t I L (pI G l 111 [.ref 61, .int x, .int y]) := by
  obtain ⟨T, sh, hc, hm, hs, a1, a2, hL, a4, hK, hS, hO, hG⟩ := h.2.2
  have hT := InvX.ok hG
  have n6 := hT.n6
  have p6 := Nat.pow_le_pow_right (n := 2) (by decide) n6
  have hl := InvX.lit hG
  have bad : (x.toInt < 0 ∨ (tN T : Int) ≤ x.toInt ∨ y.toInt < 0 ∨ 1 < y.toInt) → bm_C G l 111 [.ref 61, .int x, .int y] t I L (fun v' t I L => v' = some (.int (-1)) ∧ Inv t I L) := by
    intro q
    refine bm_go (am_ok_all 111 (by decide)) 40 ?_
    refine sm_isLamp hT hm (fun k hk hx => ?_) (fun cd => ?_)
    · have := xn hx hk (by omega)
      first | refine And.intro (fun cd => absurd cd (by decide)) (fun _ => ?_) | refine And.intro (fun _ => ?_) (fun cd => absurd cd (by decide)) | refine And.intro (fun cd => ?_) (fun cd => ?_)
      refine sm_in y.toInt 0 1 (i64 y) rfl rfl (fun a b => by omega) (fun a => ?_)
      first | refine And.intro (fun cd => absurd cd (by decide)) (fun _ => ?_) | refine And.intro (fun _ => ?_) (fun cd => absurd cd (by decide)) | refine And.intro (fun cd => ?_) (fun cd => ?_)
      exact ⟨rfl, h⟩
    · first | refine And.intro (fun cd => absurd cd (by decide)) (fun _ => ?_) | refine And.intro (fun _ => ?_) (fun cd => absurd cd (by decide)) | refine And.intro (fun cd => ?_) (fun cd => ?_)
      exact ⟨rfl, h⟩
  refine bm_go (am_ok_all 16 (by decide)) 60 ?_
  refine sp_isLamp hT hc.2.2.2.1 (fun k hk hx => ?_) (fun cd => ?_)
  · have xr := xn hx hk (by omega)
    first | refine And.intro (fun cd => absurd cd (by decide)) (fun _ => ?_) | refine And.intro (fun _ => ?_) (fun cd => absurd cd (by decide)) | refine And.intro (fun cd => ?_) (fun cd => ?_)
    refine And.intro (fun cd => ⟨_, rfl, bad (by omega)⟩) (fun cd => ?_)
    refine And.intro (fun c2 => ?_) (fun c2 => ⟨_, rfl, bad (by rw [T1] at c2; omega)⟩)
    rw [T1] at c2
    have hy := of_nn cd
    have hyr : y.toInt = (y.toInt.toNat : Int) := by omega
    generalize y.toInt.toNat = b at hy hyr
    have hb2 : b < 2 := by omega
    have bit24 : I 61 24 >>> (x &&& 31) &&& 1 = nI (if (un (I 61 24)).testBit k then 1 else 0) := by
      have := n_bit (s := un (I 61 24)) (j := k) (by omega) (by omega)
      rw [n_un, ← hx] at this
      exact this
    have bit19 : I 61 19 >>> (x &&& 31) &&& 1 = nI (if sh.testBit k then 1 else 0) := by
      rw [a2, hx, n_bit (by omega) (by omega)]
    have mrun : ∀ (Q2 : bm_P) (I1 : am_I), mT T I1 → I1 61 = I 61 → ((un (I 61 24)).testBit k = true → Q2 (some (.int (-4))) t I1 L) → ((un (I 61 24)).testBit k = false → Q2 (some (.int (nI (if sh.testBit k then 1 else 0)))) t (am_u I1 61 19 (nI (if (if sh.testBit k then 1 else 0) = b then sh else sh ^^^ 1 <<< k))) L) → bm_C G l 111 [.ref 61, .int x, .int y] t I1 L Q2 := by
      intro Q2 I1 hm1 e61 z1 z2
      have b24 : I1 61 24 >>> (x &&& 31) &&& 1 = nI (if (un (I 61 24)).testBit k then 1 else 0) := by rw [e61]; exact bit24
      have b19 : I1 61 19 >>> (x &&& 31) &&& 1 = nI (if sh.testBit k then 1 else 0) := by rw [e61]; exact bit19
      have fin : I1 61 19 + (y - (I1 61 19 >>> (x &&& 31) &&& 1)) <<< (x &&& 31) = nI (if (if sh.testBit k then 1 else 0) = b then sh else sh ^^^ 1 <<< k) := by
        rw [b19, e61, a2, hx, hy]
        exact shx sh (by omega) k (by omega) b hb2
      refine bm_go (am_ok_all 111 (by decide)) 60 ?_
      refine sm_isLamp hT hm1 (fun k2 hk2 hx2 => ?_) (fun cd => by omega)
      first | refine And.intro (fun cd => absurd cd (by decide)) (fun _ => ?_) | refine And.intro (fun _ => ?_) (fun cd => absurd cd (by decide)) | refine And.intro (fun cd => ?_) (fun cd => ?_)
      refine sm_in y.toInt 0 1 (i64 y) rfl rfl (fun y1 y2 => ?_) (fun y1 => by omega)
      first | refine And.intro (fun cd => absurd cd (by decide)) (fun _ => ?_) | refine And.intro (fun _ => ?_) (fun cd => absurd cd (by decide)) | refine And.intro (fun cd => ?_) (fun cd => ?_)
      cases e : (un (I 61 24)).testBit k with
      | true =>
        rw [e] at b24
        refine And.intro (fun cd => absurd (by rw [b24]; rfl) cd) (fun _ => z1 e)
      | false =>
        rw [e] at b24
        refine And.intro (fun _ => ?_) (fun cd => ?_)
        · have := z2 e
          rw [← fin, ← b19] at this
          exact this
        · rw [b24] at cd
          exact absurd cd (by decide)
    refine sp_isIn (un (I 61 24)) k (by rw [← hl.1]; exact (n_un _).symm) hx (by omega) (by omega) (fun e => ?_) (fun e => ?_)
    · first | refine And.intro (fun cd => absurd cd (by decide)) (fun _ => ?_) | refine And.intro (fun _ => ?_) (fun cd => absurd cd (by decide)) | refine And.intro (fun cd => ?_) (fun cd => ?_)
      exact ⟨_, rfl, mrun _ I hm rfl (fun _ => ⟨rfl, h⟩) (fun e2 => by rw [e] at e2; cases e2)⟩
    · first | refine And.intro (fun cd => absurd cd (by decide)) (fun _ => ?_) | refine And.intro (fun _ => ?_) (fun cd => absurd cd (by decide)) | refine And.intro (fun cd => ?_) (fun cd => ?_)
      refine sp_bit sh k a1 hx (by omega) (by omega) ?_
      refine And.intro (fun c3 => ?_) (fun c3 => ?_)
      rotate_left
      · have hne : ¬ (if sh.testBit k then 1 else 0) = b := fun q => c3 (by rw [q, hy])
        have xs : sh ^^^ 1 <<< k < 2 ^ tN T := Nat.xor_lt_two_pow hs (one_lt hk)
        have e14 : I 0 14 ^^^ (1 : Int32) <<< (x &&& 31) = nI (sh ^^^ 1 <<< k) := by rw [a1, hx, shl1 (by omega), n_xor]
        refine sp_lightsChanged (T := T) (I := am_u I 0 14 (I 0 14 ^^^ (1 : Int32) <<< (x &&& 31))) (sh ^^^ 1 <<< k) hT ?_ e14 (by omega) ?_ (fun I2 f2 l2 s2 => ?_)
        · unfold cT cG cLp at hc ⊢
          exact hc
        · show I 13 0 = nI 0
          rw [hL 0 (by decide), lit_0]
        · have f2' : ∀ x, x ∉ [13, 25] → x ≠ 0 → I2 x = I x := fun x hx h0 => by rw [f2 x hx, u_ne h0]
          refine ⟨_, rfl, ?_⟩
          refine mrun _ I2 ?_ (f2' 61 (by decide) (by decide)) (fun e2 => by rw [e] at e2; cases e2) (fun _ => ?_)
          · unfold mT at hm ⊢
            rw [f2' 61 (by decide) (by decide), f2' 66 (by decide) (by decide), f2' 67 (by decide) (by decide), f2' 68 (by decide) (by decide)]
            exact hm
          · rw [if_neg hne]
            refine ⟨rfl, Inv.sh h.1 h.2.1 hc hm xs ?_ rfl ?_ a4 hK hS hG ⟨fun x hx => ?_, ?_, fun j hj => ?_⟩ ?_⟩
            · rw [u_ne (by decide), f2 0 (by decide)]
              exact e14
            · exact l2
            · rw [u_ne (fun q => hx (by rw [q]; decide))]
              refine f2' x (fun q => hx ?_) (fun q => hx (by rw [q]; decide))
              simp at q
              rcases q with q | q <;> rw [q] <;> decide
            · rw [u_ne (by decide), f2 0 (by decide)]
              rfl
            · rw [u_nj hj, f2' 61 (by decide) (by decide)]
            · rw [u_ne (by decide)]
              exact s2
      · have heq : (if sh.testBit k then 1 else 0) = b := by
          rw [hy] at c3
          have c3 : (nI (if sh.testBit k then 1 else 0)).toInt = (nI b).toInt := c3
          rw [nI_toInt (by split <;> decide), nI_toInt (by omega)] at c3
          omega
        refine ⟨_, rfl, mrun _ I hm rfl (fun e2 => by rw [e] at e2; cases e2) (fun _ => ?_)⟩
        rw [if_pos heq]
        refine ⟨rfl, ?_⟩
        have : am_u I 61 19 (nI sh) = I := by
          funext y j
          by_cases q : y = 61
          · subst q
            by_cases q2 : j = 19
            · subst q2
              rw [u_eq, a2]
            · rw [u_nj q2]
          · rw [u_ne q]
        rw [this]
        exact h
  · first | refine And.intro (fun cd => absurd cd (by decide)) (fun _ => ?_) | refine And.intro (fun _ => ?_) (fun cd => absurd cd (by decide)) | refine And.intro (fun cd => ?_) (fun cd => ?_)
    exact ⟨_, rfl, bad (by omega)⟩
end PH

/-! when the round alone changes -/
def exH : List Nat := [16, 17, 18, 19, 20, 69]
def exJ : List Nat := [23, 24, 25, 26, 27, 29, 30, 31, 32]
def agH (I I' : am_I) : Prop := (∀ x, x ∉ exH → x ≠ 61 → I' x = I x) ∧ ∀ j, j ∉ exJ → I' 61 j = I 61 j
theorem agH.refl (I : am_I) : agH I I := ⟨fun _ _ _ => rfl, fun _ _ => rfl⟩
theorem agH.trans {I I' I'' : am_I} (h : agH I I') (g : agH I' I'') : agH I I'' := ⟨fun x h1 h2 => (g.1 x h1 h2).trans (h.1 x h1 h2), fun j hj => (g.2 j hj).trans (h.2 j hj)⟩
theorem frN.agH {cs : List Nat} {I I' : am_I} (h : frN cs I I') (hs : ∀ x, x ∈ cs → x ∈ exH) (h61 : 61 ∉ cs) : agH I I' := ⟨fun x hx _ => h x (fun q => hx (hs x q)), fun _ _ => by rw [h 61 h61]⟩
theorem fr61.agH {js : List Nat} {I I' : am_I} (h : fr61 js I I') (hs : ∀ x, x ∈ js → x ∈ exJ) : agH I I' := ⟨fun x _ hx => h.1 x hx, fun j hj => h.2 j (fun q => hj (hs j q))⟩
theorem agH.u {I I' : am_I} (h : agH I I') {a j : Nat} {v : Int32} (ha : a ∈ exH) : agH I (am_u I' a j v) :=
  ⟨fun x hx h61 => by rw [u_ne (fun e => hx (by rw [e]; exact ha))]; exact h.1 x hx h61, fun k hk => by rw [u_ne (fun e => by rw [← e] at ha; exact absurd ha (by decide))]; exact h.2 k hk⟩
theorem agH.u61 {I I' : am_I} (h : agH I I') {j : Nat} {v : Int32} (hj : j ∈ exJ) : agH I (am_u I' 61 j v) :=
  ⟨fun x hx h61 => by rw [u_ne h61]; exact h.1 x hx h61, fun k hk => by rw [u_nj (fun e => hk (by rw [e]; exact hj))]; exact h.2 k hk⟩
theorem cT.agH {T : tT} {I I' : am_I} (hc : cT T I) (h : agH I I') : cT T I' := by
  unfold cT cG cLp at hc ⊢
  rw [h.1 7 (by decide) (by decide), h.1 8 (by decide) (by decide), h.1 9 (by decide) (by decide), h.1 10 (by decide) (by decide), h.1 11 (by decide) (by decide)]
  exact hc
theorem mT.agH {T : tT} {I I' : am_I} (hm : mT T I) (h : agH I I') : mT T I' := by
  have m := h.2
  unfold mT at hm ⊢
  rw [m 11 (by decide), m 12 (by decide), m 13 (by decide), m 14 (by decide), m 15 (by decide), m 16 (by decide), m 17 (by decide), m 18 (by decide), h.1 66 (by decide) (by decide), h.1 67 (by decide) (by decide), h.1 68 (by decide) (by decide)]
  exact hm
theorem cL.agH {T : tT} {sh : Nat} {I I' : am_I} (hc : cL T sh 13 I) (h : agH I I') : cL T sh 13 I' := by
  unfold cL at hc ⊢
  rw [h.1 13 (by decide) (by decide)]
  exact hc
theorem InvR.agH {I I' : am_I} (hr : InvR I) (h : agH I I') : InvR I' :=
  hr.fr (fun x h1 h2 => h.1 x (by unfold exH; simp; omega) (by omega)) (h.1 63 (by decide) (by decide)) (h.1 64 (by decide) (by decide))
theorem InvD.agH {I I' : am_I} {L : am_J} (hd : InvD I L) (h : agH I I') : InvD I' L := by
  refine hd.fr ⟨?_, ?_⟩ (h.1 37 (by decide) (by decide)) ⟨h.2 0 (by decide), h.2 3 (by decide)⟩ (h.1 62 (by decide) (by decide))
  · rw [h.1 36 (by decide) (by decide)]
  · rw [h.1 36 (by decide) (by decide)]
theorem InvK.agH {T : tT} {I I' : am_I} (hk : InvK T I) (h : agH I I') : InvK T I' :=
  hk.fr (by rw [h.1 0 (by decide) (by decide)]) (fun k hk => h.1 _ (by unfold exH; simp; omega) (by omega)) (h.1 70 (by decide) (by decide)) (h.1 71 (by decide) (by decide)) (h.1 72 (by decide) (by decide)) (h.1 73 (by decide) (by decide))
theorem InvS.agH {T : tT} {I I' : am_I} (hs : InvS T I) (h : agH I I') : InvS T I' := by
  unfold InvS at hs ⊢
  rw [h.1 22 (by decide) (by decide), h.1 23 (by decide) (by decide), h.1 24 (by decide) (by decide), h.1 79 (by decide) (by decide), h.1 80 (by decide) (by decide), h.2 42 (by decide)]
  exact hs
theorem InvO.agH {T : tT} {sh : Nat} {t : am_T} {I I' : am_I} (ho : InvO T sh t I) (h : agH I I') : InvO T sh t I' := by
  unfold InvO tabs at ho ⊢
  rw [h.1 25 (by decide) (by decide), h.1 27 (by decide) (by decide), h.1 28 (by decide) (by decide), h.1 29 (by decide) (by decide), h.1 30 (by decide) (by decide)]
  exact ho
theorem Inv.rd {t : am_T} {I I' : am_I} {L : am_J} (hR : InvR I) (hD : InvD I L) {T : tT} {sh : Nat} (hc : cT T I) (hm : mT T I) (hs : sh < 2 ^ tN T) (a1 : I 0 14 = nI sh) (a2 : I 61 19 = nI sh) (hL : cL T sh 13 I) (a4 : I 15 0 = nI 0) (hK : InvK T I) (hS : InvS T I) (hO : InvO T sh t I) (h : agH I I') (hG : (tOk T ∧ InvG T I') ∨ (tE T ∧ InvE I')) : Inv t I' L :=
  ⟨hR.agH h, hD.agH h, T, sh, hc.agH h, hm.agH h, hs, by rw [h.1 0 (by decide) (by decide)]; exact a1, by rw [h.2 19 (by decide)]; exact a2, hL.agH h, by rw [h.1 15 (by decide) (by decide)]; exact a4, hK.agH h, hS.agH h, hO.agH h, hG⟩
theorem cz {T : tT} {x : Int32} (hx : x = nI (tC T)) (hT : tOK T) : (x.toInt = 0 ∧ tE T) ∨ (¬ x.toInt = 0 ∧ tOk T) := by
  have c24 := hT.c24
  rw [hx, nI_toInt (by omega)]
  rcases hT with h | h
  · right
    have := h.1.c2
    exact ⟨by omega, h⟩
  · left
    exact ⟨by rw [h.c0]; rfl, h⟩
theorem nE {T : tT} (h : tOk T) (e : tE T) : False := by
  have := h.1.1
  rw [e.1] at this
  omega
theorem hGk {T : tT} {I : am_I} (hok : tOk T) (h : (tOk T ∧ InvG T I) ∨ (tE T ∧ InvE I)) : InvG T I := by
  rcases h with h | h
  · exact h.2
  · exact (nE hok h.1).elim
section RD
variable {G : am_G} {l : Launch} {t : am_T} {I : am_I} {L : am_J} {Q : bm_P}
theorem pair_may (h : Inv t I L) : bm_C G l 18 [.ref 0] t I L (pI G l 119 [.ref 61]) := by
  obtain ⟨T, sh, hc, hm, hs, a1, a2, hL, a4, hK, hS, hO, hG⟩ := h.2.2
  have hT := InvX.ok hG
  refine bm_go (am_ok_all 18 (by decide)) 40 ?_
  rcases cz hc.2.1 hT with ⟨c0, he⟩ | ⟨c0, hok⟩
  · refine And.intro (fun cd => absurd c0 cd) (fun _ => ?_)
    refine ⟨_, rfl, ?_⟩
    refine bm_go (am_ok_all 119 (by decide)) 40 ?_
    refine And.intro (fun cd => ?_) (fun _ => ⟨rfl, h⟩)
    rw [hm.2.2.1, ← hc.2.1] at cd
    exact absurd c0 cd
  · obtain ⟨n, b, d, p, a, n1, b1, n2, n3, n4, n5, n6, n7, n8, -⟩ := hGk hok hG
    refine And.intro (fun _ => ?_) (fun cd => absurd cd c0)
    have e17 : I 17 3 = bI n.2.2.2 := n2.2.2.2
    have e26 : I 61 26 = bI n.2.2.2 := n3.2.2.2
    have mrun : ∀ v, v = bI n.2.2.2 → bm_C G l 119 [.ref 61] t (am_u I 36 0 v) L (fun v' t I L => v' = some (.int (nI (mayN T sh n))) ∧ Inv t I L) := by
      intro v hv
      have ag : ∀ x, x ≠ 36 → am_u I 36 0 v x = I x := fun x hx => u_ne hx
      refine bm_go (am_ok_all 119 (by decide)) 40 ?_
      refine And.intro (fun _ => ?_) (fun cd => ?_)
      · refine sm_mays (T := T) (s := n) sh hok hm a2 hs n3 n1 ?_
        cases hi : n.2.2.2 with
        | true =>
          rw [hi] at e26 hv
          refine And.intro (fun cd => ?_) (fun cd => ?_)
          · have cd : (I 61 26).toInt = 0 := cd
            rw [e26] at cd
            exact absurd cd (by decide)
          · refine sm_tells ?_
            subst hv
            exact ⟨rfl, h.tell _⟩
        | false =>
          rw [hi] at e26 hv
          refine And.intro (fun cd => ?_) (fun cd => ?_)
          · refine sm_tells ?_
            subst hv
            exact ⟨rfl, h.tell _⟩
          · have cd : ¬ (I 61 26).toInt = 0 := cd
            rw [e26] at cd
            exact absurd rfl cd
      · have cd : (I 61 13).toInt = 0 := cd
        rw [hm.2.2.1, ← hc.2.1] at cd
        exact absurd cd c0
    cases hi : n.2.2.2 with
    | true =>
      rw [hi] at e17
      refine And.intro (fun cd => ?_) (fun cd => ?_)
      · rw [e17] at cd
        exact absurd cd (by decide)
      · refine sp_allowed_17 (s := n) sh hok hc hL n2 n1 ?_
        refine sp_besides ?_
        exact ⟨_, rfl, mrun _ (by rw [hi]; rfl)⟩
    | false =>
      rw [hi] at e17
      refine And.intro (fun cd => ?_) (fun cd => ?_)
      · refine sp_allowed_17 (s := n) sh hok hc hL n2 n1 ?_
        refine sp_besides ?_
        exact ⟨_, rfl, mrun _ (by rw [hi]; rfl)⟩
      · rw [e17] at cd
        exact absurd rfl cd
theorem pair_where (h : Inv t I L) : bm_C G l 20 [.ref 0] t I L (pI G l 121 [.ref 61]) := by
  obtain ⟨T, sh, hc, hm, hs, a1, a2, hL, a4, hK, hS, hO, hG⟩ := h.2.2
  have hT := InvX.ok hG
  refine bm_go (am_ok_all 20 (by decide)) 40 ?_
  rcases cz hc.2.1 hT with ⟨c0, he⟩ | ⟨c0, hok⟩
  · refine And.intro (fun cd => absurd c0 cd) (fun _ => ?_)
    refine ⟨_, rfl, ?_⟩
    refine bm_go (am_ok_all 121 (by decide)) 40 ?_
    refine And.intro (fun cd => ?_) (fun _ => ⟨rfl, h⟩)
    rw [hm.2.2.1, ← hc.2.1] at cd
    exact absurd c0 cd
  · obtain ⟨n, b, d, p, a, n1, b1, n2, n3, n4, n5, n6, n7, n8, -⟩ := hGk hok hG
    refine And.intro (fun _ => ?_) (fun cd => absurd cd c0)
    refine sp_besides ?_
    refine ⟨_, rfl, ?_⟩
    refine bm_go (am_ok_all 121 (by decide)) 40 ?_
    refine And.intro (fun _ => ?_) (fun cd => ?_)
    · refine sm_tells ?_
      refine ⟨?_, ?_⟩
      · show some (Value.int (I 61 23)) = some (Value.int (I 17 0))
        rw [n2.1, show I 61 23 = nI n.1 from n3.1]
      · show Inv t (am_u (am_u I 36 0 (I 16 1)) 61 0 (I 61 27)) L
        rw [n7, n8]
        exact h.tell _
    · have cd : (I 61 13).toInt = 0 := cd
      rw [hm.2.2.1, ← hc.2.1] at cd
      exact absurd cd c0
theorem pair_lit (h : Inv t I L) : bm_C G l 21 [.ref 0] t I L (pI G l 122 [.ref 61]) := by
  obtain ⟨T, sh, hc, hm, hs, a1, a2, hL, a4, hK, hS, hO, hG⟩ := h.2.2
  have e2 : I 17 2 = I 61 25 := by
    rcases hG with ⟨hok, n, b, d, p, a, n1, b1, n2, n3, -⟩ | ⟨he, q1, q2, q3, q4, q5, q6, q7, q8, q9, q10, -⟩
    · rw [n2.2.2.1, show I 61 25 = n.2.2.1 from n3.2.2.1]
    · rw [q2, q10]
  have e1 := (InvX.lit hG).1
  refine bm_go (am_ok_all 21 (by decide)) 40 ?_
  refine sp_besides ?_
  refine ⟨_, rfl, ?_⟩
  refine bm_go (am_ok_all 122 (by decide)) 40 ?_
  refine sm_tells ?_
  refine ⟨?_, ?_⟩
  · show some (Value.int (I 61 24)) = some (Value.int (I 17 1))
    rw [e1]
  · show Inv t (am_u (am_u I 36 0 (I 17 2)) 61 0 (I 61 25)) L
    rw [e2]
    exact h.tell _
end RD

/-! pair: orders -/
/-- the reference's own numbers -/
theorem mT.fr {T : tT} {I I' : am_I} (h : mT T I) (h61 : ∀ j, 11 ≤ j → j < 19 → I' 61 j = I 61 j) (h66 : I' 66 = I 66) (h67 : I' 67 = I 67) (h68 : I' 68 = I 68) : mT T I' := by
  unfold mT at h ⊢
  rw [h61 11 (by decide) (by decide), h61 12 (by decide) (by decide), h61 13 (by decide) (by decide), h61 14 (by decide) (by decide), h61 15 (by decide) (by decide), h61 16 (by decide) (by decide), h61 17 (by decide) (by decide), h61 18 (by decide) (by decide), h66, h67, h68]
  exact h
theorem mT.frN {T : tT} {I I' : am_I} {cs : List Nat} (h : mT T I) (f : frN cs I I') (h1 : 61 ∉ cs) (h2 : 66 ∉ cs) (h3 : 67 ∉ cs) (h4 : 68 ∉ cs) : mT T I' :=
  h.fr (fun _ _ _ => by rw [f 61 h1]) (f 66 h2) (f 67 h3) (f 68 h4)
theorem InvR.frN {I I' : am_I} {cs : List Nat} (h : InvR I) (f : frN cs I I') (h1 : ∀ x, x ∈ cs → x < 38 ∨ (57 < x ∧ x ≠ 63 ∧ x ≠ 64)) : InvR I' :=
  h.fr (fun x h2 h3 => f x (fun q => by have := h1 x q; omega)) (f 63 (fun q => by have := h1 63 q; omega)) (f 64 (fun q => by have := h1 64 q; omega))
theorem InvD.frN {I I' : am_I} {L : am_J} {cs : List Nat} (h : InvD I L) (f : frN cs I I') (h1 : 36 ∉ cs) (h2 : 37 ∉ cs) (h3 : 61 ∉ cs) (h4 : 62 ∉ cs) : InvD I' L :=
  h.fr ⟨by rw [f 36 h1], by rw [f 36 h1]⟩ (f 37 h2) ⟨by rw [f 61 h3], by rw [f 61 h3]⟩ (f 62 h4)
def exOA : List Nat := [25, 26, 27, 28, 29, 30, 31, 32, 33, 74, 75, 76, 77, 78]
theorem exOA_r : ∀ x, x ∈ exOA → x < 38 ∨ (57 < x ∧ x ≠ 63 ∧ x ≠ 64) := by decide
theorem exOA_g : ∀ x, x ∈ exOA → x ∈ exX ∨ x ∈ [27, 28, 29, 30] := by decide
section PO
variable {G : am_G} {l : Launch} {t : am_T} {I : am_I} {L : am_J} {Q : bm_P}
theorem pair_orders (h : Inv t I L) : bm_C G l 27 [.ref 0] t I L (pI G l 138 [.ref 61]) := by
  obtain ⟨T, sh, hc, hm, hs, a1, a2, hL, a4, hK, hS, hO, hG⟩ := h.2.2
  have hT := InvX.ok hG
  have n6 := hT.n6
  have p6 := Nat.pow_le_pow_right (n := 2) (by decide) n6
  have a64 := al_lt hT
  rcases hG with ⟨hok, hg⟩ | ⟨he, hg⟩
  · have c2 := hok.1.c2
    have c24 := hok.1.c24
    refine bm_go (am_ok_all 27 (by decide)) 60 ?_
    refine And.intro (fun _ => ?_) (fun cd => ?_)
    · refine sp_learn sh hok hc hL hO (fun I1 f1 e1 e3 e4 tb => ?_)
      refine sp_demandNothing (fun I2 f2 z2 => ?_)
      have r25 : I2 25 = I1 25 := f2 25 (by decide)
      refine sp_howManyO sh (fun _ => 0) n6 (fun _ => by decide) (by rw [r25]; exact e3) (by rw [r25]; exact e4) (by rw [f2 27 (by decide)]; exact tb.1) (fun k hk => z2 k hk) (fun I3 f3 => ?_)
      have wl := Ws_lt (gap T sh) aw a64
      rw [okD_0]
      refine sp_fraction (Ws (gap T sh) aw (al T)) 1 rfl rfl (by omega) (by decide) ?_
      refine ⟨_, rfl, ?_⟩
      have f : frN exOA I I3 := ((f1.mono (by decide)).trans (f2.mono (by decide))).trans (f3.mono (by decide))
      have hm3 : mT T I3 := hm.frN f (by decide) (by decide) (by decide) (by decide)
      have a23 : I3 61 19 = nI sh := by rw [f 61 (by decide)]; exact a2
      have hO3 : ∀ {I4 : am_I}, frN [74, 75] I3 I4 → InvO T sh (t.1, some 7, some 12) I4 := fun {I4} f4 => by
        have r : ∀ x, x ∈ [25, 27, 28, 29, 30] → I4 x = I1 x := fun x hx => by
          rw [f4 x (by revert hx; revert x; decide), f3 x (by revert hx; revert x; decide), f2 x (by revert hx; revert x; decide)]
        refine Or.inr ⟨by rw [r 25 (by decide)]; exact e1, rfl, by rw [r 25 (by decide)]; exact e3, by rw [r 25 (by decide)]; exact e4, ?_⟩
        unfold tabs at tb ⊢
        rw [r 27 (by decide), r 28 (by decide), r 29 (by decide), r 30 (by decide)]
        exact tb
      refine bm_go (am_ok_all 138 (by decide)) 60 ?_
      refine And.intro (fun _ => ?_) (fun cd => ?_)
      · refine sm_every hT hm3 ?_
        refine sm_goes sh (tD T) 0 (al T) hok hm3 a23 (by omega) hm3.2.2.2.2.1 rfl rfl hok.2.1 (by omega) (by decide) (fun I4 f4 g4 => ?_)
        rw [gr_gap sh n6] at g4
        have hm4 : mT T I4 := hm3.frN f4 (by decide) (by decide) (by decide) (by decide)
        refine sm_every hT hm4 ?_
        refine sm_waysOf (al T) (gap T sh) aw n6 hm4.2.2.2.1 rfl (Nat.le_refl _) (fun l hl => (g4 (al T) l (Nat.le_refl _) hl).2) ?_
        refine ⟨rfl, ?_⟩
        have f' : frN exOA I I4 := f.trans (f4.mono (by decide))
        refine Inv.ord (h.1.frN f' exOA_r) ?_ hc hm hs a1 a2 hL a4 hK hS (Or.inl ⟨hok, hg⟩) (f'.ago exOA_g (by decide) (by decide)) (hO3 f4)
        obtain ⟨d1, d2, d3, d4, d5⟩ := h.2.1.frN f' (by decide) (by decide) (by decide) (by decide)
        refine ⟨d1, d2, d3, ?_, ?_⟩
        · show (nI (Ws (gap T sh) aw (al T) / max 1 (Nat.gcd (Ws (gap T sh) aw (al T)) 1))).toInt64 = (nI (Ws (gap T sh) aw (al T))).toInt64
          rw [Nat.gcd_one_right, Nat.max_self, Nat.div_one]
        · show (nI (1 / max 1 (Nat.gcd (Ws (gap T sh) aw (al T)) 1))).toInt64 = 1
          rw [Nat.gcd_one_right, Nat.max_self, Nat.div_one]
          rfl
      · rw [hm3.2.2.1, nI_toInt (by omega)] at cd
        exact absurd cd (by show ¬ ((tC T : Int) = 0); omega)
    · rw [hc.2.1, nI_toInt (by omega)] at cd
      exact absurd cd (by show ¬ ((tC T : Int) = 0); omega)
  · refine bm_go (am_ok_all 27 (by decide)) 60 ?_
    refine And.intro (fun cd => ?_) (fun _ => ?_)
    · rw [hc.2.1, he.c0] at cd
      exact absurd rfl cd
    · refine ⟨_, rfl, ?_⟩
      refine bm_go (am_ok_all 138 (by decide)) 60 ?_
      refine And.intro (fun cd => ?_) (fun _ => ⟨rfl, h⟩)
      rw [hm.2.2.1, he.c0] at cd
      exact absurd rfl cd
end PO

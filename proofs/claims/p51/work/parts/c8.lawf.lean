/-! the law: streets, and the first places -/
theorem sub_1n : ∀ n, n < 7 → ((1 : Int32) <<< (nI n &&& 31)) - 1 = nI (2 ^ n - 1) := by decide +kernel
section LW
variable {G : am_G} {l : Launch} {t : am_T} {I : am_I} {L : am_J} {T : tT}
theorem lw_40 (hG : G.2.2.1 ≤ 260) : ∀ (j k : Nat) (sv kv : Int32) (t : am_T) (I : am_I) (L : am_J) (d8 d9 d10 d11 d12 d13 d14 d15 d16 d17 d18 d19 : Option Value), sN G - k = j → k ≤ sN G → kv = nI k → sv = nI (bO k (sSt G)) → lB G T 0 t I → nm_W G l 264 40 (wB (nI (tN T)) (nI (al T)) sv kv [d8, d9, d10, d11, d12, d13, d14, d15, d16, d17, d18, d19]) [] 63 63 39200 t I L lwQ := by
  have sb := sN_b G
  have n81 : 63 ≤ 81 := by decide
  intro j
  induction j with
  | zero =>
    intro k sv kv t I L d8 d9 d10 d11 d12 d13 d14 d15 d16 d17 d18 d19 hj hk ek es h
    obtain rfl : k = sN G := by omega
    have e : tS T = bO (sN G) (sSt G) := h.1.2.2.1
    rw [← e] at es
    subst ek es
    refine nm_go (am_ok_all 264 (by decide)) 20 ?_
    refine nm_b n81 (sp_cells hG ?_)
    refine And.intro (fun _ => ?_) (fun cd => absurd cd (by omega))
    exact lw_83 hG (tN T) 0 _ _ t I L _ _ _ _ _ _ _ _ _ _ _ (by omega) (Nat.zero_le _) rfl rfl h
  | succ j ih =>
    intro k sv kv t I L d8 d9 d10 d11 d12 d13 d14 d15 d16 d17 d18 d19 hj hk ek es h
    subst ek
    refine nm_go (am_ok_all 264 (by decide)) 20 ?_
    refine nm_b n81 (sp_cells hG ?_)
    refine And.intro (fun cd => ?_) (fun _ => ?_)
    · rw [nI_toInt (by omega), nI_toInt (by omega)] at cd
      omega
    refine nm_b n81 (sp_street hG k (by omega) rfl ?_)
    by_cases q : sSt G k = true
    · rw [if_pos q]
      refine And.intro (fun cd => absurd cd (by decide)) (fun _ => ?_)
      refine ih (k + 1) _ _ t I L _ _ _ _ _ _ _ _ _ _ _ _ (by omega) (by omega) (nI_1 k) ?_ h
      rw [es, k1, n_shl _ (by omega), n_or, bO_s, if_pos q]
    · rw [if_neg q]
      refine And.intro (fun _ => ?_) (fun cd => absurd rfl cd)
      refine ih (k + 1) _ _ t I L _ _ _ _ _ _ _ _ _ _ _ _ (by omega) (by omega) (nI_1 k) ?_ h
      rw [es, bO_s, if_neg q]
      exact n_or _ 0
theorem lw_7 (hG : G.2.2.1 ≤ 260) (hz : cZ I) (h13 : I 13 0 = nI 0) (h15 : I 15 0 = nI 0) (h40 : I 40 1 = -1) : nm_W G l 264 7 [some (.float 0), none, none, none, none, none, none, none, none, none, none, none, none, none, none, none, none, none, none, none] [.ref 0] 61 61 20015 t I L lwQ := by
  refine nm_go (am_ok_all 264 (by decide)) 40 ?_
  refine sp_lays hG hz h13 h15 (fun T I1 hT B1 R1 S1 Z1 e40 => ?_)
  refine ⟨6, rfl, rfl, ?_⟩
  refine sp_stands hG (by decide) (o := 62) (by decide) rfl (fun I2 f2 e2 => ?_)
  have f : frN [62] I1 I2 := fun x hx => by
    have hx : x ≠ 62 := fun e => hx (by rw [e]; exact List.mem_singleton.mpr rfl)
    rw [f2 x hx, mz_ne hx]
  have hb : lB G T 0 (some 50, t.2) I2 := by
    obtain ⟨i1, i2, i3, i4, i5, i6⟩ := id hT
    refine ⟨hT, B1.n f (by decide), ⟨_, R1.n f (by decide)⟩, ⟨_, _, S1.n f (by decide)⟩, Z1.fr (fun k hk => by rw [f (38 + 2 * k) (by simp; omega)]), ?_, fun j hj => ?_⟩
    · rw [f 40 (by decide), e40, h40]
    · rw [i5] at hj
      rw [e2 j hj, (i6 j hj).2.1]
  have key : ((1 : Int32) <<< (nI (sNum G) &&& 31)) - 1 = nI (al T) := by
    rw [sub_1n _ (by have := sNum_le G; omega)]
    unfold al
    rw [hT.2.2.2.2.1]
  have w := lw_40 (l := l) (T := T) hG (sN G) 0 0 0 (some 50, t.2) I2 (mzL 62 (mzL 61 L)) none none none none none none none none none none none none (by omega) (Nat.zero_le _) rfl rfl hb
  rw [← key, hT.2.2.2.2.1] at w
  exact nm_wide (c := 63) (k := 20027) rfl (by decide) (by decide) w
end LW

/-! the law's lays, all of it -/
theorem i8_id : ∀ v, v < 128 → (nI v).toInt8.toInt32 = nI v := by decide +kernel
/-- the town of the script -/
def isT (G : am_G) (T : tT) : Prop := tW T = sW G ∧ tH T = sH G ∧ tS T = bO (sN G) (sSt G) ∧ tD T = sD G ∧ tN T = sNum G ∧ ∀ k, k < sNum G → tK T k = sKd G k ∧ tP T k = sAt G k ∧ tR T k = sRc G k
section LY
variable {G : am_G} {l : Launch} {t : am_T} {I : am_I} {L : am_J} {Q : nm_P}
theorem ly_loop (hG : G.2.2.1 ≤ 260) {nv : Int32} (kont : ∀ (I' : am_I), (∀ z, z ≠ 51 → I' z = I z) → (∀ j, j < sZ G → I' 51 j = nI (sSg G j)) → nm_W G l 77 90 [some (.ref 0), some (.float 0), some (.ref 61), some (.int nv), some (.int (nI (sZ G))), some (.int 1), some (.int (nI (sZ G)))] [] 62 1 6 t I' L Q) (hz : cZ I) (h50 : I 50 1 = nI (sZ G)) (hI : ∀ j, j < sNum G → I 61 j = nI (sAt G j)) :
    ∀ (r i : Nat) (I' : am_I) (iv : Int32), i + r = sZ G → iv = nI i → (∀ z, z ≠ 51 → I' z = I z) → (∀ j, j < i → I' 51 j = nI (sSg G j)) → (∀ j, i ≤ j → j < 80 → I' 51 j = 32) →
    nm_W G l 77 45 [some (.ref 0), some (.float 0), some (.ref 61), some (.int nv), some (.int (nI (sZ G))), some (.int 1), some (.int iv)] [] 62 1 6 t I' L Q := by
  have z51 := sZ_le G
  intro r
  induction r with
  | zero =>
    intro i I' iv hi ei f1 h1 h2
    obtain rfl : i = sZ G := by omega
    subst ei
    refine nm_go (am_ok_all 77 (by decide)) 2 ?_
    refine And.intro (fun _ => kont I' f1 h1) (fun cd => absurd cd (by omega))
  | succ r ih =>
    intro i I' iv hi ei f1 h1 h2
    subst ei
    have sg := @sSg_b G i (by omega)
    have z1 : cZ I' := hz.fr (fun k hk => by rw [f1 (38 + 2 * k) (by omega)])
    have p50 : I' 50 1 = nI (sZ G) := by rw [f1 50 (by decide)]; exact h50
    refine nm_go (am_ok_all 77 (by decide)) 2 ?_
    refine And.intro (fun cd => ?_) (fun _ => ?_)
    · rw [nI_toInt (by omega), nI_toInt (by omega)] at cd
      omega
    refine nm_go (am_ok_all 77 (by decide)) 60 ?_
    refine And.intro (fun cd => absurd cd (by decide)) (fun _ => ?_)
    refine sp_sign hG (by decide) (by decide) rfl (fun j hj => by rw [f1 61 (by decide)]; exact hI j hj) i (by omega) rfl ?_
    refine nm_b (by decide) (cc_put z1 rfl i rfl (by rw [p50, nI_toInt (by omega)]; omega) ?_)
    rw [h2 i (Nat.le_refl i) (by omega)]
    refine And.intro (fun cd => absurd rfl cd) (fun _ => ?_)
    refine ih (i + 1) (am_u I' 51 i (nI (sSg G i)).toInt8.toInt32) _ (by omega) (nI_1 i) (fun z hz => ?_) (fun j hj => ?_) (fun j hj hj2 => ?_)
    · rw [u_ne hz]
      exact f1 z hz
    · by_cases e : j = i
      · subst e
        rw [u_eq, i8_id _ (by omega)]
      · rw [u_nj e]
        exact h1 j (by omega)
    · rw [u_nj (by omega)]
      exact h2 j (by omega) hj2
theorem sp_lays (hG : G.2.2.1 ≤ 260) (hz : cZ I) (h13 : I 13 0 = nI 0) (h15 : I 15 0 = nI 0) (kont : ∀ (T : tT) (I' : am_I), isT G T → cB T 0 (some 50, t.2) I' → cR T 0 0 (fun _ => 0) I' → cS T 0 (fun _ => 0) (fun _ => 0) I' → cZ I' → I' 40 1 = I 40 1 → Q 62 (some (.int 1)) (some 50, t.2) I' (mzL 61 L)) : nm_C G l 77 [.ref 0, .float 0] 61 t I L Q := by
  have z51 := sZ_le G
  have sb := sN_b G
  have n6 := sNum_le G
  have ez : (3 : Int32) + nI (sN G) + 4 * nI (sNum G) = nI (sZ G) := by
    rw [k3, k4, pk_mul, nI_add, nI_add]
    rfl
  refine nm_go (am_ok_all 77 (by decide)) 15 ?_
  refine ⟨6, rfl, rfl, ?_⟩
  refine sp_stands hG (by decide) (by decide) rfl (fun I1 f1 a1 => ?_)
  refine nm_b (by decide) (sp_cells hG ?_)
  have m61 : ∀ z, z ≠ 61 → I1 z = I z := fun z hz => by rw [f1 z hz, mz_ne hz]
  have z1 : cZ I1 := hz.fr (fun k hk => by rw [m61 (38 + 2 * k) (by omega)])
  have step : ∀ zv : Int32, zv = nI (sZ G) → ∀ d5 d6 : Option Value, nm_W G l 77 23 [some (.ref 0), some (.float 0), some (.ref 61), some (.int (nI (sNum G))), some (.int zv), d5, d6] [] 62 1 6 t I1 (mzL 61 L) Q := by
    intro zv hzv d5 d6
    subst hzv
    refine nm_go (am_ok_all 77 (by decide)) 40 ?_
    refine nm_b (by decide) (cc_text rfl (sZ G) (by omega) rfl ?_)
    refine And.intro (fun cd => absurd rfl cd) (fun _ => ?_)
    generalize hI2 : am_f (am_u I1 50 1 (nI (sZ G))) 51 80 32 = I2
    have f2 : ∀ z, z ≠ 50 → z ≠ 51 → I2 z = I1 z := fun z h1 h2 => by rw [← hI2, f_ne h2, u_ne h1]
    have p50 : I2 50 1 = nI (sZ G) := by rw [← hI2, f_ne (by decide), u_eq]
    have p51 : ∀ j, j < 80 → I2 51 j = 32 := fun j hj => by rw [← hI2, f_eq hj]
    have z2 : cZ I2 := by
      intro k hk
      by_cases e : k = 6
      · subst e
        show -1 ≤ (I2 50 1).toInt ∧ (I2 50 1).toInt ≤ ((cp 6 : Nat) : Int)
        rw [p50, nI_toInt (by omega)]
        have : cp 6 = 80 := rfl
        omega
      · rw [f2 (38 + 2 * k) (by omega) (by omega)]
        exact z1 k hk
    refine ly_loop hG (fun I3 f3 h3 => ?_) z2 p50 (fun j hj => by rw [f2 61 (by decide) (by decide)]; exact a1 j hj) (sZ G) 0 I2 _ (by omega) rfl (fun _ _ => rfl) (fun j hj => absurd hj (Nat.not_lt_zero j)) (fun j _ hj => p51 j hj)
    have tx : txC 0 (sZ G) (sTx G) I3 := by
      refine ⟨?_, fun p hp => ?_⟩
      · show I3 50 1 = _
        rw [f3 50 (by decide)]
        exact p50
      · have sg := sSg_b hp
        show (I3 51 p).toInt = _ ∧ _
        rw [h3 p hp, nI_toInt (by omega)]
        refine ⟨rfl, ?_⟩
        show -128 ≤ ((sSg G p : Nat) : Int) ∧ ((sSg G p : Nat) : Int) ≤ 127
        omega
    have f13 : ∀ z, z ≠ 50 → z ≠ 51 → I3 z = I1 z := fun z h1 h2 => by rw [f3 z h2, f2 z h1 h2]
    have z3 : cZ I3 := z2.fr (fun k hk => by rw [f3 (38 + 2 * k) (by omega)])
    obtain ⟨T, hp, hT⟩ := tx_P G
    refine nm_go (am_ok_all 77 (by decide)) 40 ?_
    refine And.intro (fun cd => absurd cd (by decide)) (fun _ => ?_)
    refine nm_b (by decide) (cc_fault rfl (sZ G) (sZ G) (sTx G) (by omega) tx hp (fun I4 f4 => ?_))
    refine And.intro (fun cd => absurd rfl cd) (fun _ => ?_)
    have tx4 : txC 0 (sZ G) (sTx G) I4 := by
      unfold txC at tx ⊢
      rw [f4 (38 + 2 * (6 + 0)) (by decide), f4 (39 + 2 * (6 + 0)) (by decide)]
      exact tx
    have f14 : ∀ z, z ≠ 50 → z ≠ 51 → z ≠ 61 → z ∉ [3, 4, 5, 6] → I4 z = I z := fun z h1 h2 h3 h4 => by rw [f4 z h4, f13 z h1 h2, m61 z h3]
    refine nm_b (by decide) (cc_town rfl (sZ G) (sZ G) (sTx G) (by omega) tx4 hp ?_ ?_ (fun I5 f5 b5 r5 s5 => ?_))
    · rw [f14 13 (by decide) (by decide) (by decide) (by decide)]
      exact h13
    · rw [f14 15 (by decide) (by decide) (by decide) (by decide)]
      exact h15
    · rw [hT.2.2.2.2.1]
      refine And.intro (fun cd => absurd rfl cd) (fun _ => ?_)
      refine ⟨Or.inr rfl, ?_⟩
      refine kont T I5 hT b5 r5 s5 (z3.fr (fun k hk => ?_)) ?_
      · rw [f5 (38 + 2 * k) (by simp; omega), f4 (38 + 2 * k) (by simp; omega)]
      · rw [f5 40 (by decide), f14 40 (by decide) (by decide) (by decide) (by decide)]
  exact step _ ez _ _
end LY

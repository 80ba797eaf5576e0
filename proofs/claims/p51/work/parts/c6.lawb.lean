/-! the law: what comes before the walk -/
abbrev wB (ns ev st av : Int32) (r : am_L) : am_L := some (.float 0) :: some (.ref 0) :: some (.int 1) :: some (.ref 62) :: some (.int ns) :: some (.int ev) :: some (.int st) :: some (.int av) :: r
/-- what holds before -/
def lB (G : am_G) (T : tT) (sh : Nat) (t : am_T) (I : am_I) : Prop := isT G T ∧ cB T sh t I ∧ (∃ a, cR T 0 0 a I) ∧ (∃ a b, cS T 0 a b I) ∧ cZ I ∧ I 40 1 = -1 ∧ ∀ j, j < tN T → I 62 j = nI (tP T j)
theorem lB.f {G : am_G} {T : tT} {sh sh' : Nat} {t t' : am_T} {I I' : am_I} {cs : List Nat} (h : lB G T sh t I) (hB : cB T sh' t' I') (f : ∀ x, x ∉ cs → I' x = I x) (hd : ∀ x, x ∈ cs → x ∉ [16, 17, 18, 19, 22, 23, 24] ∧ x < 38) : lB G T sh' t' I' := by
  obtain ⟨h1, h2, ⟨a, h3⟩, ⟨b, c, h4⟩, h5, h6, h7⟩ := h
  have f : frN cs I I' := f
  have r : ∀ x, 38 ≤ x → I' x = I x := fun x h1 => f x (fun q => by have := (hd x q).2; omega)
  refine ⟨h1, hB, ⟨a, h3.n f (fun x hx q => (hd x q).1 (by revert hx; simp; omega))⟩, ⟨b, c, h4.n f (fun x hx q => (hd x q).1 (by revert hx; simp; omega))⟩, h5.fr (fun k hk => by rw [r (38 + 2 * k) (by omega)]), ?_, ?_⟩
  · rw [r 40 (by omega)]
    exact h6
  · rw [r 62 (by omega)]
    exact h7
theorem lB.l0 {G : am_G} {T : tT} {sh : Nat} {t : am_T} {I : am_I} (h : lB G T sh t I) : I 17 1 = nI 0 := by
  obtain ⟨a, h3⟩ := h.2.2.1
  exact h3.2.2.1.2.1
theorem Fm_n0 {T : tT} (h : tN T = 0) : Fm (gap T 0) (al T) ≠ none := by
  have a0 : al T = 0 := by unfold al; rw [h]
  rw [Fm_ex 0 (by omega), a0]
  refine ⟨[], ?_, Option.some_ne_none _⟩
  show [] ∈ pQ 0 64 0
  have e : pQ 0 64 0 = [[]] := if_pos (Nat.le_refl 0)
  rw [e]
  exact List.mem_singleton.mpr rfl
section LW
variable {G : am_G} {l : Launch} {t : am_T} {I : am_I} {L : am_J} {T : tT}
theorem lw_226 (hG : G.2.2.1 ≤ 260) {av : Int32} (h : lB G T 0 t I) {d8 d9 d10 d11 d12 d13 d14 d15 d16 d17 d18 d19 : Option Value} : nm_W G l 264 226 (wB (nI (tN T)) (nI (al T)) (nI (tS T)) av [d8, d9, d10, d11, d12, d13, d14, d15, d16, d17, d18, d19]) [] 63 63 39200 t I L lwQ := by
  obtain ⟨h1, h2, ⟨a, h3⟩, ⟨b, c, h4⟩, h5, h6, h7⟩ := h
  have hok := h2.1
  have n6 : tN T ≤ 6 := hok.2.2.2.1
  have p6 := Nat.pow_le_pow_right (n := 2) (by decide) n6
  have a64 : al T < 64 := by unfold al; omega
  have n81 : 63 ≤ 81 := by decide
  have z0 : (0 : Int32).toInt = 0 := rfl
  have z9 : (-9 : Int32).toInt = -9 := rfl
  refine nm_go (am_ok_all 264 (by decide)) 15 ?_
  refine nm_b n81 (cc_digest h2 h3 h4 h5 ?_)
  refine nm_b n81 (cc_shortest h2 (fun e I1 f1 B1 => ?_) (fun V I1 hV f1 B1 e40 e41 => ?_))
  · -- there is no order
    have n0 : 0 < tN T := by
      apply Classical.byContradiction
      intro q
      exact Fm_n0 (by omega) e
    have g1 : lS G T (dgP T I) 63 (t.1, some 7, some 12) I1 := by
      have h0 : lS G T (dgP T I) 63 t I := ⟨h1, h2, ⟨a, h3⟩, ⟨b, c, h4⟩, h5, rfl, by decide, by decide⟩
      exact h0.n B1 f1 (by decide)
    refine And.intro (fun cd => absurd cd (by decide)) (fun _ => ?_)
    refine And.intro (fun cd => absurd rfl cd) (fun _ => ?_)
    refine nm_b n81 (cc_first B1 (fun I2 f2 B2 => ?_))
    rw [(first_0 0 n6 n0).mpr e]
    have g2 := g1.n B2 f2 (by decide)
    refine nm_go (am_ok_all 264 (by decide)) 12 ?_
    refine And.intro (fun cd => absurd rfl cd) (fun _ => ?_)
    refine And.intro (fun cd => ?_) (fun _ => ?_)
    · rw [nI_toInt (by omega)] at cd
      omega
    refine And.intro (fun cd => absurd rfl cd) (fun _ => ?_)
    refine And.intro (fun cd => absurd cd (by decide)) (fun _ => ?_)
    refine And.intro (fun _ => ?_) (fun cd => absurd cd (by decide))
    exact nm_wide (c := 63) (k := 39200) (c' := 81) (k' := 40064) rfl (by decide) (by decide) (lw_462 hG ⟨fun _ => rfl, fun q => absurd e q⟩ g2)
  · -- there is one
    have fm : Fm (gap T 0) (al T) ≠ none := by
      rw [← Fm_Bo _ n6, hV]
      exact Option.some_ne_none _
    have vl := Bo_lt (g := gap T 0) (fun s l k v e => gap_lt e) (tN T) (al T) _ 0 7 V rfl hV
    have vt : (nI V).toInt = (V : Int) := nI_toInt (by omega)
    have hsp : lSp T (nI V) := ⟨fun e => absurd e fm, fun _ => by rw [vt]; omega⟩
    obtain ⟨w1, w2, w3, w4⟩ := walk_row n6 hV
    have g1 : ∀ (I2 : am_I) (t2 : am_T), cB T 0 t2 I2 → frN (36 :: 37 :: exP) I1 I2 → lV G T (dgP T I) (gd (gap T 0) (tN T) (al T) 64 0 7) t2 I2 ∧ cR T 0 0 a I2 := by
      intro I2 t2 B2 f2
      have f : frN (40 :: 41 :: 36 :: 37 :: exP) I I2 := (f1.mono (by decide)).trans (f2.mono (by decide))
      refine ⟨⟨h1, B2, ⟨b, c, h4.n f (by decide)⟩, fun k hk => ?_, ?_, ?_, ?_, ?_⟩, h3.n f (by decide)⟩
      · by_cases q : k = 1
        · subst q
          show -1 ≤ (I2 40 1).toInt ∧ (I2 40 1).toInt ≤ 60
          rw [f2 40 (by decide), e40, nI_toInt (by omega)]
          omega
        · rw [f (38 + 2 * k) (by simp [exP]; omega)]
          exact h5 k hk
      · refine dgP_eq h5 (fun k hk => ?_)
        by_cases q : k = 1
        · subst q
          refine ⟨?_, fun j hj => ?_⟩
          · show am_u I2 40 1 (-1) 40 1 = I 40 1
            rw [u_eq, h6]
          · exfalso
            have hj : (j : Int) < (I 40 1).toInt := hj
            rw [h6] at hj
            have z : (-1 : Int32).toInt = -1 := rfl
            omega
        · rw [u_ne (by omega), u_ne (by omega), f (38 + 2 * k) (by simp [exP]; omega), f (39 + 2 * k) (by simp [exP]; omega)]
          exact ⟨rfl, fun _ _ => rfl⟩
      · rw [f2 40 (by decide)]
        exact e40
      · rw [f2 41 (by decide)]
        exact e41
      · rw [f 62 (by decide)]
        exact h7
    refine And.intro (fun cd => absurd cd (by decide)) (fun _ => ?_)
    refine And.intro (fun _ => ?_) (fun cd => ?_)
    rotate_left
    · exfalso
      rw [vt, z9] at cd
      omega
    refine nm_b n81 (cc_first B1 (fun I2 f2 B2 => ?_))
    obtain ⟨g2, R2⟩ := g1 I2 _ B2 f2
    have w271 : nm_W G l 264 271 (wL (nI (tN T)) (nI (al T)) (nI (tS T)) av (dgP T I) (nI V) [d11, d12, d13, d14, d15, d16, d17, d18, d19]) [.int 0] 63 63 39200 (t.1, some 7, some 12) I2 L lwQ := by
      refine nm_go (am_ok_all 264 (by decide)) 40 ?_
      refine And.intro (fun cd => absurd rfl cd) (fun _ => ?_)
      refine And.intro (fun cd => absurd cd (by decide)) (fun _ => ?_)
      refine And.intro (fun cd => ?_) (fun _ => ?_)
      · rw [vt] at cd
        omega
      refine lw_296 hG hV hsp _ 0 0 7 0 0 V 0 63 63 39200 a _ _ _ I2 L _ _ _ _ _ _ _ (fun m _ => by rw [Nat.zero_add]) (by omega) w3 w4 w2 (by omega) rfl rfl (Nat.le_refl 0) rfl rfl rfl (by omega) R2 ?_ g2
      show rd0 T = wkS T 0 7
      unfold wkS
      rw [if_pos rfl]
    refine And.intro (fun _ => w271) (fun cd => ?_)
    have n0 : tN T = 0 := by
      apply Classical.byContradiction
      intro q
      have ne : ¬ bO (tN T) (fun k => (fby T 0 k).isSome) = 0 := fun z => fm ((first_0 0 n6 (by omega)).mp z)
      have lt : bO (tN T) (fun k => (fby T 0 k).isSome) < 2 ^ tN T := bO_lt _ _
      rw [nI_toInt (by omega)] at cd
      omega
    refine nm_go (am_ok_all 264 (by decide)) 1 ?_
    refine And.intro (fun _ => w271) (fun cd => ?_)
    rw [n0] at cd
    exact absurd cd (by decide)
end LW

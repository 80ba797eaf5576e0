/-! goes: he comes to a cell by as few steps as can be -/
theorem mz_ne {n x : Nat} {I : am_I} (h : x ≠ n) : mz n I x = I x := by
  funext y
  unfold mz
  rw [if_neg h]
section GO
variable {G : am_G} {l : Launch} {t : am_T} {L : am_J} {Q : nm_P} {T : tT} {sh : Nat} {n : Nat} {x y : Int32}
theorem g_fill (hC : gC n) {d7 d8 d9 d10 d11 d12 d13 d14 d15 : Option Value} : ∀ (j i : Nat) (I : am_I) (iv : Int32), 48 - i = j → i ≤ 48 → iv = nI i → (∀ k, k < i → I n k = -1) →
    (∀ I', (∀ z, z ≠ n → I' z = I z) → (∀ k, k < 48 → I' n k = -1) → nm_W G l 78 48 [some (.ref 0), some (.int x), some (.int y), some (.ref n), some (.ref (n + 1)), some (.ref (n + 2)), some (.int (nI 48)), d7, d8, d9, d10, d11, d12, d13, d14, d15] [] (n + 3) 3 144 t I' L Q) →
    nm_W G l 78 30 [some (.ref 0), some (.int x), some (.int y), some (.ref n), some (.ref (n + 1)), some (.ref (n + 2)), some (.int iv), d7, d8, d9, d10, d11, d12, d13, d14, d15] [] (n + 3) 3 144 t I L Q := by
  intro j
  induction j with
  | zero =>
    intro i I iv hj hi ei hz kont
    obtain rfl : i = 48 := by omega
    subst ei
    refine nm_go (am_ok_all 78 (by decide)) 2 ?_
    refine And.intro (fun _ => ?_) (fun cd => absurd cd (by decide))
    exact kont I (fun _ _ => rfl) hz
  | succ j ih =>
    intro i I iv hj hi ei hz kont
    subst ei
    refine nm_go (am_ok_all 78 (by decide)) 2 ?_
    refine And.intro (fun cd => ?_) (fun _ => ?_)
    · rw [nI_toInt (by omega)] at cd
      have cd : (48 : Int) ≤ (i : Int) := cd
      omega
    refine nm_go (am_ok_all 78 (by decide)) 20 ?_
    refine ⟨48, ⟨by omega, hC.2.2.1⟩, i, nI_toInt (by omega), by omega, ?_⟩
    refine ih (i + 1) (am_u I n i (-1)) _ (by omega) (by omega) (nI_1 i) (fun k hk => ?_) (fun I' f' z' => ?_)
    · by_cases e : k = i
      · subst e
        exact u_eq
      · rw [u_nj e]
        exact hz k (by omega)
    · refine kont I' (fun z h => ?_) z'
      rw [f' z h, u_ne h]
theorem cc_goes {I : am_I} {own br : Nat} {s : sT} {d : Nat} {a : Nat → Nat} (h : cB T sh t I) (hr : cR T sh d a I) (hs : runS T sh (rd0 T) a d = s) (hC : gC n) (hg : gIn T sh s own br) (hins : own.testBit s.1 = s.2.2.2) {to v : Nat} (hto : to < tC T) (ho : own.testBit to = false) (hx : x = nI to) (hy : y = nI (tC T)) (hd : d + 48 ≤ 200)
    (hv : lv T (1 <<< s.1) own br v (2 * to) = true) (hvm : ∀ i, i < v → lv T (1 <<< s.1) own br i (2 * to) = false) (hvC : v ≤ tC T)
    (hQ : ∀ (n' : Nat) (a' : Nat → Nat) (I' : am_I) (L' : am_J), (n' = n ∨ n' = n + 3) → (∀ z, z < n → z ∉ [16, 17, 19, 36] → I' z = I z) → (∀ z, z < 61 → L' z = L z) → cB T sh t I' → cR T sh (d + v) a' I' → (∀ i, i < d → a' i = a i) → runS T sh (rd0 T) a' (d + v) = nd s (2 * to) → Q n' (some (.int (nI v))) t I' L') : nm_C G l 78 [.ref 0, .int x, .int y] n t I L Q := by
  have hok := h.1
  have hT := hok.1
  have h24 := hT.c24
  have n63 := hC.1
  have n81 := hC.2.1
  have sk := runS_ok hok sh (rd0_ok hok) a d
  rw [hs] at sk
  have sC := sk.1
  have hf : 1 <<< s.1 < 2 ^ tC T := one_lt sC
  have e0 := fun k => @lv_0 T own br s.1 s.2.2.2 hins k (by omega)
  have f36 : frN [36] I (am_u I 36 0 (nI d)) := (frN.refl _ _).u (by decide)
  have s17 := hr.2.2.1
  rw [hs] at s17
  refine nm_go (am_ok_all 78 (by decide)) 3 ?_
  refine nm_b (by omega) (cc_where h (c := s.1) (d := d) s17.1 hr.2.1 ?_)
  generalize hI1 : am_u I 36 0 (nI d) = I1 at f36
  have B1 := h.n f36 (by decide)
  have R1 := hr.n f36 (by decide)
  refine And.intro (fun cd => ?_) (fun cd => ?_)
  rotate_left
  · -- he is there
    rw [hx, nI_toInt (by omega), nI_toInt (by omega)] at cd
    have cd : s.1 = to := by omega
    have i0 : s.2.2.2 = false := by rw [← hins, cd]; exact ho
    have v0 : v = 0 := by
      have := (e0 (2 * to)).mpr (by rw [i0, cd]; rfl)
      by_cases q : v = 0
      · exact q
      · rw [hvm 0 (by omega)] at this
        cases this
    subst v0
    have q := hQ n a I1 L (Or.inl rfl) (fun z _ hz => f36 z (by simp at hz ⊢; omega)) (fun _ _ => rfl) B1 R1 (fun _ _ => rfl) (by
      show runS T sh (rd0 T) a d = _
      rw [hs, ← cd]
      obtain ⟨c, p1, p2, p3⟩ := s
      have i0 : p3 = false := i0
      subst i0
      exact (nd_mk (s := (c, p1, p2, false)) c).2)
    refine nm_go (am_ok_all 78 (by decide)) 20 ?_
    exact q
  rw [hx, nI_toInt (by omega), nI_toInt (by omega)] at cd
  have cd : s.1 ≠ to := fun e => cd (by rw [e])
  obtain ⟨bg, hbg⟩ : ∃ bg, bg = 2 * s.1 + (if s.2.2.2 then 1 else 0) := ⟨_, rfl⟩
  have bgl : bg < 2 * tC T := by rw [hbg]; split <;> omega
  have tgb : 2 * to ≠ bg := by rw [hbg]; split <;> omega
  have nbg := nd_bg hbg
  obtain ⟨F0, C0, D0⟩ := @BF_0 T sh own br bg s (fun _ => 0) s.1 s.2.2.2 hins sC h24 hbg
  refine nm_go (am_ok_all 78 (by decide)) 40 ?_
  refine ⟨48, rfl, hC.2.2.1, ?_⟩
  refine ⟨48, rfl, hC.2.2.2.1, ?_⟩
  refine ⟨48, rfl, hC.2.2.2.2, ?_⟩
  refine g_fill hC 48 0 _ _ rfl (by omega) rfl (fun k hk => absurd hk (Nat.not_lt_zero k)) (fun I2 f2 z2 => ?_)
  have f12 : ∀ z, z ∉ [n, n + 1, n + 2] → I2 z = I1 z := fun z hz => by
    simp at hz
    rw [f2 z hz.1, mz_ne hz.2.2, mz_ne hz.2.1, mz_ne hz.1]
  have g2 : frN [n, n + 1, n + 2] I1 I2 := f12
  have B2 : cB T sh t I2 := B1.n g2 (by intro z hz; simp [cKeep] at hz; simp; omega)
  have R2 : cR T sh d a I2 := R1.n g2 (by intro z hz; simp at hz; simp; omega)
  have s17b := R2.2.2.1
  rw [hs] at s17b
  have ml : mayN T sh s < 2 ^ 5 := bO_lt _ _
  refine nm_go (am_ok_all 78 (by decide)) 9 ?_
  refine nm_b (by omega) (cc_may B2 s17b sk ?_)
  have f3 : frN [36] I2 (am_u I2 36 0 (bI s.2.2.2)) := (frN.refl _ _).u (by decide)
  generalize hI3 : am_u I2 36 0 (bI s.2.2.2) = I3 at f3
  have B3 := B2.n f3 (by decide)
  have R3 := R2.n f3 (by decide)
  have s17c := R3.2.2.1
  rw [hs] at s17c
  refine nm_b (by omega) (cc_where B3 (c := s.1) (d := d) s17c.1 R3.2.1 ?_)
  have f4 : frN [36] I3 (am_u I3 36 0 (nI d)) := (frN.refl _ _).u (by decide)
  generalize hI4 : am_u I3 36 0 (nI d) = I4 at f4
  have B4 := B3.n f4 (by decide)
  have R4 := R3.n f4 (by decide)
  have s17d := R4.2.2.1
  rw [hs] at s17d
  refine nm_b (by omega) (cc_may B4 s17d sk ?_)
  have f5 : frN [36] I4 (am_u I4 36 0 (bI s.2.2.2)) := (frN.refl _ _).u (by decide)
  have e36 : am_u I4 36 0 (bI s.2.2.2) 36 0 = bI s.2.2.2 := u_eq
  generalize hI5 : am_u I4 36 0 (bI s.2.2.2) = I5 at f5 e36
  have B5 := B4.n f5 (by decide)
  have R5 := R4.n f5 (by decide)
  refine And.intro (fun c2 => ?_) (fun _ => ?_)
  · rw [nI_toInt (by omega)] at c2
    omega
  have g5 : frN [36] I2 I5 := (f3.trans f4).trans f5
  have step : ∀ (z : Int32) (Lz : am_J) (d7 d8 d9 d10 d11 d12 d13 d14 d15 : Option Value), (∀ q, q < 61 → Lz q = L q) → z = nI bg → nm_W G l 78 77 [some (.ref 0), some (.int x), some (.int y), some (.ref n), some (.ref (n + 1)), some (.ref (n + 2)), some (.int z), d7, d8, d9, d10, d11, d12, d13, d14, d15] [] (n + 3) 3 144 t I5 Lz Q := by
    intro z Lz d7 d8 d9 d10 d11 d12 d13 d14 d15 hLz hz
    subst hz
    refine nm_go (am_ok_all 78 (by decide)) 40 ?_
    refine ⟨48, ⟨by omega, hC.2.2.1⟩, bg, nI_toInt (by omega), by omega, ?_⟩
    have f6 : frN [n] I5 (am_u I5 n bg 0) := (frN.refl _ _).u (by simp)
    have B6 : cB T sh t (am_u I5 n bg 0) := B5.n f6 (by intro z hz; simp [cKeep] at hz; simp; omega)
    have R6 : cR T sh d a (am_u I5 n bg 0) := R5.n f6 (by intro z hz; simp at hz; simp; omega)
    have A6 : gA n (far0 bg) (fun _ => 0) (am_u I5 n bg 0) := by
      refine ⟨fun k hk => ?_, fun k m e => ?_⟩
      · unfold far0
        by_cases q : k = bg
        · subst q
          rw [u_eq, if_pos rfl]
          rfl
        · rw [u_nj q, if_neg q, g5 n (by simp; omega), z2 k hk]
          rfl
      · unfold far0 at e
        split at e
        · cases e
        · cases e
    have fz : far0 bg (2 * to) = none := if_neg tgb
    have e1 : fdI (far0 bg) (2 * to) = -1 := if_pos fz
    have run := g_search (l := l) (Q := Q) (G := G) (L := Lz) hok hf hg hC a hto hx hy hd nbg hs hv hvm hvC v 0 (far0 bg) (fun _ => 0) a (am_u I5 n bg 0) 0 d9 d10 d11 d12 d13 d14 d15 rfl rfl (Nat.zero_le v) F0 (Or.inr ⟨fz, C0⟩) A6 B6 R6 (fun _ _ => rfl) (fun n7 far7 cm7 a7 I7 nv7 e9 e10 e11 e12 e13 e14 e15 f7 F7 h7 A7 B7 R7 a7' => ?_)
    · rw [e1] at run
      exact run
    · refine nm_go (am_ok_all 78 (by decide)) 1 ?_
      refine And.intro (fun _ => ?_) (fun c3 => ?_)
      rotate_left
      · rw [nI_toInt (by omega)] at c3
        omega
      refine nm_go (am_ok_all 78 (by decide)) 20 ?_
      refine g_back2 hT hC F7 v 0 (2 * to) (fun _ => 0) I7 _ _ h7 (by omega) rfl rfl A7 (fun i hi => absurd hi (Nat.not_lt_zero i)) rfl (fun wy I8 f8 W8 p8 => ?_)
      rw [Nat.zero_add] at W8 p8 ⊢
      have g8 : frN [n + 2] I7 I8 := fun z hz => f8 z (fun e => hz (by simp [e]))
      have B8 : cB T sh t I8 := B7.n g8 (by intro z hz; simp [cKeep] at hz; simp; omega)
      have R8 : cR T sh d a7 I8 := R7.n g8 (by intro z hz; simp at hz; simp; omega)
      refine nm_go (am_ok_all 78 (by decide)) 20 ?_
      refine g_replay2 hC v bg d a7 I8 _ (dn_1 v) B8 R8 (by rw [runS_c d a7', hs, nbg]) (by omega) (by omega) W8 p8 (fun a9 I9 f9 B9 R9 e9 s9 => ?_)
      have q := hQ (n + 3) a9 I9 Lz (Or.inr rfl) (fun z hz hz2 => ?_) hLz B9 R9 (fun i hi => by rw [e9 i hi]; exact a7' i hi) s9
      · refine nm_go (am_ok_all 78 (by decide)) 20 ?_
        exact q
      · simp at hz2
        rw [f9 z (by simp; omega), f8 z (by omega), f7 z (by simp; omega), u_ne (by omega), g5 z (by simp; omega), f12 z (by simp; omega), f36 z (by simp; omega)]
  refine nm_go (am_ok_all 78 (by decide)) 4 ?_
  refine nm_b (by omega) (cc_asked ?_)
  rw [e36]
  refine step _ _ _ _ _ _ _ _ _ _ _ (fun q hq => ?_) ?_
  · funext w
    show mzL (n + 2) (mzL (n + 1) (mzL n L)) q w = L q w
    unfold mzL
    rw [if_neg (by omega), if_neg (by omega), if_neg (by omega)]
  · rw [k2, pk_mul, hbg]
    cases s.2.2.2 with
    | true => exact nI_add _ _
    | false => exact nI_add _ 0
end GO

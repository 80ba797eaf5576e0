/-! goes: level by level, and the whole of it -/
theorem nd_bg {s : sT} {bg : Nat} (h : bg = 2 * s.1 + (if s.2.2.2 then 1 else 0)) : nd s bg = s := by
  obtain ⟨c, a, b, i⟩ := s
  subst h
  cases i with
  | true => exact (nd_mk (s := (c, a, b, true)) c).1.symm
  | false => exact (nd_mk (s := (c, a, b, false)) c).2.symm
section GO
variable {G : am_G} {l : Launch} {t : am_T} {L : am_J} {Q : nm_P} {T : tT} {sh f own br bg nn : Nat} {s : sT} {n : Nat} {x y : Int32}
theorem g_level (hok : tOk T) (hf : f < 2 ^ tC T) (hg : gIn T sh s own br) (hC : gC n) {d : Nat} (a0 : Nat → Nat) {to : Nat} (hto : to < tC T) (hx : x = nI to) (hy : y = nI (tC T)) (hd : d + nn < 200) (hnn : nn ≤ 47) (hbg : nd s bg = s) (hs0 : runS T sh (rd0 T) a0 d = s) :
    ∀ (j k : Nat) (far : Nat → Option Nat) (cm : Nat → Nat) (a : Nat → Nat) (I : am_I) (kv : Int32) (d10 d11 d12 d13 d14 d15 : Option Value), 2 * tC T - k = j → k ≤ 2 * tC T → kv = nI k → gV T sh s f own br bg n nn t far cm I → BD T sh s nn k 0 far → cR T sh d a I → (∀ i, i < d → a i = a0 i) →
    (∀ (far' : Nat → Option Nat) (cm' : Nat → Nat) (a' : Nat → Nat) (I' : am_I) (d9 d10 d11 d12 d13 d14 d15 : Option Value), (∀ z, z ∉ [16, 17, 19, 36, n, n + 1, n + 2] → I' z = I z) → gV T sh s f own br bg n nn t far' cm' I' → (far' (2 * to) ≠ none ∨ BD T sh s nn (2 * tC T) 0 far') → cR T sh d a' I' → (∀ i, i < d → a' i = a0 i) → nm_W G l 78 326 (gL x y n (nI bg) (fdI far' (2 * to)) (nI nn) [d9, d10, d11, d12, d13, d14, d15]) [] (n + 3) 3 144 t I' L Q) →
    nm_W G l 78 104 (gL x y n (nI bg) (fdI far (2 * to)) (nI nn) [some (.int kv), d10, d11, d12, d13, d14, d15]) [] (n + 3) 3 144 t I L Q := by
  have hT := hok.1
  have h24 := hT.c24
  have n63 := hC.1
  have n81 := hC.2.1
  have y2 : (2 : Int32) * y = nI (2 * tC T) := by rw [hy, k2, pk_mul]
  intro j
  induction j with
  | zero =>
    intro k far cm a I kv d10 d11 d12 d13 d14 d15 hj hk ek hV hD hR ha kont
    obtain rfl : k = 2 * tC T := by omega
    subst ek
    refine nm_go (am_ok_all 78 (by decide)) 4 ?_
    refine And.intro (fun _ => ?_) (fun cd => ?_)
    · exact kont far cm a I _ d10 d11 d12 d13 d14 d15 (fun _ _ => rfl) hV (Or.inr hD) hR ha
    · rw [y2] at cd
      omega
  | succ j ih =>
    intro k far cm a I kv d10 d11 d12 d13 d14 d15 hj hk ek hV hD hR ha kont
    subst ek
    obtain ⟨hF, hc, hA, hB⟩ := id hV
    refine nm_go (am_ok_all 78 (by decide)) 4 ?_
    refine And.intro (fun cd => ?_) (fun _ => ?_)
    · rw [y2, nI_toInt (by omega), nI_toInt (by omega)] at cd
      omega
    refine nm_go (am_ok_all 78 (by decide)) 1 ?_
    refine And.intro (fun cd => ?_) (fun cd => ?_)
    · refine kont far cm a I _ d10 d11 d12 d13 d14 d15 (fun _ _ => rfl) hV (Or.inl (fun e => ?_)) hR ha
      have := (fdI_lt (far := far) (tg := 2 * to) (by omega)).mpr e
      omega
    have fl : ∀ v, far k = some v → v < 1000 := fun v e => by have := (hF.1 k v e).2.1; omega
    refine nm_go (am_ok_all 78 (by decide)) 4 ?_
    refine ⟨48, ⟨by omega, hC.2.2.1⟩, k, nI_toInt (by omega), by omega, ?_⟩
    rw [hA.1 k (by omega)]
    refine And.intro (fun cd => ?_) (fun cd => ?_)
    · have ne : far k ≠ some nn := fun e => cd ((fI_eq fl (by omega)).mpr e)
      refine nm_go (am_ok_all 78 (by decide)) 20 ?_
      exact ih (k + 1) far cm a I _ d10 d11 d12 d13 d14 d15 (by omega) (by omega) (nI_1 k) hV (hD.skip ne) hR ha kont
    · have ek := (fI_eq fl (by omega)).mp cd
      refine nm_go (am_ok_all 78 (by decide)) 20 ?_
      refine g_back hT hC hF nn 0 k (fun _ => 0) I _ _ ek (by omega) rfl rfl hA (fun i hi => absurd hi (Nat.not_lt_zero i)) rfl (fun wy I1 f1 W1 p1 => ?_)
      rw [Nat.zero_add] at W1 p1 ⊢
      have g1 : frN [n + 2] I I1 := fun z hz => f1 z (fun e => hz (by simp [e]))
      have B1 : cB T sh t I1 := hB.n g1 (by intro z hz; simp [cKeep] at hz; simp; omega)
      have R1 : cR T sh d a I1 := hR.n g1 (by intro z hz; simp at hz; simp; omega)
      refine nm_go (am_ok_all 78 (by decide)) 60 ?_
      refine nm_b hC.le (cc_where B1 (c := (runS T sh (rd0 T) a d).1) (d := d) R1.2.2.1.1 R1.2.1 ?_)
      refine nm_b hC.le (cc_asked ?_)
      have e36 : am_u I1 36 0 (nI d) 36 0 = nI d := u_eq
      rw [e36]
      have f2 : frN [36] I1 (am_u I1 36 0 (nI d)) := (frN.refl _ _).u (by decide)
      generalize am_u I1 36 0 (nI d) = I2 at f2
      have B2 := B1.n f2 (by decide)
      have R2 := R1.n f2 (by decide)
      have sd : runS T sh (rd0 T) a d = nd s bg := by rw [runS_c d ha, hs0, hbg]
      refine g_replay hC nn bg d a I2 _ (dn_1 nn) B2 R2 sd (by omega) (by omega) (fun i hi => by rw [f2 (n + 2) (by simp; omega)]; exact W1 i hi) p1 (fun a3 I3 f3 B3 R3 e3 s3 => ?_)
      refine nm_go (am_ok_all 78 (by decide)) 20 ?_
      have g3 : ∀ z, z ∉ [16, 17, 19, 36, n + 2] → I3 z = I z := fun z hz => by
        rw [f3 z (by simp at hz ⊢; omega), f2 z (by simp at hz ⊢; omega), g1 z (by simp at hz ⊢; omega)]
      refine g_ways hok hf hg hC a0 hto hx hd hnn (by omega) 4 0 far cm a3 I3 _ _ _ rfl (by omega) rfl ek ⟨hF, hc, hA.fr (g3 n (by simp; omega)) (g3 (n + 1) (by simp; omega)), B3⟩ hD R3 (fun i hi => by rw [e3 i hi]; exact ha i hi) s3 (fun far4 cm4 a4 I4 d14' d15' f4 V4 D4 R4 e4 => ?_)
      refine nm_go (am_ok_all 78 (by decide)) 20 ?_
      refine nm_b hC.le (cc_undo V4.2.2.2 R4 d (by omega) rfl (fun I5 f5 r5 => ?_))
      have g5 : ∀ z, z ∉ [16, 17, 19, 36, n, n + 1, n + 2] → I5 z = I z := fun z hz => by
        rw [f5 z (by simp at hz ⊢; omega), f4 z (by simp at hz ⊢; omega), g3 z (by simp at hz ⊢; omega)]
      refine ih (k + 1) far4 cm4 a4 I5 _ _ _ _ _ _ _ (by omega) (by omega) (nI_1 k) ⟨V4.1, V4.2.1, V4.2.2.1.fr (f5 n (by simp; omega)) (f5 (n + 1) (by simp; omega)), V4.2.2.2.n f5 (by decide)⟩ D4.next r5 e4 (fun far6 cm6 a6 I6 e9 e10 e11 e12 e13 e14 e15 f6 V6 D6 R6 a6' => ?_)
      refine kont far6 cm6 a6 I6 e9 e10 e11 e12 e13 e14 e15 (fun z hz => ?_) V6 D6 R6 a6'
      rw [f6 z hz, g5 z hz]
theorem g_search (hok : tOk T) (hf : f < 2 ^ tC T) (hg : gIn T sh s own br) (hC : gC n) {d : Nat} (a0 : Nat → Nat) {to v : Nat} (hto : to < tC T) (hx : x = nI to) (hy : y = nI (tC T)) (hd : d + 48 ≤ 200) (hbg : nd s bg = s) (hs0 : runS T sh (rd0 T) a0 d = s) (hv : lv T f own br v (2 * to) = true) (hvm : ∀ i, i < v → lv T f own br i (2 * to) = false) (hvC : v ≤ tC T) :
    ∀ (j nn : Nat) (far : Nat → Option Nat) (cm : Nat → Nat) (a : Nat → Nat) (I : am_I) (nv : Int32) (d9 d10 d11 d12 d13 d14 d15 : Option Value), v - nn = j → nv = nI nn → nn ≤ v → BF T sh s f own br bg nn far cm → (far (2 * to) = some v ∨ (far (2 * to) = none ∧ BC T f own br nn far)) → gA n far cm I → cB T sh t I → cR T sh d a I → (∀ i, i < d → a i = a0 i) →
    (∀ (nn' : Nat) (far' : Nat → Option Nat) (cm' : Nat → Nat) (a' : Nat → Nat) (I' : am_I) (nv' : Int32) (d9 d10 d11 d12 d13 d14 d15 : Option Value), (∀ z, z ∉ [16, 17, 19, 36, n, n + 1, n + 2] → I' z = I z) → BF T sh s f own br bg nn' far' cm' → far' (2 * to) = some v → gA n far' cm' I' → cB T sh t I' → cR T sh d a' I' → (∀ i, i < d → a' i = a0 i) → nm_W G l 78 332 (gL x y n (nI bg) (nI (2 * to)) nv' [d9, d10, d11, d12, d13, d14, d15]) [] (n + 3) 3 144 t I' L Q) →
    nm_W G l 78 88 (gL x y n (nI bg) (fdI far (2 * to)) nv [d9, d10, d11, d12, d13, d14, d15]) [] (n + 3) 3 144 t I L Q := by
  have hT := hok.1
  have h24 := hT.c24
  have n63 := hC.1
  have n81 := hC.2.1
  have y2 : (2 : Int32) * y = nI (2 * tC T) := by rw [hy, k2, pk_mul]
  intro j
  induction j with
  | zero =>
    intro nn far cm a I nv d9 d10 d11 d12 d13 d14 d15 hj en hnv hF hfd hA hB hR ha kont
    subst en
    obtain rfl : nn = v := by omega
    rcases hfd with hfd | ⟨h1, h2⟩
    · have efd : fdI far (2 * to) = nI (2 * to) := by
        unfold fdI
        rw [hfd, if_neg (fun z => by cases z)]
      rw [efd]
      refine nm_go (am_ok_all 78 (by decide)) 4 ?_
      refine And.intro (fun _ => ?_) (fun _ => ?_)
      · exact kont nn far cm a I _ d9 d10 d11 d12 d13 d14 d15 (fun _ _ => rfl) hF hfd hA hB hR ha
      · refine nm_go (am_ok_all 78 (by decide)) 1 ?_
        refine And.intro (fun _ => ?_) (fun cd => ?_)
        · exact kont nn far cm a I _ d9 d10 d11 d12 d13 d14 d15 (fun _ _ => rfl) hF hfd hA hB hR ha
        · rw [nI_toInt (by omega)] at cd
          omega
    · obtain ⟨i, _, e⟩ := h2 _ hv
      rw [h1] at e
      cases e
  | succ j ih =>
    intro nn far cm a I nv d9 d10 d11 d12 d13 d14 d15 hj en hnv hF hfd hA hB hR ha kont
    subst en
    rcases hfd with hfd | ⟨h1, h2⟩
    · have efd : fdI far (2 * to) = nI (2 * to) := by
        unfold fdI
        rw [hfd, if_neg (fun z => by cases z)]
      rw [efd]
      refine nm_go (am_ok_all 78 (by decide)) 4 ?_
      refine And.intro (fun _ => ?_) (fun _ => ?_)
      · exact kont nn far cm a I _ d9 d10 d11 d12 d13 d14 d15 (fun _ _ => rfl) hF hfd hA hB hR ha
      · refine nm_go (am_ok_all 78 (by decide)) 1 ?_
        refine And.intro (fun _ => ?_) (fun cd => ?_)
        · exact kont nn far cm a I _ d9 d10 d11 d12 d13 d14 d15 (fun _ _ => rfl) hF hfd hA hB hR ha
        · rw [nI_toInt (by omega)] at cd
          omega
    · refine nm_go (am_ok_all 78 (by decide)) 4 ?_
      refine And.intro (fun cd => ?_) (fun _ => ?_)
      · rw [y2, nI_toInt (by omega), nI_toInt (by omega)] at cd
        omega
      refine nm_go (am_ok_all 78 (by decide)) 1 ?_
      refine And.intro (fun cd => ?_) (fun _ => ?_)
      · have := (fdI_lt (far := far) (tg := 2 * to) (by omega)).mpr h1
        omega
      refine nm_go (am_ok_all 78 (by decide)) 20 ?_
      refine g_level hok hf hg hC a0 hto hx hy (by omega) (by omega) hbg hs0 (2 * tC T) 0 far cm a I _ _ _ _ _ _ _ (by omega) (by omega) rfl ⟨hF.up, h2, hA, hB⟩ (fun p w q h => by omega) hR ha (fun far3 cm3 a3 I3 e9 e10 e11 e12 e13 e14 e15 f3 V3 D3 R3 a3' => ?_)
      obtain ⟨F3, C3, A3, B3⟩ := V3
      refine nm_go (am_ok_all 78 (by decide)) 20 ?_
      refine ih (nn + 1) far3 cm3 a3 I3 _ e9 e10 e11 e12 e13 e14 e15 (by omega) (nI_1 nn) (by omega) F3 ?_ A3 B3 R3 a3' (fun n4 far4 cm4 a4 I4 nv4 i9 i10 i11 i12 i13 i14 i15 f4 F4 h4 A4 B4 R4 a4' => ?_)
      · cases e : far3 (2 * to) with
        | some m =>
          left
          obtain ⟨_, m1, m2⟩ := F3.1 _ m e
          have : ¬ m < v := fun q => by rw [hvm m q] at m2; cases m2
          rw [show m = v by omega]
        | none =>
          right
          rcases D3 with D3 | D3
          · exact absurd e D3
          · exact ⟨rfl, C3.next hT hf hg F3 D3⟩
      · refine kont n4 far4 cm4 a4 I4 nv4 i9 i10 i11 i12 i13 i14 i15 (fun z hz => ?_) F4 h4 A4 B4 R4 a4'
        rw [f4 z hz, f3 z hz]
end GO

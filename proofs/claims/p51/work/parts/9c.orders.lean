/-! pair: orders -/
theorem gr_gap {T : tT} (sh : Nat) (h6 : tN T ≤ 6) : gr T sh (tD T) 0 (al T) = gap T sh := by
  have p := Nat.two_pow_pos (tN T)
  have p6 := Nat.pow_le_pow_right (n := 2) (by decide) h6
  funext s l k
  by_cases hs : s ≤ al T
  · by_cases hb : s.testBit k = true
    · rw [gap_in sh hb (by unfold al at hs; omega)]
      unfold gr
      rw [if_neg (fun w => by rw [hb] at w; exact absurd w.2.2.2.1 (by decide))]
    · have hb : s.testBit k = false := by simpa using hb
      unfold gr gap
      by_cases hk : k < tN T
      · have ha : (al T).testBit k = true := by rw [tb_al]; exact decide_eq_true hk
        by_cases s0 : s = 0
        · by_cases h7 : l = 7
          · rw [if_pos ⟨hs, hk, ha, hb, by rw [if_pos s0]; exact h7⟩, if_pos ⟨hs, hk, by rw [if_pos s0]; exact h7⟩]
          · rw [if_neg (fun w => by have := w.2.2.2.2; rw [if_pos s0] at this; exact h7 this), if_neg (fun w => by have := w.2.2; rw [if_pos s0] at this; exact h7 this)]
        · by_cases hl : s.testBit l = true
          · have ln : l < tN T := by
              by_cases q : l < tN T
              · exact q
              · rw [tb_big (n := tN T) (by unfold al at hs; omega) (by omega)] at hl
                cases hl
            rw [if_pos ⟨hs, hk, ha, hb, by rw [if_neg s0]; exact ⟨ln, hl⟩⟩, if_pos ⟨hs, hk, by rw [if_neg s0]; exact hl⟩]
          · rw [if_neg (fun w => by have := w.2.2.2.2; rw [if_neg s0] at this; exact hl this.2), if_neg (fun w => by have := w.2.2; rw [if_neg s0] at this; exact hl this)]
      · rw [if_neg (fun w => hk w.2.1), if_neg (fun w => hk w.2.1)]
  · unfold gr gap
    rw [if_neg (fun w => hs w.1), if_neg (fun w => hs w.1)]
theorem okD_0 : okD (fun _ => 0) = aw := by
  funext s k
  unfold okD aw
  rw [Nat.zero_and]
  rfl
theorem Ws_lt (g : Nat → Nat → Nat → Option Nat) (ok : Nat → Nat → Bool) {s : Nat} (hs : s < 64) : Ws g ok s ≤ 2097152 :=
  sumN_le 8 (fun i _ => Wo_lt g ok i hs)
theorem gcd_half {a b : Nat} (h : b ≠ 0) (hb : b < a) : a % b * 2 < a := by
  have := Nat.mod_lt a (Nat.pos_of_ne_zero h)
  have h2 := Nat.div_add_mod a b
  have h3 : 1 ≤ a / b := (Nat.le_div_iff_mul_le (Nat.pos_of_ne_zero h)).mpr (by omega)
  have h4 : b * 1 ≤ b * (a / b) := Nat.mul_le_mul_left b h3
  omega
section PO
variable {G : am_G} {l : Launch} {t : am_T} {I : am_I} {L : am_J} {Q : bm_P}
theorem sp_gcd {x y : Int32} (a b : Nat) (hx : x = nI a) (hy : y = nI b) (ha : a < 2 ^ 22) (hb : b < 2 ^ 22) (h : Q (some (.int (nI (Nat.gcd a b)))) t I L) : bm_C G l 243 [.int x, .int y] t I L Q := by
  have T64' : (64 : Int32).toInt = 64 := rfl
  have rem : ∀ a b, a < 2 ^ 22 → b < 2 ^ 22 → b ≠ 0 → nI a - nI a / nI b * nI b = nI (a % b) := fun a b h1 h2 h3 => pk_rem (by omega) (by omega) (by omega)
  have gr : ∀ a b, Nat.gcd b (a % b) = Nat.gcd a b := fun a b => by rw [Nat.gcd_comm a b, Nat.gcd_rec b a, Nat.gcd_comm]
  have go : ∀ d i a b p q yi d5, i + d = 63 → p = nI a → q = nI b → yi = nI i → a < 2 ^ 22 → b < 2 ^ 22 → (b < a ∨ b = 0) → a * b < 2 ^ d → Q (some (.int (nI (Nat.gcd a b)))) t I L → bm_W G l 243 7 [some (.int x), some (.int y), some (.int p), some (.int q), some (.int yi), d5] [] t I L Q := by
    intro d
    induction d with
    | zero =>
      intro i a b p q yi d5 hi e1 e2 e3 ha hb hab hp k
      subst e1 e2 e3
      have b0 : b = 0 := by
        rcases hab with w | w
        · have : a * b = 0 := by omega
          rcases Nat.mul_eq_zero.mp this with w2 | w2
          · omega
          · exact w2
        · exact w
      subst b0
      rw [Nat.gcd_zero_right] at k
      refine bm_go (am_ok_all 243 (by decide)) 40 ?_
      refine And.intro (fun cd => ?_) (fun _ => ?_)
      · rw [T64', nI_toInt (by omega)] at cd
        omega
      first | refine And.intro (fun cd => absurd cd (by decide)) (fun _ => ?_) | refine And.intro (fun _ => ?_) (fun cd => absurd cd (by decide)) | refine And.intro (fun cd => ?_) (fun cd => ?_)
      exact k
    | succ d ih =>
      intro i a b p q yi d5 hi e1 e2 e3 ha hb hab hp k
      subst e1 e2 e3
      refine bm_go (am_ok_all 243 (by decide)) 40 ?_
      refine And.intro (fun cd => ?_) (fun _ => ?_)
      · rw [T64', nI_toInt (by omega)] at cd
        omega
      refine And.intro (fun cd => ?_) (fun cd => ?_)
      · have b0 : b = 0 := by
          rw [nI_toInt (by omega)] at cd
          have cd : (b : Int) = 0 := cd
          omega
        subst b0
        rw [Nat.gcd_zero_right] at k
        exact k
      · have b0 : b ≠ 0 := fun e => cd (by rw [e]; rfl)
        have ab : b < a := hab.resolve_right b0
        have ml := Nat.mod_lt a (Nat.pos_of_ne_zero b0)
        have hh := gcd_half b0 ab
        have pr : b * (a % b * 2) < b * a := Nat.mul_lt_mul_of_pos_left hh (Nat.pos_of_ne_zero b0)
        have pr2 : b * (a % b) * 2 < 2 ^ (d + 1) := by
          rw [Nat.mul_assoc]
          rw [Nat.mul_comm a b] at hp
          omega
        refine ⟨cd, ?_⟩
        refine ih (i + 1) b (a % b) _ _ _ _ (by omega) rfl (rem a b ha hb b0) (nI_succ i).symm hb (by omega) (Or.inl ml) (by rw [Nat.pow_succ] at pr2; omega) ?_
        rw [gr]
        exact k
  subst hx hy
  refine bm_go (am_ok_all 243 (by decide)) 40 ?_
  refine bm_go (am_ok_all 243 (by decide)) 40 ?_
  first | refine And.intro (fun cd => absurd cd (by decide)) (fun _ => ?_) | refine And.intro (fun _ => ?_) (fun cd => absurd cd (by decide)) | refine And.intro (fun cd => ?_) (fun cd => ?_)
  refine And.intro (fun cd => ?_) (fun cd => ?_)
  · have b0 : b = 0 := by
      rw [nI_toInt (by omega)] at cd
      have cd : (b : Int) = 0 := cd
      omega
    subst b0
    rw [Nat.gcd_zero_right] at h
    exact h
  · have b0 : b ≠ 0 := fun e => cd (by rw [e]; rfl)
    have ml := Nat.mod_lt a (Nat.pos_of_ne_zero b0)
    have pr : b * (a % b) < 2 ^ 22 * 2 ^ 22 := Nat.mul_lt_mul'' hb (by omega)
    refine ⟨cd, ?_⟩
    refine go 62 1 b (a % b) _ _ _ _ rfl rfl (rem a b ha hb b0) rfl hb (by omega) (Or.inl ml) (by omega) ?_
    rw [gr]
    exact h
theorem gcd_le {a b : Nat} (ha : a < 2 ^ 22) (hb : b < 2 ^ 22) : Nat.gcd a b < 2 ^ 22 := by
  by_cases a0 : a = 0
  · subst a0
    rw [Nat.gcd_zero_left]
    exact hb
  · exact Nat.lt_of_le_of_lt (Nat.gcd_le_left b (Nat.pos_of_ne_zero a0)) ha
theorem sp_fraction {x y z : Int32} (a b : Nat) (hx : x = nI a) (hy : y = nI b) (ha : a < 2 ^ 22) (hb : b < 2 ^ 22) (h : Q (some (.int z)) t I (am_uJ (am_uJ L 36 1 (nI (a / max 1 (Nat.gcd a b))).toInt64) 36 2 (nI (b / max 1 (Nat.gcd a b))).toInt64)) : bm_C G l 242 [.ref 36, .int x, .int y, .int z] t I L Q := by
  have hg := gcd_le ha hb
  refine bm_go (am_ok_all 242 (by decide)) 60 ?_
  refine sp_gcd a b hx hy ha hb ?_
  intro w hw
  have ew : w = nI (max 1 (Nat.gcd a b)) := by
    apply Int32.toInt_inj.mp
    rw [hw, nI_toInt (by omega), nI_toInt (by omega)]
    show max (1 : Int) _ = _
    omega
  generalize hm : max 1 (Nat.gcd a b) = m at *
  have m1 : 1 ≤ m := by omega
  have m2 : m < 2 ^ 22 := by omega
  subst hx hy ew
  have nz : ¬ (nI m).toInt = 0 := by rw [nI_toInt (by omega)]; omega
  have d1 : nI a / nI m = nI (a / m) := pk_div (by omega) (by omega) (by omega)
  have d2 : nI b / nI m = nI (b / m) := pk_div (by omega) (by omega) (by omega)
  rw [← d1, ← d2] at h
  exact ⟨nz, nz, h⟩
end PO

/-! the reference: the fewest steps of a set, how many ways -/
def Ws (g : Nat → Nat → Nat → Option Nat) (ok : Nat → Nat → Bool) (s : Nat) : Nat := sumN 8 (Wo g ok s)
theorem Fm_0 (g : Nat → Nat → Nat → Option Nat) : Fm g 0 = some 0 := by
  have e : Fo g 0 = fun l => if l = 7 then some 0 else none := funext (fun l => by rw [Fo_eq, if_pos rfl])
  show ominN 8 (Fo g 0) = _
  rw [e]
  rfl
theorem Ws_0 (g : Nat → Nat → Nat → Option Nat) (ok : Nat → Nat → Bool) : Ws g ok 0 = 1 := by
  have e : Wo g ok 0 = fun l => if l = 7 then 1 else 0 := funext (fun l => by rw [Wo_eq, if_pos rfl])
  show sumN 8 (Wo g ok 0) = _
  rw [e]
  rfl
theorem ominN_more {f : Nat → Option Nat} {n : Nat} : ∀ m, (∀ i, n ≤ i → i < n + m → f i = none) → ominN (n + m) f = ominN n f
  | 0, _ => rfl
  | m + 1, h => by
    show omin (ominN (n + m) f) (f (n + m)) = _
    rw [ominN_more m (fun i h1 h2 => h i h1 (by omega)), h (n + m) (by omega) (by omega)]
    cases ominN n f <;> rfl
theorem sumN_more {f : Nat → Nat} {n : Nat} : ∀ m, (∀ i, n ≤ i → i < n + m → f i = 0) → sumN (n + m) f = sumN n f
  | 0, _ => rfl
  | m + 1, h => by
    show sumN (n + m) f + f (n + m) = _
    rw [sumN_more m (fun i h1 h2 => h i h1 (by omega)), h (n + m) (by omega) (by omega)]
    rfl
theorem Fo_out {g : Nat → Nat → Nat → Option Nat} {s l : Nat} (h0 : s ≠ 0) (h : s.testBit l = false) : Fo g s l = none := by
  rw [Fo_eq, if_neg h0, if_neg (by rw [h]; decide)]
theorem Wo_out {g : Nat → Nat → Nat → Option Nat} {ok : Nat → Nat → Bool} {s l : Nat} (h0 : s ≠ 0) (h : s.testBit l = false) : Wo g ok s l = 0 := by
  rw [Wo_eq, if_neg h0, if_neg (by rw [h]; decide)]
theorem Fm_n {T : tT} {g : Nat → Nat → Nat → Option Nat} {s : Nat} (h6 : tN T ≤ 6) (hs : s ≤ al T) (h0 : s ≠ 0) : Fm g s = ominN (tN T) (Fo g s) := by
  have p := Nat.two_pow_pos (tN T)
  have := ominN_more (f := Fo g s) (n := tN T) (8 - tN T) (fun i h1 _ => Fo_out h0 (tb_big (n := tN T) (by unfold al at hs; omega) h1))
  rw [show tN T + (8 - tN T) = 8 by omega] at this
  exact this
theorem Ws_n {T : tT} {g : Nat → Nat → Nat → Option Nat} {ok : Nat → Nat → Bool} {s : Nat} (h6 : tN T ≤ 6) (hs : s ≤ al T) (h0 : s ≠ 0) : Ws g ok s = sumN (tN T) (Wo g ok s) := by
  have p := Nat.two_pow_pos (tN T)
  have := sumN_more (f := Wo g ok s) (n := tN T) (8 - tN T) (fun i h1 _ => Wo_out h0 (tb_big (n := tN T) (by unfold al at hs; omega) h1))
  rw [show tN T + (8 - tN T) = 8 by omega] at this
  exact this
theorem Fo_ob {g : Nat → Nat → Nat → Option Nat} (hg : ∀ s l k v, g s l k = some v → v < 25) {s l : Nat} (hs : s < 64) : ob (Fo g s l) := fun v e => by have := Fo_lt hg s l v e; omega
theorem ominN_ob {f : Nat → Option Nat} {n : Nat} (h : ∀ i, ob (f i)) : ob (ominN n f) := fun v e => by
  obtain ⟨i, _, e2⟩ := ominN_some _ _ e
  exact h i v e2
theorem Fm_ob {g : Nat → Nat → Nat → Option Nat} (hg : ∀ s l k v, g s l k = some v → v < 25) {s : Nat} (hs : s < 64) : ob (Fm g s) := ominN_ob (fun i => Fo_ob hg hs)
theorem eM_i {a : Option Nat} (h : ob a) : (eM a).toInt = match a with
  | some v => (v : Int)
  | none => -9 := by
  cases a with
  | none => rfl
  | some v => exact nI_toInt (by have := h v rfl; omega)
section PF
variable {G : am_G} {l : Launch} {t : am_T} {I : am_I} {L : am_J} {Q : bm_P}
theorem sm_every {T : tT} (hT : tOK T) (hm : mT T I) (h : Q (some (.int (nI (al T)))) t I L) : bm_C G l 132 [.ref 61] t I L Q := by
  refine bm_go (am_ok_all 132 (by decide)) 20 ?_
  have n6 := hT.n6
  have key : (1 : Int32) <<< (I 61 14 &&& 31) - 1 = nI (al T) := by
    rw [hm.2.2.2.1, shl1 (by omega), n_one, k1, pk_sub Nat.one_le_two_pow]
    rfl
  rw [← key] at h
  exact h
theorem sm_fewestOf {T : tT} {x : Int32} (s : Nat) (g : Nat → Nat → Nat → Option Nat) (hg : ∀ s l k v, g s l k = some v → v < 25) (h6 : tN T ≤ 6) (hn : I 61 14 = nI (tN T)) (hx : x = nI s) (hs : s ≤ al T) (hf : ∀ l, l < 6 → I 74 (6 * s + l) = eM (Fo g s l)) (h : Q (some (.int (eM (Fm g s)))) t I L) : bm_C G l 130 [.ref 61, .int x] t I L Q := by
  subst hx
  have p := Nat.two_pow_pos (tN T)
  have p6 := Nat.pow_le_pow_right (n := 2) (by decide) h6
  have s64 : s < 64 := by unfold al at hs; omega
  have lp : ∀ d k y b d4, tN T - k = d → k ≤ tN T → y = nI k → b = eM (if s = 0 then some 0 else ominN k (Fo g s)) → bm_W G l 130 13 [some (.ref 61), some (.int (nI s)), some (.int b), some (.int y), d4] [] t I L Q := by
    intro d
    induction d with
    | zero =>
      intro k y b d4 hd hk hy hb
      obtain rfl : k = tN T := by omega
      subst hy hb
      refine bm_go (am_ok_all 130 (by decide)) 60 ?_
      refine And.intro (fun _ => ?_) (fun cd => ?_)
      · by_cases s0 : s = 0
        · rw [if_pos s0]
          rw [s0, Fm_0] at h
          exact h
        · rw [if_neg s0, ← Fm_n h6 hs s0]
          exact h
      · rw [hn] at cd
        omega
    | succ d ih =>
      intro k y b d4 hd hk hy hb
      subst hy
      have step : ∀ b' d4, b' = eM (if s = 0 then some 0 else ominN (k + 1) (Fo g s)) → bm_W G l 130 13 [some (.ref 61), some (.int (nI s)), some (.int b'), some (.int (nI k + 1)), d4] [] t I L Q := fun b' d4 e => ih (k + 1) _ b' d4 (by omega) (by omega) (nI_succ k).symm e
      have nb := n_bit (s := s) (j := k) (by omega) (by omega)
      refine bm_go (am_ok_all 130 (by decide)) 60 ?_
      refine And.intro (fun cd => ?_) (fun _ => ?_)
      · rw [hn, nI_toInt (by omega), nI_toInt (by omega)] at cd
        omega
      refine And.intro (fun cd => ?_) (fun cd => ?_)
      · have bt : s.testBit k = false := by
          cases e : s.testBit k with
          | false => rfl
          | true => rw [nb, e] at cd; exact absurd rfl cd
        refine And.intro (fun _ => ?_) (fun cd => absurd rfl cd)
        refine step b _ ?_
        rw [hb]
        by_cases s0 : s = 0
        · rw [if_pos s0, if_pos s0]
        · rw [if_neg s0, if_neg s0]
          show _ = eM (omin (ominN k (Fo g s)) (Fo g s k))
          rw [Fo_out s0 bt]
          cases ominN k (Fo g s) <;> rfl
      · have bt : s.testBit k = true := by
          cases e : s.testBit k with
          | true => rfl
          | false => rw [nb, e] at cd; exact absurd cd (by decide)
        have s0 : s ≠ 0 := fun e => by rw [e] at bt; simp at bt
        rw [if_neg s0] at hb
        subst hb
        have of := Fo_ob hg (l := k) s64
        have ofN : ob (ominN k (Fo g s)) := ominN_ob (fun i => Fo_ob hg s64)
        have eF := eM_i of
        have eB := eM_i ofN
        have ix : ((6 : Int32) * nI s + nI k).toInt = ((6 * s + k : Nat) : Int) := by rw [k6, pk_mul, nI_add]; exact nI_toInt (by omega)
        have hk6 := hf k (by omega)
        have step : ∀ b' d4, b' = eM (omin (ominN k (Fo g s)) (Fo g s k)) → bm_W G l 130 13 [some (.ref 61), some (.int (nI s)), some (.int b'), some (.int (nI k + 1)), d4] [] t I L Q := fun b' d4 e => step b' d4 (by rw [if_neg s0]; exact e)
        generalize Fo g s k = a at *
        generalize ominN k (Fo g s) = b at *
        refine ⟨6 * s + k, ix, (by omega : 6 * s + k < 384), ?_⟩
        refine And.intro (fun cd => ?_) (fun c1 => ?_)
        · rw [hk6, eF] at cd
          refine step _ _ ?_
          cases a with
          | none => cases b <;> rfl
          | some v =>
            have cd : (v : Int) = -9 := cd
            omega
        · rw [hk6, eF] at c1
          cases a with
          | none => exact absurd rfl c1
          | some v =>
            have vb := of v rfl
            refine And.intro (fun c2 => ?_) (fun c2 => ?_)
            · rw [eB] at c2
              refine step _ _ ?_
              rw [hk6]
              cases b with
              | none => rfl
              | some w =>
                have c2 : (w : Int) = -9 := c2
                omega
            · rw [eB] at c2
              cases b with
              | none => exact absurd rfl c2
              | some w =>
                have wb := ofN w rfl
                refine And.intro (fun c3 => ?_) (fun c3 => ?_)
                · rw [hk6, eF, eB] at c3
                  have c3 : (w : Int) ≤ (v : Int) := c3
                  refine step _ _ ?_
                  show nI w = nI (min w v)
                  rw [Nat.min_eq_left (by omega)]
                · rw [hk6, eF, eB] at c3
                  have c3 : (v : Int) < (w : Int) := c3
                  refine step _ _ ?_
                  rw [hk6]
                  show nI v = nI (min w v)
                  rw [Nat.min_eq_right (by omega)]
  refine bm_go (am_ok_all 130 (by decide)) 60 ?_
  by_cases s0 : s = 0
  · subst s0
    first | refine And.intro (fun cd => absurd cd (by decide)) (fun _ => ?_) | refine And.intro (fun _ => ?_) (fun cd => absurd cd (by decide)) | refine And.intro (fun cd => ?_) (fun cd => ?_)
    exact lp _ 0 0 _ _ rfl (Nat.zero_le _) rfl (by rw [if_pos rfl]; rfl)
  · refine And.intro (fun _ => ?_) (fun cd => ?_)
    · exact lp _ 0 0 _ _ rfl (Nat.zero_le _) rfl (by rw [if_neg s0]; rfl)
    · rw [nI_toInt (by omega)] at cd
      exact absurd cd (by show ¬ ((s : Int) = 0); omega)
theorem sm_waysOf {T : tT} {x : Int32} (s : Nat) (g : Nat → Nat → Nat → Option Nat) (ok : Nat → Nat → Bool) (h6 : tN T ≤ 6) (hn : I 61 14 = nI (tN T)) (hx : x = nI s) (hs : s ≤ al T) (hf : ∀ l, l < 6 → I 75 (6 * s + l) = nI (Wo g ok s l)) (h : Q (some (.int (nI (Ws g ok s)))) t I L) : bm_C G l 131 [.ref 61, .int x] t I L Q := by
  subst hx
  have p := Nat.two_pow_pos (tN T)
  have p6 := Nat.pow_le_pow_right (n := 2) (by decide) h6
  have s64 : s < 64 := by unfold al at hs; omega
  have lp : ∀ d k y b, tN T - k = d → k ≤ tN T → y = nI k → b = nI (if s = 0 then 1 else sumN k (Wo g ok s)) → bm_W G l 131 12 [some (.ref 61), some (.int (nI s)), some (.int b), some (.int y)] [] t I L Q := by
    intro d
    induction d with
    | zero =>
      intro k y b hd hk hy hb
      obtain rfl : k = tN T := by omega
      subst hy hb
      refine bm_go (am_ok_all 131 (by decide)) 60 ?_
      refine And.intro (fun _ => ?_) (fun cd => ?_)
      · by_cases s0 : s = 0
        · rw [if_pos s0]
          rw [s0, Ws_0] at h
          exact h
        · rw [if_neg s0, ← Ws_n h6 hs s0]
          exact h
      · rw [hn] at cd
        omega
    | succ d ih =>
      intro k y b hd hk hy hb
      subst hy
      have nb := n_bit (s := s) (j := k) (by omega) (by omega)
      refine bm_go (am_ok_all 131 (by decide)) 60 ?_
      refine And.intro (fun cd => ?_) (fun _ => ?_)
      · rw [hn, nI_toInt (by omega), nI_toInt (by omega)] at cd
        omega
      refine And.intro (fun cd => ?_) (fun cd => ?_)
      · have bt : s.testBit k = false := by
          cases e : s.testBit k with
          | false => rfl
          | true => rw [nb, e] at cd; exact absurd rfl cd
        refine ih (k + 1) _ _ (by omega) (by omega) (nI_succ k).symm ?_
        rw [hb, k0, nI_add, Nat.add_zero]
        by_cases s0 : s = 0
        · rw [if_pos s0, if_pos s0]
        · rw [if_neg s0, if_neg s0]
          show _ = nI (sumN k (Wo g ok s) + Wo g ok s k)
          rw [Wo_out s0 bt]
          rfl
      · have bt : s.testBit k = true := by
          cases e : s.testBit k with
          | true => rfl
          | false => rw [nb, e] at cd; exact absurd cd (by decide)
        have s0 : s ≠ 0 := fun e => by rw [e] at bt; simp at bt
        have ix : ((6 : Int32) * nI s + nI k).toInt = ((6 * s + k : Nat) : Int) := by rw [k6, pk_mul, nI_add]; exact nI_toInt (by omega)
        refine ⟨6 * s + k, ix, (by omega : 6 * s + k < 384), ?_⟩
        refine ih (k + 1) _ _ (by omega) (by omega) (nI_succ k).symm ?_
        rw [hb, hf k (by omega), nI_add, if_neg s0, if_neg s0]
        rfl
  refine bm_go (am_ok_all 131 (by decide)) 60 ?_
  by_cases s0 : s = 0
  · subst s0
    first | refine And.intro (fun cd => absurd cd (by decide)) (fun _ => ?_) | refine And.intro (fun _ => ?_) (fun cd => absurd cd (by decide)) | refine And.intro (fun cd => ?_) (fun cd => ?_)
    exact lp _ 0 0 _ rfl (Nat.zero_le _) rfl (by rw [if_pos rfl]; rfl)
  · refine And.intro (fun _ => ?_) (fun cd => ?_)
    · exact lp _ 0 0 _ rfl (Nat.zero_le _) rfl (by rw [if_neg s0]; rfl)
    · rw [nI_toInt (by omega)] at cd
      exact absurd cd (by show ¬ ((s : Int) = 0); omega)
end PF

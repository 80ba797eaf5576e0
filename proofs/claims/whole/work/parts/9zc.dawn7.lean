/-! putting out at dawn: the reference -/
/-- from the one that he begins with -/
def gb (T : tT) (sh b s l k : Nat) : Option Nat := if s = 0 then (if l = 7 ∧ k = b then some 0 else none) else gw T sh s l k
theorem gb_lt {T : tT} {sh b s l k v : Nat} (e : gb T sh b s l k = some v) : v < 49 := by
  unfold gb at e
  split at e
  · split at e
    · cases e; omega
    · cases e
  · exact gw_lt e
theorem Fo_lt49 {g : Nat → Nat → Nat → Option Nat} (hg : ∀ s l k v, g s l k = some v → v < 49) : ∀ (s l v : Nat), Fo g s l = some v → v ≤ 49 * s := by
  intro s
  induction s using Nat.strongRecOn with
  | ind s ih =>
    intro l v e
    rw [Fo_eq] at e
    by_cases z : s = 0
    · rw [if_pos z] at e
      split at e
      · cases e; omega
      · cases e
    · rw [if_neg z] at e
      by_cases hb : s.testBit l = true
      · rw [if_pos hb] at e
        obtain ⟨i, hi, e2⟩ := ominN_some _ _ e
        obtain ⟨x, y, e3, e4, rfl⟩ := oadd_some e2
        have := two_le hb
        have := Nat.two_pow_pos l
        have := ih (s - 2 ^ l) (by omega) i x e3
        have := hg _ _ _ _ e4
        omega
      · rw [if_neg hb] at e
        cases e
theorem eS_ob49 {g : Nat → Nat → Nat → Option Nat} (hg : ∀ s l k v, g s l k = some v → v < 49) {s l k S' l' : Nat} (hs : s < 64) (hS : S' < 64) : ob (eS g s l k S' l') := by
  intro v e
  unfold eS at e
  split at e
  · split at e
    · cases e; omega
    · cases e
  · split at e
    · split at e
      · have := Fo_lt49 hg _ _ v e
        omega
      · split at e
        · obtain ⟨i, _, e2⟩ := ominN_some _ _ e
          obtain ⟨x, y, e3, e4, rfl⟩ := oadd_some e2
          have := Fo_lt49 hg _ _ x e3
          have := hg _ _ _ _ e4
          omega
        · cases e
    · cases e
theorem Fm_ob49 {g : Nat → Nat → Nat → Option Nat} (hg : ∀ s l k v, g s l k = some v → v < 49) {s : Nat} (hs : s < 64) : ob (Fm g s) := ominN_ob (fun i v e => by have := Fo_lt49 hg s i v e; omega)
/-- all that are out in the end: the fewest steps, as the class counts them -/
theorem gb_Fm {T : tT} (sh b : Nat) (h6 : tN T ≤ 6) (hb : b < tN T) : Fm (gb T sh b) (al T) = bw T sh b := by
  have p := Nat.two_pow_pos (tN T)
  have p6 := Nat.pow_le_pow_right (n := 2) (by decide) h6
  have p1 := Nat.pow_le_pow_right (n := 2) (by decide) (show 1 ≤ tN T by omega)
  have a64 : al T < 64 := by unfold al; omega
  rw [← Fm_Bo _ h6, Bo_eq, if_neg (by unfold al; omega)]
  have same : ∀ (d s l : Nat), al T - s = d → s ≠ 0 → Bo (gb T sh b) (tN T) (al T) s l = Bo (gw T sh) (tN T) (al T) s l := by
    intro d
    induction d using Nat.strongRecOn with
    | ind d ih =>
      intro s l hd s0
      rw [Bo_eq, Bo_eq (gw T sh)]
      by_cases q : al T ≤ s
      · rw [if_pos q, if_pos q]
      · rw [if_neg q, if_neg q]
        refine ominN_c _ (fun k hk => ?_)
        cases hs : s.testBit k with
        | true => rfl
        | false =>
          have pk := Nat.two_pow_pos k
          have e : gb T sh b s l k = gw T sh s l k := if_neg s0
          show oadd (gb T sh b s l k) _ = oadd (gw T sh s l k) _
          rw [e, ih (al T - (s + 2 ^ k)) (by omega) (s + 2 ^ k) k rfl (by omega)]
  have e : ∀ k, (if (0 : Nat).testBit k = true then none else oadd (gb T sh b 0 7 k) (Bo (gb T sh b) (tN T) (al T) (0 + 2 ^ k) k)) = if k = b then bw T sh b else none := by
    intro k
    have pk := Nat.two_pow_pos k
    rw [if_neg (by simp)]
    by_cases q : k = b
    · subst q
      have g0 : gb T sh k 0 7 k = some 0 := by
        unfold gb
        rw [if_pos rfl, if_pos ⟨rfl, rfl⟩]
      rw [g0, oadd_0l, if_pos rfl, Nat.zero_add, same _ (2 ^ k) k rfl (by omega)]
      rfl
    · have g0 : gb T sh b 0 7 k = none := by
        unfold gb
        rw [if_pos rfl, if_neg (fun w => q w.2)]
      rw [g0, if_neg q]
      rfl
  have := ominN_c (f := fun next => if (0 : Nat).testBit next = true then none else oadd (gb T sh b 0 7 next) (Bo (gb T sh b) (tN T) (al T) (0 + 2 ^ next) next)) (g := fun k => if k = b then bw T sh b else none) (tN T) (fun k _ => e k)
  have only : ∀ n, ominN n (fun k => if k = b then bw T sh b else none) = if b < n then bw T sh b else none := by
    intro n
    induction n with
    | zero => rfl
    | succ n ih =>
      show omin (ominN n (fun k => if k = b then bw T sh b else none)) (if n = b then bw T sh b else none) = _
      rw [ih]
      by_cases q : b < n
      · rw [if_pos q, if_neg (by omega), if_pos (by omega), omin_n]
      · rw [if_neg q]
        by_cases q2 : n = b
        · rw [if_pos q2, if_pos (by omega)]
          rfl
        · rw [if_neg q2, if_neg (by omega)]
          rfl
  have this := this.trans (only (tN T))
  rw [if_pos hb] at this
  exact this
/-- the table -/
def tbD (T : tT) (sh : Nat) (I : am_I) : Prop := ∀ s l k, s ≤ al T → l < tN T → k < tN T → s.testBit l = true → I 77 (36 * s + 6 * l + k) = eM (gw T sh s l k)
/-- what fewest holds on the way -/
def gD (T : tT) (g : Nat → Nat → Nat → Option Nat) (s la k : Nat) (I : am_I) : Prop := ∀ S' l', S' ≤ al T → l' < 6 → S' ≠ 0 → I 74 (6 * S' + l') = eM (eS g s la k S' l')
section PD
variable {G : am_G} {l : Launch} {t : am_T} {I : am_I} {L : am_J} {Q : bm_P}
theorem sm_dawns {T : tT} {x : Int32} (sh b s la f : Nat) (hok : tOk T) (hm : mT T I) (hx : x = nI (6 * s + la)) (hs : s ≤ al T) (hl : la < tN T) (hsl : s.testBit la = true) (hF : Fo (gb T sh b) s la = some f) (tb : tbD T sh I) (h0 : gD T (gb T sh b) s la 0 I) (h : ∀ I', frN [74] I I' → gD T (gb T sh b) s (la + 1) 0 I' → Q none t I' L) : bm_C G l 156 [.ref 61, .int x] t I L Q := by
  subst hx
  have h6 := hok.2.2.2.1
  have p := Nat.two_pow_pos (tN T)
  have p6 := Nat.pow_le_pow_right (n := 2) (by decide) h6
  have a64 := al_lt (Or.inl hok)
  have s0 : s ≠ 0 := fun e => by rw [e] at hsl; simp at hsl
  have fl := Fo_lt49 (fun _ _ _ _ e => gb_lt (T := T) (sh := sh) (b := b) e) s la f hF
  have dv : nI (6 * s + la) / 6 = nI s := by
    rw [k6, pk_div (by omega) (by decide) (by decide)]
    congr 1
    omega
  have gwb : ∀ k, gb T sh b s la k = gw T sh s la k := fun k => if_neg s0
  have lp : ∀ d k y3 d4 d5 d6 (I1 : am_I), tN T - k = d → k ≤ tN T → y3 = nI k → frN [74] I I1 → gD T (gb T sh b) s la k I1 → bm_W G l 156 7 [some (.ref 61), some (.int (nI (6 * s + la))), some (.int (nI s)), some (.int y3), d4, d5, d6] [] t I1 L Q := by
    intro d
    induction d with
    | zero =>
      intro k y3 d4 d5 d6 I1 hd hk e3 f1 g1
      obtain rfl : k = tN T := by omega
      subst e3
      refine bm_go (am_ok_all 156 (by decide)) 60 ?_
      refine And.intro (fun _ => h I1 f1 (fun S' l' q1 q2 q3 => ?_)) (fun cd => ?_)
      · rw [eS_row (n := tN T) (fun k hk => by rw [gwb]; unfold gw; rw [if_neg (fun w => by have := w.2.1; omega)])]
        exact g1 S' l' q1 q2 q3
      · rw [f1 61 (by decide), hm.2.2.2.1] at cd
        omega
    | succ d ih =>
      intro k y3 d4 d5 d6 I1 hd hk e3 f1 g1
      subst e3
      have ix : ((6 : Int32) * nI (6 * s + la) + nI k).toInt = ((36 * s + 6 * la + k : Nat) : Int) := by rw [k6, pk_mul, nI_add, show 6 * (6 * s + la) + k = 36 * s + 6 * la + k by omega]; exact nI_toInt (by omega)
      have ev : I1 77 (36 * s + 6 * la + k) = eM (gw T sh s la k) := by rw [f1 77 (by decide)]; exact tb s la k hs hl (by omega) hsl
      have gl : ∀ v, gw T sh s la k = some v → v < 1000 := fun v e => by have := gw_lt e; omega
      refine bm_go (am_ok_all 156 (by decide)) 120 ?_
      refine And.intro (fun cd => ?_) (fun _ => ?_)
      · rw [f1 61 (by decide), hm.2.2.2.1, nI_toInt (by omega), nI_toInt (by omega)] at cd
        omega
      refine ⟨36 * s + 6 * la + k, ix, (by omega : 36 * s + 6 * la + k < 2310), ?_⟩
      refine And.intro (fun cd => ?_) (fun cd => ?_)
      · rw [ev] at cd
        have e := (em_ne gl).mp cd
        refine ih (k + 1) _ _ _ _ I1 (by omega) (by omega) (nI_succ k).symm f1 (fun S' l' q1 q2 q3 => ?_)
        rw [eS_none (by rw [gwb]; exact e)]
        exact g1 S' l' q1 q2 q3
      · cases e : gw T sh s la k with
        | none =>
          rw [ev, e] at cd
          exact absurd rfl cd
        | some v =>
          have vl := gw_lt e
          have hbt : s.testBit k = false := by
            unfold gw at e
            split at e
            · rename_i w; exact w.2.2.1
            · cases e
          obtain ⟨b1, b2, b3⟩ := bit_up s (by omega) k (by omega) hbt
          obtain ⟨u1, u2⟩ := up_al h6 hs (show k < tN T by omega) hbt
          have pk := Nat.two_pow_pos k
          have idx : (6 : Int32) * (nI s ||| (1 : Int32) <<< (nI k &&& 31)) + nI k = nI (6 * (s + 2 ^ k) + k) := by
            rw [shl1 (by omega), n_or, b1, k6, pk_mul, nI_add]
          have jj : (nI (6 * s + la)).toInt = ((6 * s + la : Nat) : Int) := nI_toInt (by omega)
          have eo : I1 74 (6 * s + la) = nI f := by
            have := g1 s la hs (by omega) s0
            rw [eS_now, hF] at this
            exact this
          have eU := g1 (s + 2 ^ k) k u1 (by omega) (by omega)
          have bo := eS_ob49 (g := gb T sh b) (fun _ _ _ _ e => gb_lt e) (s := s) (l := la) (k := k) (S' := s + 2 ^ k) (l' := k) (by omega) b2
          have st := eS_step (g := gb T sh b) (s := s) (l := la) (k := k) (by omega) (by omega) hbt
          rw [hF, gwb, e] at st
          have same : ∀ S' l', ¬ (6 * S' + l' = 6 * (s + 2 ^ k) + k) → l' < 6 → eS (gb T sh b) s la (k + 1) S' l' = eS (gb T sh b) s la k S' l' := fun S' l' q q2 => eS_same (fun w => by
            have := two_le w.2.1
            rw [w.1] at q
            omega)
          generalize eS (gb T sh b) s la k (s + 2 ^ k) k = o at *
          generalize hU : s + 2 ^ k = U at *
          have ii : ((6 : Int32) * (nI s ||| (1 : Int32) <<< (nI k &&& 31)) + nI k).toInt = ((6 * U + k : Nat) : Int) := by rw [idx]; exact nI_toInt (by omega)
          have il : 6 * U + k < 384 := by omega
          obtain ⟨m1, m2⟩ := fo_min bo (f + v) (by omega)
          have r0 : I1 74 (6 * s + la) + I1 77 (36 * s + 6 * la + k) = nI (f + v) := by rw [eo, ev, e]; exact nI_add f v
          have next : ∀ z d4 d5 d6, z = eM (omin o (some (f + v))) → bm_W G l 156 7 [some (.ref 61), some (.int (nI (6 * s + la))), some (.int (nI s)), some (.int (nI k + 1)), d4, d5, d6] [] t (am_u I1 74 (6 * U + k) z) L Q := by
            intro z d4 d5 d6 ez
            refine ih (k + 1) _ _ _ _ _ (by omega) (by omega) (nI_succ k).symm (f1.u (by decide)) (fun S' l' q1 q2 q3 => ?_)
            by_cases q : 6 * S' + l' = 6 * U + k
            · have r1 : S' = U := by omega
              have r2 : l' = k := by omega
              subst r1 r2
              rw [u_eq, ez, st]
              rfl
            · rw [u_nj q, same S' l' q q2]
              exact g1 S' l' q1 q2 q3
          refine ⟨6 * s + la, jj, (by omega : 6 * s + la < 384), ?_⟩
          refine ⟨6 * U + k, ii, il, ?_⟩
          refine And.intro (fun c1 => ?_) (fun c1 => ?_)
          · rw [eU] at c1
            refine ⟨6 * U + k, ii, il, ?_⟩
            exact next _ _ _ _ (by rw [r0]; exact m1 c1)
          · rw [eU] at c1
            obtain ⟨m3, m4⟩ := m2 c1
            refine ⟨6 * U + k, ii, il, ?_⟩
            refine And.intro (fun c2 => ?_) (fun c2 => ?_)
            · rw [eU, r0] at c2
              refine ⟨6 * U + k, ii, il, ?_⟩
              refine ⟨6 * U + k, ii, il, ?_⟩
              exact next _ _ _ _ (by rw [eU]; exact m4 c2)
            · rw [eU, r0] at c2
              refine ⟨6 * U + k, ii, il, ?_⟩
              exact next _ _ _ _ (by rw [r0]; exact m3 c2)
  refine bm_go (am_ok_all 156 (by decide)) 60 ?_
  refine ⟨by decide, ?_⟩
  have go := lp _ 0 0 none none none I rfl (Nat.zero_le _) rfl (frN.refl _ _) h0
  rw [← dv] at go
  exact go
end PD

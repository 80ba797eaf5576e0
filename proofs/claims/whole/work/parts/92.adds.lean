/-! the reference adds a step -/
theorem pace_b {T : tT} {f own br p : Nat} : ∀ v, pace T f own br p = some v → v < 1000 := fun v e => by have := pace_lt e; omega
section PA
variable {G : am_G} {l : Launch} {t : am_T} {I : am_I} {L : am_J} {Q : bm_P}
theorem fo_min {o : Option Nat} (bo : ob o) (v : Nat) (hv : v < 1000000) : ((eM o).toInt = -9 → nI v = eM (omin o (some v))) ∧ (¬ (eM o).toInt = -9 → ((nI v).toInt < (eM o).toInt → nI v = eM (omin o (some v))) ∧ ((eM o).toInt ≤ (nI v).toInt → eM o = eM (omin o (some v)))) := by
  cases o with
  | none => exact ⟨fun _ => rfl, fun w => absurd rfl w⟩
  | some x =>
    have := bo x rfl
    have e : (eM (some x)).toInt = (x : Int) := nI_toInt (by omega)
    have e2 : (nI v).toInt = (v : Int) := nI_toInt (by omega)
    rw [e, e2]
    refine ⟨fun w => by omega, fun _ => ⟨fun w => ?_, fun w => ?_⟩⟩
    · show nI v = nI (min x v)
      rw [Nat.min_eq_right (by omega)]
    · show nI x = nI (min x v)
      rw [Nat.min_eq_left (by omega)]
theorem sm_adds_d {T : tT} {x1 x4 x5 : Int32} (sh c ot k ow : Nat) (o : Option Nat) (hT : tOk T) (hm : mT T I) (a2 : I 61 19 = nI sh) (hsh : sh < 2 ^ 31) (h1 : x1 = nI c) (h4 : x4 = nI k) (h5 : x5 = nI ot) (hc : c < tC T) (hot : ot < 2 ^ 24) (hk : k < tN T) (bo : ob o) (e1 : I 74 (6 * 2 ^ k + k) = eM o) (e2 : I 75 (6 * 2 ^ k + k) = nI ow) (h0 : pace T (1 <<< c) 0 ot (tP T k) = none → Q none t I L) (h : ∀ v, pace T (1 <<< c) 0 ot (tP T k) = some v → Q none t (am_u (am_u I 74 (6 * 2 ^ k + k) (eM (omin o (some v)))) 75 (6 * 2 ^ k + k) (nI (ow + 1))) L) : bm_C G l 129 [.ref 61, .int x1, .int 0, .int (-1), .int x4, .int x5] t I L Q := by
  subst h1 h4 h5
  have n6 := hT.2.2.2.1
  have p6 := p2_6 (k := k) (by omega)
  have idx : (6 : Int32) * (0 ||| (1 : Int32) <<< (nI k &&& 31)) + nI k = nI (6 * 2 ^ k + k) := by
    rw [k0, k1, n_shl _ (by omega), n_or, Nat.zero_or, n_one, k6, pk_mul, nI_add]
  have ii : ((6 : Int32) * (0 ||| (1 : Int32) <<< (nI k &&& 31)) + nI k).toInt = ((6 * 2 ^ k + k : Nat) : Int) := by rw [idx]; exact nI_toInt (by omega)
  have il : 6 * 2 ^ k + k < 384 := by omega
  refine bm_go (am_ok_all 129 (by decide)) 120 ?_
  first | refine And.intro (fun cd => absurd cd (by decide)) (fun _ => ?_) | refine And.intro (fun _ => ?_) (fun cd => absurd cd (by decide)) | refine And.intro (fun cd => ?_) (fun cd => ?_)
  refine sm_steps_d sh c ot k hT hm a2 hsh rfl rfl rfl rfl rfl hc hot hk ?_
  refine And.intro (fun cd => ?_) (fun cd => ?_)
  · exact h0 ((em_ne pace_b).mp cd)
  · cases e : pace T (1 <<< c) 0 ot (tP T k) with
    | none => rw [e] at cd; exact absurd rfl cd
    | some v =>
      have vb := pace_b v e
      have := h v e
      obtain ⟨m1, m2⟩ := fo_min bo v (by omega)
      have r2 : nI (ow + 1) = I 75 (6 * 2 ^ k + k) + 1 := by rw [e2, ← nI_succ]
      have r0 : nI v + 0 = nI v := by rw [k0, nI_add, Nat.add_zero]
      rw [r2] at this
      first | refine And.intro (fun cd => absurd cd (by decide)) (fun _ => ?_) | refine And.intro (fun _ => ?_) (fun cd => absurd cd (by decide)) | refine And.intro (fun cd => ?_) (fun cd => ?_)
      refine ⟨6 * 2 ^ k + k, ii, il, ?_⟩
      refine And.intro (fun c1 => ?_) (fun c1 => ?_)
      · rw [e1] at c1
        rw [← m1 c1, ← r0] at this
        refine ⟨6 * 2 ^ k + k, ii, il, ?_⟩
        refine ⟨6 * 2 ^ k + k, ii, il, ?_⟩
        first | refine And.intro (fun cd => absurd cd (by decide)) (fun _ => ?_) | refine And.intro (fun _ => ?_) (fun cd => absurd cd (by decide)) | refine And.intro (fun cd => ?_) (fun cd => ?_)
        refine ⟨6 * 2 ^ k + k, ii, il, ?_⟩
        exact this
      · rw [e1] at c1
        obtain ⟨m3, m4⟩ := m2 c1
        refine ⟨6 * 2 ^ k + k, ii, il, ?_⟩
        refine And.intro (fun c2 => ?_) (fun c2 => ?_)
        · rw [e1, show eM (some v) + 0 = nI v from r0] at c2
          rw [← m4 c2, ← e1] at this
          refine ⟨6 * 2 ^ k + k, ii, il, ?_⟩
          refine ⟨6 * 2 ^ k + k, ii, il, ?_⟩
          refine ⟨6 * 2 ^ k + k, ii, il, ?_⟩
          first | refine And.intro (fun cd => absurd cd (by decide)) (fun _ => ?_) | refine And.intro (fun _ => ?_) (fun cd => absurd cd (by decide)) | refine And.intro (fun cd => ?_) (fun cd => ?_)
          refine ⟨6 * 2 ^ k + k, ii, il, ?_⟩
          exact this
        · rw [e1, show eM (some v) + 0 = nI v from r0] at c2
          rw [← m3 c2, ← r0] at this
          refine ⟨6 * 2 ^ k + k, ii, il, ?_⟩
          refine ⟨6 * 2 ^ k + k, ii, il, ?_⟩
          first | refine And.intro (fun cd => absurd cd (by decide)) (fun _ => ?_) | refine And.intro (fun _ => ?_) (fun cd => absurd cd (by decide)) | refine And.intro (fun cd => ?_) (fun cd => ?_)
          refine ⟨6 * 2 ^ k + k, ii, il, ?_⟩
          exact this
theorem sm_adds_l {T : tT} {x1 x2 x3 x4 x5 : Int32} (sh s la ot k fv wv ow : Nat) (o : Option Nat) (hT : tOk T) (hm : mT T I) (a2 : I 61 19 = nI sh) (hsh : sh < 2 ^ 31) (h2 : x2 = nI s) (h3 : x3 = nI la) (h4 : x4 = nI k) (h5 : x5 = nI ot) (hs : s < 64) (hl : la < tN T) (hsl : s.testBit la = true) (hot : ot < 2 ^ 24) (hk : k < tN T) (hb : s.testBit k = false) (bf : fv < 500000) (bo : ob o) (d1 : I 74 (6 * s + la) = nI fv) (d2 : I 75 (6 * s + la) = nI wv) (e1 : I 74 (6 * (s + 2 ^ k) + k) = eM o) (e2 : I 75 (6 * (s + 2 ^ k) + k) = nI ow) (h0 : gap0 T sh 0 ot s la k = none → Q none t I L) (h : ∀ v, gap0 T sh 0 ot s la k = some v → Q none t (am_u (am_u I 74 (6 * (s + 2 ^ k) + k) (eM (omin o (some (fv + v))))) 75 (6 * (s + 2 ^ k) + k) (nI (ow + wv))) L) : bm_C G l 129 [.ref 61, .int x1, .int x2, .int x3, .int x4, .int x5] t I L Q := by
  subst h2 h3 h4 h5
  have n6 := hT.2.2.2.1
  obtain ⟨b1u, b2u, b3u⟩ := bit_up s hs k (by omega) hb
  have gb : ∀ v, gap0 T sh 0 ot s la k = some v → v < 1000 := fun v e => by
    unfold gap0 at e
    split at e
    · exact pace_b v e
    · exact pace_b v e
  have idx : (6 : Int32) * (nI s ||| (1 : Int32) <<< (nI k &&& 31)) + nI k = nI (6 * (s + 2 ^ k) + k) := by
    rw [k1, n_shl _ (by omega), n_or, b1u, k6, pk_mul, nI_add]
  have jdx : (6 : Int32) * nI s + nI la = nI (6 * s + la) := by rw [k6, pk_mul, nI_add]
  generalize hU : s + 2 ^ k = U at *
  have ii : ((6 : Int32) * (nI s ||| (1 : Int32) <<< (nI k &&& 31)) + nI k).toInt = ((6 * U + k : Nat) : Int) := by rw [idx]; exact nI_toInt (by omega)
  have jj : ((6 : Int32) * nI s + nI la).toInt = ((6 * s + la : Nat) : Int) := by rw [jdx]; exact nI_toInt (by omega)
  have il : 6 * U + k < 384 := by omega
  have jl : 6 * s + la < 384 := by omega
  have la0 : ¬ (nI la).toInt < 0 := by rw [nI_toInt (by omega)]; omega
  have la1 : 0 ≤ (nI la).toInt := by rw [nI_toInt (by omega)]; omega
  have ejs : 6 * U + k ≠ 6 * s + la := by
    intro e
    have : U = s := by omega
    have p := Nat.two_pow_pos k
    omega
  have e67 : I 67 la = nI (tP T la) := (hm.2.2.2.2.2.2.2.2 la hl).2.1
  refine bm_go (am_ok_all 129 (by decide)) 120 ?_
  refine And.intro (fun _ => ?_) (fun cd => absurd cd la0)
  refine ⟨la, nI_toInt (by omega), (by omega : la < 6), ?_⟩
  refine sm_steps_l sh s la ot k hT hm a2 hsh e67 rfl rfl rfl rfl hs hl hsl hot hk ?_
  refine And.intro (fun cd => ?_) (fun cd => ?_)
  · exact h0 ((em_ne gb).mp cd)
  · cases e : gap0 T sh 0 ot s la k with
    | none => rw [e] at cd; exact absurd rfl cd
    | some v =>
      have vb := gb v e
      have := h v e
      obtain ⟨m1, m2⟩ := fo_min bo (fv + v) (by omega)
      have r2 : nI (ow + wv) = I 75 (6 * U + k) + I 75 (6 * s + la) := by rw [e2, d2, nI_add]
      have r0 : nI v + I 74 (6 * s + la) = nI (fv + v) := by rw [d1, nI_add, Nat.add_comm]
      rw [r2] at this
      refine And.intro (fun _ => ?_) (fun cd => absurd cd la0)
      refine ⟨6 * s + la, jj, jl, ?_⟩
      refine ⟨6 * U + k, ii, il, ?_⟩
      refine And.intro (fun c1 => ?_) (fun c1 => ?_)
      · rw [e1] at c1
        rw [← m1 c1, ← r0] at this
        refine ⟨6 * U + k, ii, il, ?_⟩
        refine ⟨6 * U + k, ii, il, ?_⟩
        refine And.intro (fun _ => ?_) (fun cd => absurd cd la0)
        refine ⟨6 * s + la, jj, jl, ?_⟩
        refine ⟨6 * U + k, ii, il, ?_⟩
        exact this
      · rw [e1] at c1
        obtain ⟨m3, m4⟩ := m2 c1
        refine ⟨6 * U + k, ii, il, ?_⟩
        refine And.intro (fun c2 => ?_) (fun c2 => ?_)
        · rw [e1, show eM (some v) + I 74 (6 * s + la) = nI (fv + v) from r0] at c2
          rw [← m4 c2, ← e1] at this
          refine ⟨6 * U + k, ii, il, ?_⟩
          refine ⟨6 * U + k, ii, il, ?_⟩
          refine ⟨6 * U + k, ii, il, ?_⟩
          refine And.intro (fun _ => ?_) (fun cd => absurd cd la0)
          refine ⟨6 * s + la, jj, jl, ?_⟩
          refine ⟨6 * U + k, ii, il, ?_⟩
          exact this
        · rw [e1, show eM (some v) + I 74 (6 * s + la) = nI (fv + v) from r0] at c2
          rw [← m3 c2, ← r0] at this
          refine ⟨6 * U + k, ii, il, ?_⟩
          refine ⟨6 * U + k, ii, il, ?_⟩
          refine And.intro (fun _ => ?_) (fun cd => absurd cd la0)
          refine ⟨6 * s + la, jj, jl, ?_⟩
          refine ⟨6 * U + k, ii, il, ?_⟩
          exact this
end PA

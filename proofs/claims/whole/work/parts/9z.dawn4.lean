/-! putting out at dawn: the class counts -/
theorem eN_minS {a b : Option Nat} (ha : ob a) (hb : ∀ v, b = some v → v < 100000) {s : Nat} (hs : s < 1000) {z : Int32} (h : z.toInt = min (eN a).toInt (nI s + eN b).toInt) : z = eN (omin a (oadd (some s) b)) := by
  cases b with
  | none =>
    rw [oadd_n, omin_n]
    apply Int32.toInt_inj.mp
    have e : (nI s + eN none).toInt = ((s + 1048576 : Nat) : Int) := by
      show (nI s + nI 1048576).toInt = _
      rw [nI_add]
      exact nI_toInt (by omega)
    rw [h, e, eN_i ha]
    cases a with
    | none =>
      show min (1048576 : Int) _ = 1048576
      omega
    | some v =>
      have := ha v rfl
      show min (v : Int) _ = (v : Int)
      omega
  | some v =>
    have hv := hb v rfl
    have e : nI s + eN (some v) = eN (some (s + v)) := nI_add s v
    rw [e] at h
    exact eN_min ha (fun w q => by cases q; omega) h
theorem ominN_omin {f g : Nat → Option Nat} : ∀ (n : Nat), ominN n (fun k => omin (f k) (g k)) = omin (ominN n f) (ominN n g)
  | 0 => rfl
  | n + 1 => by
    show omin (ominN n (fun k => omin (f k) (g k))) (omin (f n) (g n)) = omin (omin (ominN n f) (f n)) (omin (ominN n g) (g n))
    rw [ominN_omin n, omin_assoc, omin_assoc, ← omin_assoc (ominN n g), omin_comm (ominN n g) (f n), omin_assoc]
def tmD (T : tT) (p own ot B : Nat) (tl : Nat → Option Nat) (i k : Nat) : Option Nat := if B.testBit k = true then oadd (fstN i (fun j => (dwU T p own ot j).testBit (tP T k))) (tl k) else none
def tmS (T : tT) (B R s : Nat) (tl : Nat → Option Nat) (k : Nat) : Option Nat := if B.testBit k = true ∧ R.testBit (tP T k) = true then oadd (some s) (tl k) else none
theorem tmD_step {T : tT} (hT : tG T) {p own ot B : Nat} (hp : p < tC T) (tl : Nat → Option Nat) (i k : Nat) : omin (tmD T p own ot B tl i k) (tmS T B ((dc T p own ot i).1.1 ||| (dc T p own ot i).1.2) i tl k) = tmD T p own ot B tl (i + 1) k := by
  unfold tmD tmS
  by_cases b : B.testBit k = true
  · rw [if_pos b, if_pos b]
    have st : fstN (i + 1) (fun j => (dwU T p own ot j).testBit (tP T k)) = match fstN i (fun j => (dwU T p own ot j).testBit (tP T k)) with
      | some j => some j
      | none => if (dwU T p own ot i).testBit (tP T k) then some i else none := rfl
    rw [st]
    cases e : fstN i (fun j => (dwU T p own ot j).testBit (tP T k)) with
    | some j =>
      have jl := ((fstN_some _ _ _).mp e).1
      by_cases r : ((dc T p own ot i).1.1 ||| (dc T p own ot i).1.2).testBit (tP T k) = true
      · rw [if_pos ⟨b, r⟩]
        cases tl k with
        | none => rfl
        | some v =>
          show some (min (j + v) (i + v)) = some (j + v)
          rw [Nat.min_eq_left (by omega)]
      · rw [if_neg (fun w => r w.2), omin_n]
    | none =>
      have no := (fstN_none _ _).mp e
      show omin none _ = _
      by_cases u : (dwU T p own ot i).testBit (tP T k) = true
      · have r := dc_new hT hp i u no
        rw [if_pos ⟨b, r⟩, if_pos u]
        rfl
      · have r : ¬ ((dc T p own ot i).1.1 ||| (dc T p own ot i).1.2).testBit (tP T k) = true := fun w => u (dc_in hT hp w)
        rw [if_neg (fun w => r w.2), if_neg u]
        rfl
  · rw [if_neg b, if_neg b, if_neg (fun w => b w.1)]
    rfl
theorem tmD_stop {T : tT} (hT : tG T) {p own ot B : Nat} (hp : p < tC T) (tl : Nat → Option Nat) {i : Nat} (hi : i ≤ 49) (h : (dc T p own ot i).1.1 ||| (dc T p own ot i).1.2 = 0) (k : Nat) : tmD T p own ot B tl i k = tmD T p own ot B tl 49 k := by
  unfold tmD
  have : fstN 49 (fun j => (dwU T p own ot j).testBit (tP T k)) = fstN i (fun j => (dwU T p own ot j).testBit (tP T k)) := by
    cases e : fstN i (fun j => (dwU T p own ot j).testBit (tP T k)) with
    | some j => exact fstN_ext e hi
    | none =>
      have no := (fstN_none _ _).mp e
      refine (fstN_none _ _).mpr ?_
      have key : ∀ d, ∀ j, j < i + d → (dwU T p own ot j).testBit (tP T k) = false := by
        intro d
        induction d with
        | zero => exact fun j hj => no j hj
        | succ d ih =>
          intro j hj
          by_cases q : j < i + d
          · exact ih j q
          · have ej : j = i + d := by omega
            subst ej
            cases w : (dwU T p own ot (i + d)).testBit (tP T k) with
            | false => rfl
            | true =>
              have r := dc_new hT hp (i + d) w ih
              obtain ⟨s1, s2⟩ := dc_stop h d
              rw [s1, s2, Nat.or_zero, Nat.zero_testBit] at r
              cases r
      exact fun j hj => key (49 - i) j (by omega)
  rw [this]
section PD
variable {G : am_G} {l : Launch} {t : am_T} {I : am_I} {L : am_J} {Q : bm_P}
theorem sp_keyD {x y : Int32} (s la : Nat) (hx : x = nI s) (hy : y = nI la) (hs : s < 64) (hl : la < 8) (h : Q (some (.int (nI (8 * s + la)))) t I L) : bm_C G l 167 [.int x, .int y] t I L Q := by
  subst hx hy
  have e : (nI s &&& 63) * 8 + (nI la &&& 7) = nI (8 * s + la) := by
    have e1 : nI s &&& 63 = nI s := Int32.toInt_inj.mp (by rw [and63 hs, nI_toInt (by omega)])
    have e2 : nI la &&& 7 = nI la := Int32.toInt_inj.mp (by rw [and7 hl, nI_toInt (by omega)])
    rw [e1, e2, show (8 : Int32) = nI 8 from rfl, pk_mul, nI_add, Nat.mul_comm]
  refine bm_go (am_ok_all 167 (by decide)) 40 ?_
  rw [← e] at h
  exact h
theorem sp_stepsByD {T : tT} {x y z : Int32} (B R s : Nat) (tl : Nat → Option Nat) (hok : tOk T) (hc : cT T I) (hx : x = nI B) (hy : y = nI R) (hz : z = nI s) (hB : B < 64) (hR : R < 2 ^ 24) (hs : s < 1000) (ht : ∀ k v, tl k = some v → v < 100000) (h35 : ∀ k, k < tN T → B.testBit k = true → I 35 (8 * (B - 2 ^ k) + k) = eN (tl k)) (h : Q (some (.int (eN (ominN (tN T) (tmS T B R s tl))))) t I L) : bm_C G l 170 [.ref 34, .ref 7, .int x, .int y, .int z] t I L Q := by
  subst hx hy hz
  have n6 := hok.2.2.2.1
  have c24 := hok.1.c24
  have obS : ∀ k, ob (tmS T B R s tl k) := fun k v e => by
    unfold tmS at e
    split at e
    · obtain ⟨a, b, e1, e2, rfl⟩ := oadd_some e
      cases e1
      have := ht k b e2
      omega
    · cases e
  have lp : ∀ d k y5 y6, tN T - k = d → k ≤ tN T → y5 = eN (ominN k (tmS T B R s tl)) → y6 = nI k → bm_W G l 170 7 [some (.ref 34), some (.ref 7), some (.int (nI B)), some (.int (nI R)), some (.int (nI s)), some (.int y5), some (.int y6)] [] t I L Q := by
    intro d
    induction d with
    | zero =>
      intro k y5 y6 hd hk e5 e6
      obtain rfl : k = tN T := by omega
      subst e5 e6
      refine bm_go (am_ok_all 170 (by decide)) 60 ?_
      refine And.intro (fun _ => h) (fun cd => ?_)
      rw [hc.2.2.2.1] at cd
      omega
    | succ d ih =>
      intro k y5 y6 hd hk e5 e6
      subst e5 e6
      have lpk := hok.2.2.2.2.1 k (by omega)
      have e9 : I 9 k = nI (tP T k) := (hc.2.2.2.2.2.1 k (by omega)).2.1
      have skip : tmS T B R s tl k = none → bm_W G l 170 7 [some (.ref 34), some (.ref 7), some (.int (nI B)), some (.int (nI R)), some (.int (nI s)), some (.int (eN (ominN k (tmS T B R s tl)))), some (.int (nI k + 1))] [] t I L Q := fun e => ih (k + 1) _ _ (by omega) (by omega) (by
        show _ = eN (omin (ominN k (tmS T B R s tl)) (tmS T B R s tl k))
        rw [e, omin_n]) (nI_succ k).symm
      refine bm_go (am_ok_all 170 (by decide)) 90 ?_
      refine And.intro (fun cd => ?_) (fun _ => ?_)
      · rw [hc.2.2.2.1, nI_toInt (by omega), nI_toInt (by omega)] at cd
        omega
      refine sp_isIn B k rfl rfl (by omega) (by omega) (fun b => ?_) (fun b => ?_)
      rotate_left
      · first | refine And.intro (fun cd => absurd cd (by decide)) (fun _ => ?_) | refine And.intro (fun _ => ?_) (fun cd => absurd cd (by decide)) | refine And.intro (fun cd => ?_) (fun cd => ?_)
        refine skip ?_
        unfold tmS
        rw [if_neg (fun w => by rw [b] at w; exact absurd w.1 (by decide))]
      first | refine And.intro (fun cd => absurd cd (by decide)) (fun _ => ?_) | refine And.intro (fun _ => ?_) (fun cd => absurd cd (by decide)) | refine And.intro (fun cd => ?_) (fun cd => ?_)
      refine sp_spotOf k (tP T k) rfl (by omega) e9 (by have := lpk.2.1; omega) ?_
      have ea : nI (1 <<< tP T k) &&& nI R = nI (R &&& 1 <<< tP T k) := by rw [n_and, Nat.and_comm]
      have al2 := and_lt (1 <<< tP T k) hR
      refine And.intro (fun cd => ?_) (fun cd => ?_)
      · rw [ea, n_z (by omega), and_one] at cd
        refine skip ?_
        unfold tmS
        rw [if_neg (fun w => by rw [cd] at w; exact absurd w.2 (by decide))]
      · have r : R.testBit (tP T k) = true := by
          cases e : R.testBit (tP T k) with
          | true => rfl
          | false =>
            refine absurd ?_ cd
            rw [ea, n_z (by omega), and_one]
            exact e
        have bc := and_cm1 B hB k (by omega) b
        have i1 : nI B &&& ((1 : Int32) <<< (nI k &&& 31) ^^^ (-1)) = nI (B - 2 ^ k) := by rw [shl1 (by omega), km1, n_cm, n_and, bc]
        have Bl : B - 2 ^ k < 64 := Nat.lt_of_le_of_lt (Nat.sub_le _ _) hB
        have e35 := h35 k (by omega) b
        have et : tmS T B R s tl k = oadd (some s) (tl k) := if_pos ⟨b, r⟩
        refine sp_keyD (B - 2 ^ k) k i1 rfl Bl (by omega) ?_
        generalize B - 2 ^ k = V at *
        refine ⟨8 * V + k, nI_toInt (by omega), (by omega : 8 * V + k < 512), ?_⟩
        intro z hz
        rw [e35] at hz
        refine ih (k + 1) _ _ (by omega) (by omega) ?_ (nI_succ k).symm
        show _ = eN (omin (ominN k (tmS T B R s tl)) (tmS T B R s tl k))
        rw [et]
        exact eN_minS (ominN_ob obS) (ht k) hs hz
  refine bm_go (am_ok_all 170 (by decide)) 60 ?_
  exact lp _ 0 _ _ rfl (Nat.zero_le _) rfl rfl
end PD

/-! the fewest steps since the door: the class -/
theorem eN_nv {a : Option Nat} (h : ob a) : (1048576 : Int) ≤ (eN a).toInt ↔ a = none := by
  cases a with
  | none => exact ⟨fun _ => rfl, fun _ => Int.le_refl _⟩
  | some v =>
    have := h v rfl
    have e : (eN (some v)).toInt = (v : Int) := nI_toInt (by omega)
    rw [e]
    constructor
    · intro q; omega
    · intro q; cases q
section PS
variable {G : am_G} {l : Launch} {t : am_T} {I : am_I} {L : am_J} {Q : bm_P}
theorem sp_learnStepsSince {T : tT} (sh : Nat) (h6 : tN T ≤ 6) (h3 : I 25 3 = nI (tN T)) (h4 : I 25 4 = nI (al T)) (hg : ∀ s l k, s < 64 → l < 8 → k < 8 → I 27 (64 * s + 8 * l + k) = eN (gap T sh s l k)) (h : ∀ I', frN [28, 30] I I' → (∀ s l, s < 64 → l < 8 → I' 28 (8 * s + l) = eN (if s ≤ al T then Fo (gap T sh) s l else none)) → (∀ s, s ≤ al T → I' 30 s = eN (Fm (gap T sh) s)) → Q none t I' L) : bm_C G l 181 [.ref 25] t I L Q := by
  have a64 : al T < 64 := by
    unfold al
    have := Nat.pow_le_pow_right (n := 2) (by decide) h6
    omega
  have oF : ∀ s l, s < 64 → ob (Fo (gap T sh) s l) := fun s l hs v e => by
    have := Fo_lt (g := gap T sh) (fun s l k v e => gap_lt e) s l v e
    omega
  have oG : ∀ s l k, ob (gap T sh s l k) := fun s l k v e => by have := gap_lt e; omega
  have oA : ∀ s l k, s < 64 → ob (oadd (Fo (gap T sh) s l) (gap T sh s l k)) := fun s l k hs v e => by
    obtain ⟨x, y, e1, e2, rfl⟩ := oadd_some e
    have := Fo_lt (g := gap T sh) (fun s l k v e => gap_lt e) s l x e1
    have := gap_lt e2
    omega
  have oM : ∀ n s, s < 64 → ob (ominN n (Fo (gap T sh) s)) := fun n s hs v e => by
    obtain ⟨i, _, e2⟩ := ominN_some _ _ e
    exact oF s i hs v e2
  have oE : ∀ s l k S' l', s < 64 → S' < 64 → ob (eS (gap T sh) s l k S' l') := fun s l k S' l' hs hS v e => by
    unfold eS at e
    split at e
    · split at e
      · cases e; omega
      · cases e
    · split at e
      · split at e
        · exact oF S' l' hS v e
        · split at e
          · obtain ⟨i, _, e2⟩ := ominN_some _ _ e
            exact oA s i l' hs v e2
          · cases e
      · cases e
  have c3 : ∀ {I1 : am_I}, frN [28, 30] I I1 → I1 25 3 = nI (tN T) ∧ I1 25 4 = nI (al T) ∧ ∀ s l k, s < 64 → l < 8 → k < 8 → I1 27 (64 * s + 8 * l + k) = eN (gap T sh s l k) := fun f => by
    rw [f 25 (by decide), f 27 (by decide)]
    exact ⟨h3, h4, hg⟩
  have lp : ∀ d s y d2 d3 d4 d5 d6 (I1 : am_I), al T + 1 - s = d → s ≤ al T + 1 → y = nI s → frN [28, 30] I I1 → (∀ S' l', S' < 64 → l' < 8 → I1 28 (8 * S' + l') = eN (eS (gap T sh) s 0 0 S' l')) → (∀ s', s' < s → I1 30 s' = eN (Fm (gap T sh) s')) → bm_W G l 181 23 [some (.ref 25), some (.int y), d2, d3, d4, d5, d6] [] t I1 L Q := by
    intro d
    induction d with
    | zero =>
      intro s y d2 d3 d4 d5 d6 I1 hd hs hy f1 g1 m1
      obtain rfl : s = al T + 1 := by omega
      subst hy
      refine bm_go (am_ok_all 181 (by decide)) 40 ?_
      refine And.intro (fun _ => h I1 f1 (fun s l h1 h2 => ?_) (fun s hs => m1 s (by omega))) (fun cd => ?_)
      · rw [g1 s l h1 h2, eS_end sh h6 h1]
      · rw [(c3 f1).2.1, nI_toInt (by omega), nI_toInt (by omega)] at cd
        omega
    | succ d ih =>
      intro s y d2 d3 d4 d5 d6 I1 hd hs hy f1 g1 m1
      subst hy
      have s64 : s < 64 := by omega
      have lpM : ∀ d la z b d4 d5 d6 (I2 : am_I), 8 - la = d → la ≤ 8 → z = nI la → b = eN (ominN la (Fo (gap T sh) s)) → frN [28, 30] I I2 → (∀ S' l', S' < 64 → l' < 8 → I2 28 (8 * S' + l') = eN (eS (gap T sh) s la 0 S' l')) → (∀ s', s' < s → I2 30 s' = eN (Fm (gap T sh) s')) → bm_W G l 181 36 [some (.ref 25), some (.int (nI s)), some (.int b), some (.int z), d4, d5, d6] [] t I2 L Q := by
        intro d
        induction d with
        | zero =>
          intro la z b d4 d5 d6 I2 hd2 hla hz hb f2 g2 m2
          obtain rfl : la = 8 := by omega
          subst hz hb
          refine bm_go (am_ok_all 181 (by decide)) 60 ?_
          refine And.intro (fun _ => ?_) (fun cd => absurd cd (by decide))
          refine ⟨s, and63 s64, s64, ?_⟩
          refine ih (s + 1) _ _ _ _ _ _ _ (by omega) (by omega) (nI_succ s).symm (f2.u (by decide)) (fun S' l' q1 q2 => ?_) (fun s' q1 => ?_)
          · rw [u_ne (by decide), g2 S' l' q1 q2, eS_next]
          · by_cases e : s' = s
            · subst e
              exact u_eq
            · rw [u_nj e]
              exact m2 s' (by omega)
        | succ d ih2 =>
          intro la z b d4 d5 d6 I2 hd2 hla hz hb f2 g2 m2
          subst hz hb
          have T7 : (7 : Int32).toInt = 7 := rfl
          have lpK : ∀ d k w d6 (I3 : am_I), tN T - k = d → k ≤ tN T → w = nI k → frN [28, 30] I I3 → (∀ S' l', S' < 64 → l' < 8 → I3 28 (8 * S' + l') = eN (eS (gap T sh) s la k S' l')) → (∀ s', s' < s → I3 30 s' = eN (Fm (gap T sh) s')) → (k ≠ 0 → Fo (gap T sh) s la ≠ none) → bm_W G l 181 64 [some (.ref 25), some (.int (nI s)), some (.int (eN (ominN (la + 1) (Fo (gap T sh) s)))), some (.int (nI la)), some (.int (eN (Fo (gap T sh) s la))), some (.int w), d6] [] t I3 L Q := by
            intro d
            induction d with
            | zero =>
              intro k w d6 I3 hd3 hk hw f3 g3 m3 hv
              obtain rfl : k = tN T := by omega
              subst hw
              refine bm_go (am_ok_all 181 (by decide)) 60 ?_
              refine And.intro (fun _ => ?_) (fun cd => ?_)
              · refine ih2 (la + 1) _ _ _ _ _ I3 (by omega) (by omega) (nI_succ la).symm rfl f3 (fun S' l' q1 q2 => ?_) m3
                rw [g3 S' l' q1 q2, eS_row (fun k hk => ?_)]
                unfold gap
                rw [if_neg (fun w => by have := w.2.1; omega)]
              · rw [(c3 f3).1] at cd
                omega
            | succ d ih3 =>
              intro k w d6 I3 hd3 hk hw f3 g3 m3 hv
              subst hw
              have v1 := eN_nv (oF s la s64)
              have T20 : (1048576 : Int32).toInt = 1048576 := rfl
              refine bm_go (am_ok_all 181 (by decide)) 90 ?_
              refine And.intro (fun cd => ?_) (fun _ => ?_)
              · rw [(c3 f3).1, nI_toInt (by omega), nI_toInt (by omega)] at cd
                omega
              refine And.intro (fun cd => ?_) (fun cd => ?_)
              · rw [T20] at cd
                have e := v1.mp cd
                · have k0 : k = 0 := by
                    by_cases q : k = 0
                    · exact q
                    · exact absurd e (hv q)
                  subst k0
                  refine ih2 (la + 1) _ _ _ _ _ I3 (by omega) (by omega) (nI_succ la).symm rfl f3 (fun S' l' q1 q2 => ?_) m3
                  rw [g3 S' l' q1 q2, eS_skip e]
              · have hvn : Fo (gap T sh) s la ≠ none := by
                  intro e
                  have := v1.mpr e
                  rw [T20] at cd
                  omega
                have i1 : nI s ||| (1 : Int32) <<< (nI k &&& 31) = nI (s ||| 1 <<< k) := by rw [k1, n_shl _ (by omega), n_or]
                cases hb : s.testBit k with
                | true =>
                  have b1 := (bit_dn s s64 k (by omega) hb).2
                  rw [b1] at i1
                  refine sp_key s k i1 rfl s64 (by omega) ?_
                  refine ⟨8 * s + k, nI_toInt (by omega), (by omega : 8 * s + k < 512), ?_⟩
                  refine sp_gap sh s la k rfl rfl rfl s64 (by omega) (by omega) (c3 f3).2.2 ?_
                  refine sp_sumO _ _ rfl rfl (oF s la s64) (oG s la k) ?_
                  intro z hz
                  have zz := eN_min (oE s la k s k s64 s64) (oA s la k s64) (by rw [← g3 s k s64 (by omega)]; exact hz)
                  have e0 : oadd (Fo (gap T sh) s la) (gap T sh s la k) = none := by
                    rw [gap_in sh hb s64]
                    cases Fo (gap T sh) s la <;> rfl
                  rw [e0] at zz
                  refine ⟨8 * s + k, nI_toInt (by omega), (by omega : 8 * s + k < 512), ?_⟩
                  refine ih3 (k + 1) _ _ _ (by omega) (by omega) (nI_succ k).symm (f3.u (by decide)) (fun S' l' q1 q2 => ?_) (fun s' q => by rw [u_ne (by decide)]; exact m3 s' q) (fun _ => hvn)
                  rw [eS_same (fun w => by rw [← w.2.2, (bit_dn S' q1 k (by omega) w.2.1).1] at hb; cases hb)]
                  by_cases q : 8 * S' + l' = 8 * s + k
                  · have r1 : S' = s := by omega
                    have r2 : l' = k := by omega
                    subst r1 r2
                    rw [u_eq, zz]
                    cases eS (gap T sh) S' la l' S' l' <;> rfl
                  · rw [u_nj q]
                    exact g3 S' l' q1 q2
                | false =>
                  obtain ⟨b1, b2, b3⟩ := bit_up s s64 k (by omega) hb
                  rw [b1] at i1
                  generalize hU : s + 2 ^ k = U at *
                  refine sp_key U k i1 rfl b2 (by omega) ?_
                  refine ⟨8 * U + k, nI_toInt (by omega), (by omega : 8 * U + k < 512), ?_⟩
                  refine sp_gap sh s la k rfl rfl rfl s64 (by omega) (by omega) (c3 f3).2.2 ?_
                  refine sp_sumO _ _ rfl rfl (oF s la s64) (oG s la k) ?_
                  intro z hz
                  have zz := eN_min (oE s la k U k s64 b2) (oA s la k s64) (by rw [← g3 U k b2 (by omega)]; exact hz)
                  refine ⟨8 * U + k, nI_toInt (by omega), (by omega : 8 * U + k < 512), ?_⟩
                  refine ih3 (k + 1) _ _ _ (by omega) (by omega) (nI_succ k).symm (f3.u (by decide)) (fun S' l' q1 q2 => ?_) (fun s' q => by rw [u_ne (by decide)]; exact m3 s' q) (fun _ => hvn)
                  by_cases q : 8 * S' + l' = 8 * U + k
                  · have r1 : S' = U := by omega
                    have r2 : l' = k := by omega
                    subst r1 r2
                    rw [u_eq, zz]
                    have st := eS_step (g := gap T sh) (l := la) s64 (by omega) hb
                    rw [hU] at st
                    rw [st]
                  · rw [u_nj q, eS_same (fun w => by
                      have := two_le w.2.1
                      rw [w.1] at q
                      omega)]
                    exact g3 S' l' q1 q2
          refine bm_go (am_ok_all 181 (by decide)) 60 ?_
          refine And.intro (fun cd => ?_) (fun _ => ?_)
          · rw [T7, nI_toInt (by omega)] at cd
            omega
          refine sp_key s la rfl rfl s64 (by omega) ?_
          refine ⟨8 * s + la, nI_toInt (by omega), (by omega : 8 * s + la < 512), ?_⟩
          have now := g2 s la s64 (by omega)
          rw [eS_now] at now
          intro z hz
          have zz := eN_min (oM la s s64) (oF s la s64) (by rw [← now]; exact hz)
          rw [now, zz]
          exact lpK _ 0 _ _ I2 rfl (Nat.zero_le _) rfl f2 g2 m2 (fun q => absurd rfl q)
      refine bm_go (am_ok_all 181 (by decide)) 60 ?_
      refine And.intro (fun cd => ?_) (fun _ => ?_)
      · rw [(c3 f1).2.1, nI_toInt (by omega), nI_toInt (by omega)] at cd
        omega
      exact lpM 8 0 _ _ _ _ _ I1 rfl (by decide) rfl rfl f1 g1 m1
  refine bm_go (am_ok_all 181 (by decide)) 60 ?_
  refine sp_fill_28 ?_
  refine sp_key 0 7 rfl rfl (by decide) (by decide) ?_
  refine ⟨7, rfl, (by omega : 7 < 512), ?_⟩
  refine lp _ 0 _ _ _ _ _ _ _ rfl (Nat.zero_le _) rfl (((frN.refl _ _).f (by decide)).u (by decide)) (fun S' l' q1 q2 => ?_) (fun s' q => by omega)
  by_cases q : 8 * S' + l' = 7
  · have r1 : S' = 0 := by omega
    have r2 : l' = 7 := by omega
    subst r1 r2
    rw [show 8 * 0 + 7 = 7 from rfl, u_eq]
    rfl
  · rw [u_nj q, show (am_SH 28).2 = 512 from rfl, f_eq (by omega)]
    unfold eS
    by_cases z : S' = 0
    · rw [if_pos z, if_neg (by omega)]
      rfl
    · rw [if_neg z, if_neg (Nat.not_lt_zero _), if_neg (Nat.not_lt_zero _)]
      by_cases b : S'.testBit l' = true
      · rw [if_pos b]
        by_cases c : S' - 2 ^ l' = 0
        · rw [if_pos c]; rfl
        · rw [if_neg c]; rfl
      · rw [if_neg b]; rfl
end PS

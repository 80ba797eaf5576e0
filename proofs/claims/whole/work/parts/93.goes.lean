/-! the reference's table of fewest steps and of ways -/
/-- steps from lamp to lamp as the reference goes: from a cell, among some lamps, where others shine -/
def gr (T : tT) (sh c ot A s l k : Nat) : Option Nat := if s ≤ al T ∧ k < tN T ∧ A.testBit k = true ∧ s.testBit k = false ∧ (if s = 0 then l = 7 else (l < tN T ∧ s.testBit l = true)) then gap0 T sh c ot s l k else none
theorem gap0_lt {T : tT} {sh c ot s l k v : Nat} (e : gap0 T sh c ot s l k = some v) : v < 25 := by
  unfold gap0 at e
  by_cases q2 : s = 0
  · rw [if_pos q2] at e
    exact pace_lt e
  · rw [if_neg q2] at e
    exact pace_lt e
theorem gr_lt {T : tT} {sh c ot A s l k v : Nat} (e : gr T sh c ot A s l k = some v) : v < 25 := by
  unfold gr at e
  by_cases q : s ≤ al T ∧ k < tN T ∧ A.testBit k = true ∧ s.testBit k = false ∧ (if s = 0 then l = 7 else (l < tN T ∧ s.testBit l = true))
  · rw [if_pos q] at e
    exact gap0_lt e
  · rw [if_neg q] at e
    cases e
theorem gap0_c {T : tT} {sh c ot s l k : Nat} (h : s ≠ 0) (c' : Nat) : gap0 T sh c ot s l k = gap0 T sh c' ot s l k := by
  unfold gap0
  rw [if_neg h, if_neg h]
theorem eS_ob {g : Nat → Nat → Nat → Option Nat} (hg : ∀ s l k v, g s l k = some v → v < 25) {s l k S' l' : Nat} (hs : s < 64) (hS : S' < 64) : ob (eS g s l k S' l') := by
  intro v e
  unfold eS at e
  split at e
  · split at e
    · cases e; omega
    · cases e
  · split at e
    · split at e
      · have := Fo_lt hg _ _ v e
        omega
      · split at e
        · obtain ⟨i, _, e2⟩ := ominN_some _ _ e
          obtain ⟨x, y, e3, e4, rfl⟩ := oadd_some e2
          have := Fo_lt hg _ _ x e3
          have := hg _ _ _ _ e4
          omega
        · cases e
    · cases e
def gI (T : tT) (g : Nat → Nat → Nat → Option Nat) (s la k : Nat) (I : am_I) : Prop := ∀ S' l', S' ≤ al T → l' < 6 → I 74 (6 * S' + l') = eM (eS g s la k S' l') ∧ I 75 (6 * S' + l') = nI (eW g aw s la k S' l')
theorem up_al {T : tT} (h6 : tN T ≤ 6) {s k : Nat} (hs : s ≤ al T) (hk : k < tN T) (hb : s.testBit k = false) : s + 2 ^ k ≤ al T ∧ s + 2 ^ k < 64 := by
  have p := Nat.two_pow_pos (tN T)
  have a64 := Nat.pow_le_pow_right (n := 2) (by decide) h6
  have s64 : s < 64 := by unfold al at hs; omega
  obtain ⟨b1, b2, b3⟩ := bit_up s s64 k (by omega) hb
  have sl : s < 2 ^ tN T := by unfold al at hs; omega
  have : s ||| 1 <<< k < 2 ^ tN T := or_lt sl (one_lt hk)
  rw [b1] at this
  unfold al
  omega
theorem gI_none {T : tT} {g : Nat → Nat → Nat → Option Nat} {s la k : Nat} {I : am_I} (h : gI T g s la k I) (hg : g s la k = none) : gI T g s la (k + 1) I := by
  intro S' l' h1 h2
  rw [eS_none hg, eW_none (by rw [hg]; rfl)]
  exact h S' l' h1 h2
theorem gI_some {T : tT} {g : Nat → Nat → Nat → Option Nat} {s la k fv v : Nat} {I : am_I} (h : gI T g s la k I) (h6 : tN T ≤ 6) (hs : s ≤ al T) (hk : k < tN T) (hb : s.testBit k = false) (hf : Fo g s la = some fv) (hg : g s la k = some v) : gI T g s la (k + 1) (am_u (am_u I 74 (6 * (s + 2 ^ k) + k) (eM (omin (eS g s la k (s + 2 ^ k) k) (some (fv + v))))) 75 (6 * (s + 2 ^ k) + k) (nI (eW g aw s la k (s + 2 ^ k) k + Wo g aw s la))) := by
  intro S' l' h1 h2
  have a64 := Nat.pow_le_pow_right (n := 2) (by decide) h6
  have s64 : s < 64 := by unfold al at hs; omega
  by_cases q : 6 * S' + l' = 6 * (s + 2 ^ k) + k
  · have r1 : S' = s + 2 ^ k := by omega
    have r2 : l' = k := by omega
    subst r1 r2
    rw [u_ne (by decide), u_eq, u_eq, eS_step s64 (by omega) hb, eW_step s64 (by omega) hb, hf, hg]
    exact ⟨rfl, rfl⟩
  · rw [u_ne (by decide), u_nj q, u_nj q, u_ne (by decide)]
    rw [eS_same (fun w => by
      have := two_le w.2.1
      rw [w.1] at q
      omega), eW_same (fun w => by
      have := two_le w.2.1
      rw [w.1] at q
      omega)]
    exact h S' l' h1 h2
section PG
variable {G : am_G} {l : Launch} {t : am_T} {I : am_I} {L : am_J} {Q : bm_P}
theorem n_abit {a k : Nat} (ha : a < 2 ^ 31) (hk : k < 31) : ((nI a &&& (1 : Int32) <<< (nI k &&& 31)).toInt = 0) ↔ a.testBit k = false := by
  rw [k1, n_shl _ (by omega), n_and, n_z (Nat.lt_of_le_of_lt Nat.and_le_left ha), and_one]
theorem lp_goesT {T : tT} (sh c ot A s la fv : Nat) {y5 : Int32} (hT : tOk T) (hm : mT T I) (a2 : I 61 19 = nI sh) (hsh : sh < 2 ^ 31) (hc : c < tC T) (hA : A < 2 ^ 31) (hot : ot < 2 ^ 24) (hs : s ≤ al T) (hl : (s = 0 ∧ la = 7 ∧ y5 = -1) ∨ (s ≠ 0 ∧ y5 = nI la ∧ la < tN T ∧ s.testBit la = true)) (hf : Fo (gr T sh c ot A) s la = some fv)
  (next : ∀ I3 d7 d8, frN [74, 75] I I3 → gI T (gr T sh c ot A) s (la + 1) 0 I3 → bm_W G l 128 60 [some (.ref 61), some (.int (nI c)), some (.int (nI A)), some (.int (nI ot)), some (.int (nI s)), some (.int (y5 + 1)), some (.int 1), d7, d8] [] t I3 L Q) :
  ∀ d k w d8 I3, tN T - k = d → k ≤ tN T → w = nI k → frN [74, 75] I I3 → gI T (gr T sh c ot A) s la k I3 → bm_W G l 128 109 [some (.ref 61), some (.int (nI c)), some (.int (nI A)), some (.int (nI ot)), some (.int (nI s)), some (.int y5), some (.int 1), some (.int w), d8] [] t I3 L Q := by
  have n6 := hT.2.2.2.1
  have a64 := al_lt (Or.inl hT)
  have fb : fv < 500000 := by have := Fo_lt (fun _ _ _ _ e => gr_lt e) _ _ _ hf; omega
  intro d
  induction d with
  | zero =>
    intro k w d8 I3 hd hk hw f3 g3
    obtain rfl : k = tN T := by omega
    subst hw
    have e14 : I3 61 14 = nI (tN T) := by rw [f3 61 (by decide)]; exact hm.2.2.2.1
    refine bm_go (am_ok_all 128 (by decide)) 60 ?_
    refine And.intro (fun _ => ?_) (fun cd => ?_)
    · refine next I3 _ _ f3 (fun S' l' h1 h2 => ?_)
      have z : ∀ k, tN T ≤ k → gr T sh c ot A s la k = none := fun k hk => by
        unfold gr
        rw [if_neg (fun w => by have := w.2.1; omega)]
      rw [eS_row z, eW_row z]
      exact g3 S' l' h1 h2
    · rw [e14] at cd
      omega
  | succ d ih =>
    intro k w d8 I3 hd hk hw f3 g3
    subst hw
    have e14 : I3 61 14 = nI (tN T) := by rw [f3 61 (by decide)]; exact hm.2.2.2.1
    have hm3 : mT T I3 := by unfold mT; rw [f3 61 (by decide), f3 66 (by decide), f3 67 (by decide), f3 68 (by decide)]; exact hm
    have a23 : I3 61 19 = nI sh := by rw [f3 61 (by decide)]; exact a2
    have skip : gr T sh c ot A s la k = none → ∀ d8, bm_W G l 128 109 [some (.ref 61), some (.int (nI c)), some (.int (nI A)), some (.int (nI ot)), some (.int (nI s)), some (.int y5), some (.int 1), some (.int (nI k + 1)), d8] [] t I3 L Q := fun e d8 => ih (k + 1) _ d8 I3 (by omega) (by omega) (nI_succ k).symm f3 (gI_none g3 e)
    refine bm_go (am_ok_all 128 (by decide)) 90 ?_
    refine And.intro (fun cd => ?_) (fun _ => ?_)
    · rw [e14, nI_toInt (by omega), nI_toInt (by omega)] at cd
      omega
    first | refine And.intro (fun cd => absurd cd (by decide)) (fun _ => ?_) | refine And.intro (fun _ => ?_) (fun cd => absurd cd (by decide)) | refine And.intro (fun cd => ?_) (fun cd => ?_)
    refine And.intro (fun cd => ?_) (fun cd => ?_)
    · have b := (n_abit hA (by omega)).mp cd
      refine skip ?_ _
      unfold gr
      rw [if_neg (fun w => by rw [b] at w; exact absurd w.2.2.1 (by decide))]
    · have b : A.testBit k = true := by
        cases e : A.testBit k with
        | true => rfl
        | false => exact absurd ((n_abit hA (by omega)).mpr e) cd
      refine And.intro (fun cd => ?_) (fun cd => ?_)
      · have b2 : s.testBit k ≠ false := fun e => cd ((n_abit (by omega) (by omega)).mpr e)
        refine skip ?_ _
        unfold gr
        rw [if_neg (fun w => b2 w.2.2.2.1)]
      · have b2 := (n_abit (by omega) (by omega)).mp cd
        obtain ⟨u1, u2⟩ := up_al n6 hs (by omega : k < tN T) b2
        have g := g3 (s + 2 ^ k) k u1 (by omega)
        have p := Nat.two_pow_pos k
        rcases hl with ⟨rfl, rfl, rfl⟩ | ⟨s0, rfl, l1, l2⟩
        · have eg : gr T sh c ot A 0 7 k = pace T (1 <<< c) 0 ot (tP T k) := by
            unfold gr
            rw [if_pos ⟨hs, by omega, b, b2, by simp⟩]
            unfold gap0
            rw [if_pos rfl]
          have hf0 : fv = 0 := by
            rw [Fo_eq, if_pos rfl, if_pos rfl] at hf
            cases hf
            rfl
          have hw0 : Wo (gr T sh c ot A) aw 0 7 = 1 := by rw [Wo_eq, if_pos rfl, if_pos rfl]
          rw [Nat.zero_add] at g u1 u2
          refine sm_adds_d sh c ot k _ _ hT hm3 a23 hsh rfl rfl rfl hc hot (by omega) (eS_ob (fun _ _ _ _ e => gr_lt e) (by decide) u2) g.1 g.2 (fun e => skip (eg.trans e) _) (fun v e => ?_)
          refine ih (k + 1) _ _ _ (by omega) (by omega) (nI_succ k).symm ((f3.u (by decide)).u (by decide)) ?_
          have := gI_some g3 n6 hs (by omega) b2 hf (eg.trans e)
          rw [hf0, hw0] at this
          simp only [Nat.zero_add] at this
          exact this
        · have eg : gr T sh c ot A s la k = gap0 T sh 0 ot s la k := by
            unfold gr
            rw [if_pos ⟨hs, by omega, b, b2, by rw [if_neg s0]; exact ⟨l1, l2⟩⟩]
            exact gap0_c s0 0
          have d := g3 s la hs (by omega)
          rw [eS_now, eW_now, hf] at d
          refine sm_adds_l sh s la ot k fv _ _ _ hT hm3 a23 hsh rfl rfl rfl rfl (by omega) l1 l2 hot (by omega) b2 fb (eS_ob (fun _ _ _ _ e => gr_lt e) (by omega) u2) d.1 d.2 g.1 g.2 (fun e => skip (eg.trans e) _) (fun v e => ?_)
          refine ih (k + 1) _ _ _ (by omega) (by omega) (nI_succ k).symm ((f3.u (by decide)).u (by decide)) ?_
          exact gI_some g3 n6 hs (by omega) b2 hf (eg.trans e)
end PG

/-! putting out at dawn: the reference's way -/
def dr (T : tT) (p own ot : Nat) : Nat → Nat × Nat
  | 0 => (1 <<< p, 1 <<< p &&& ot)
  | i + 1 => ((dr T p own ot i).1 ||| (spT T (dr T p own ot i).1 &&& own), ((spT T (dr T p own ot i).1 ||| spT T (dr T p own ot i).2) &&& ot) ||| (dr T p own ot i).2)
theorem dr_dw {T : tT} (p own ot : Nat) : ∀ i, (dr T p own ot i).1 = (dw T p own ot i).1 ∧ ∀ x, ((dw T p own ot i).2.testBit x = true → (dr T p own ot i).2.testBit x = true) ∧ ((dr T p own ot i).2.testBit x = true → (dw T p own ot i).1.testBit x = true ∨ (dw T p own ot i).2.testBit x = true)
  | 0 => by
    refine ⟨rfl, fun x => ⟨fun h => ?_, fun h => Or.inl ?_⟩⟩
    · have h : (0 : Nat).testBit x = true := h
      rw [Nat.zero_testBit] at h
      cases h
    · have h : (1 <<< p &&& ot).testBit x = true := h
      rw [Nat.testBit_and, Bool.and_eq_true] at h
      exact h.1
  | i + 1 => by
    obtain ⟨h1, h2⟩ := dr_dw (T := T) p own ot i
    have e1 : (dr T p own ot (i + 1)).1 = (dr T p own ot i).1 ||| (spT T (dr T p own ot i).1 &&& own) := rfl
    have e2 : (dr T p own ot (i + 1)).2 = ((spT T (dr T p own ot i).1 ||| spT T (dr T p own ot i).2) &&& ot) ||| (dr T p own ot i).2 := rfl
    have d1 : (dw T p own ot (i + 1)).1 = (dw T p own ot i).1 ||| (nr T (dw T p own ot i).1 &&& own) := rfl
    have d2 : (dw T p own ot (i + 1)).2 = (dw T p own ot i).2 ||| ((nr T (dw T p own ot i).1 ||| nr T (dw T p own ot i).2) &&& ot) := rfl
    refine ⟨?_, fun x => ⟨fun h => ?_, fun h => ?_⟩⟩
    · rw [e1, d1, h1]
      apply Nat.eq_of_testBit_eq
      intro x
      rw [spT_eq]
      simp only [Nat.testBit_or, Nat.testBit_and]
      cases (dw T p own ot i).1.testBit x <;> cases (tS T).testBit x <;> cases own.testBit x <;> simp
    · rw [d2, Nat.testBit_or, Nat.testBit_and, Nat.testBit_or, Bool.or_eq_true, Bool.and_eq_true, Bool.or_eq_true] at h
      rw [e2, spT_eq, spT_eq, h1]
      simp only [Nat.testBit_or, Nat.testBit_and, Bool.or_eq_true, Bool.and_eq_true]
      rcases h with h | ⟨h | h, h'⟩
      · exact Or.inr ((h2 x).1 h)
      · exact Or.inl ⟨Or.inl (Or.inr h), h'⟩
      · exact Or.inl ⟨Or.inr (Or.inr (nr_mono (fun y hy => (h2 y).1 hy) h)), h'⟩
    · rw [e2, spT_eq, spT_eq, h1] at h
      simp only [Nat.testBit_or, Nat.testBit_and, Bool.or_eq_true, Bool.and_eq_true] at h
      have nrU : (nr T (dr T p own ot i).2).testBit x = true → (nr T (dw T p own ot i).1).testBit x = true ∨ (nr T (dw T p own ot i).2).testBit x = true := by
        intro hn
        have m := nr_mono (b := (dw T p own ot i).1 ||| (dw T p own ot i).2) (fun y hy => by
          rw [Nat.testBit_or, Bool.or_eq_true]
          exact (h2 y).2 hy) hn
        rw [nr_or, Nat.testBit_or, Bool.or_eq_true] at m
        exact m
      have new : ((nr T (dw T p own ot i).1).testBit x = true ∨ (nr T (dw T p own ot i).2).testBit x = true) → ot.testBit x = true → (dw T p own ot (i + 1)).2.testBit x = true := by
        intro w ho
        rw [d2, Nat.testBit_or, Nat.testBit_and, Nat.testBit_or, ho]
        rcases w with w | w <;> rw [w] <;> simp
      have keep : ((dw T p own ot i).1.testBit x = true ∨ (dw T p own ot i).2.testBit x = true) → (dw T p own ot (i + 1)).1.testBit x = true ∨ (dw T p own ot (i + 1)).2.testBit x = true := fun w => w.elim (fun w => Or.inl ((dw_up i).1 w)) (fun w => Or.inr ((dw_up i).2 w))
      rcases h with ⟨h | h, h'⟩ | h
      · rcases h with h | h
        · exact keep (Or.inl h.1)
        · exact Or.inr (new (Or.inl h) h')
      · rcases h with h | h
        · exact keep ((h2 x).2 h.1)
        · exact Or.inr (new (nrU h) h')
      · exact keep ((h2 x).2 h)
theorem dr_U {T : tT} (p own ot i : Nat) : (dr T p own ot i).1 ||| (dr T p own ot i).2 = dwU T p own ot i := by
  obtain ⟨h1, h2⟩ := dr_dw (T := T) p own ot i
  apply Nat.eq_of_testBit_eq
  intro x
  unfold dwU
  rw [Nat.testBit_or, Nat.testBit_or, h1]
  cases w : (dw T p own ot i).1.testBit x with
  | true => rfl
  | false =>
    rw [Bool.false_or, Bool.false_or]
    cases v : (dr T p own ot i).2.testBit x with
    | true =>
      rcases (h2 x).2 v with q | q
      · rw [w] at q; cases q
      · rw [q]
    | false =>
      cases u : (dw T p own ot i).2.testBit x with
      | false => rfl
      | true => rw [(h2 x).1 u] at v; cases v
/-- the steps from the one put out last to the next -/
def dst (T : tT) (sh out l k : Nat) : Option Nat := fstN 49 (fun i => (dwU T (tP T l) (shn T sh l) (lit T sh (al T - out)) i).testBit (tP T k))
theorem dst_lt {T : tT} {sh out l k v : Nat} (e : dst T sh out l k = some v) : v < 49 := fstN_lt e
theorem dst_end {T : tT} (hT : tG T) {sh out l k : Nat} (hp : tP T l < tC T) : dst T sh out l k = fstN (tC T + 1) (fun i => (dwU T (tP T l) (shn T sh l) (lit T sh (al T - out)) i).testBit (tP T k)) := by
  have c24 := hT.c24
  unfold dst
  cases e : fstN 49 (fun i => (dwU T (tP T l) (shn T sh l) (lit T sh (al T - out)) i).testBit (tP T k)) with
  | none =>
    have := (fstN_none _ _).mp e
    exact ((fstN_none _ _).mpr (fun j hj => this j (by omega))).symm
  | some i =>
    have le := dw_end hT hp e
    obtain ⟨h1, h2, h3⟩ := (fstN_some _ _ _).mp e
    exact ((fstN_some (tC T + 1) (fun i => (dwU T (tP T l) (shn T sh l) (lit T sh (al T - out)) i).testBit (tP T k)) i).mpr ⟨by omega, h2, h3⟩).symm
section PD
variable {G : am_G} {l : Launch} {t : am_T} {I : am_I} {L : am_J} {Q : bm_P}
theorem sm_dawnSteps {T : tT} {x y z : Int32} (sh la out k : Nat) (hok : tOk T) (hm : mT T I) (a2 : I 61 19 = nI sh) (hsh : sh < 2 ^ 31) (hx : x = nI la) (hy : y = nI out) (hz : z = nI k) (hl : la < tN T) (ho : out ≤ al T) (hk : k < tN T) (h : Q (some (.int (eM (dst T sh out la k)))) t I L) : bm_C G l 154 [.ref 61, .int x, .int y, .int z] t I L Q := by
  subst hx hy hz
  have hG := hok.1
  have hT : tOK T := Or.inl hok
  have n6 := hT.n6
  have p := Nat.two_pow_pos (tN T)
  have p6 := Nat.pow_le_pow_right (n := 2) (by decide) n6
  have a64 := al_lt hT
  have c24 := hG.c24
  have p24 := Nat.pow_le_pow_right (n := 2) (by decide) c24
  have lpl := hok.2.2.2.2.1 la hl
  have lpk := hok.2.2.2.2.1 k hk
  rw [dst_end hG lpl.2.1] at h
  have eo : nI (al T) &&& (nI out ^^^ (-1)) = nI (al T - out) := by
    rw [km1, n_cm, n_and]
    have := al_sub (tN T) (by omega) out (by omega) (by unfold al at ho; omega)
    unfold al
    rw [this]
  have l24 := lit_24 hT sh (al T - out)
  have own24 : shn T sh la < 2 ^ 24 := Nat.lt_of_lt_of_le (shn_lt hG lpl.2.1) p24
  have ek : I 67 k = nI (tP T k) := (hm.2.2.2.2.2.2.2.2 k hk).2.1
  have el : I 67 la = nI (tP T la) := (hm.2.2.2.2.2.2.2.2 la hl).2.1
  have i8 : (1 : Int32) <<< (I 67 k &&& 31) = nI (1 <<< tP T k) := by rw [ek, k1, n_shl _ (by have := lpk.2.1; omega)]
  have i9 : (1 : Int32) <<< (I 67 la &&& 31) = nI (1 <<< tP T la) := by rw [el, k1, n_shl _ (by have := lpl.2.1; omega)]
  generalize hown : shn T sh la = own at *
  generalize hot : lit T sh (al T - out) = ot at *
  have lt : ∀ i, (dr T (tP T la) own ot i).1 < 2 ^ 24 ∧ (dr T (tP T la) own ot i).2 < 2 ^ 24 := by
    intro i
    obtain ⟨q1, q2⟩ := dr_dw (T := T) (tP T la) own ot i
    obtain ⟨w1, w2⟩ := dw_lt hG (own := own) (ot := ot) lpl.2.1 i
    refine ⟨by rw [q1]; omega, ?_⟩
    refine Nat.lt_of_lt_of_le (Nat.lt_pow_two_of_testBit _ (fun j hj => ?_)) p24
    cases v : (dr T (tP T la) own ot i).2.testBit j with
    | false => rfl
    | true =>
      rcases (q2 j).2 v with q | q
      · rw [tb_big w1 hj] at q; cases q
      · rw [tb_big w2 hj] at q; cases q
  have lp : ∀ d i y6 y7 y8 d9, tC T + 1 - i = d → i ≤ tC T + 1 → y6 = nI (dr T (tP T la) own ot i).1 → y7 = nI (dr T (tP T la) own ot i).2 → y8 = nI i → (∀ j, j < i → (dwU T (tP T la) own ot j).testBit (tP T k) = false) → bm_W G l 154 44 [some (.ref 61), some (.int (nI la)), some (.int (nI out)), some (.int (nI k)), some (.int (nI ot)), some (.int (nI (1 <<< tP T k))), some (.int y6), some (.int y7), some (.int y8), d9] [] t I L Q := by
    intro d
    induction d with
    | zero =>
      intro i y6 y7 y8 d9 hd hi e6 e7 e8 hn
      obtain rfl : i = tC T + 1 := by omega
      subst e6 e7 e8
      rw [(fstN_none _ _).mpr hn] at h
      refine bm_go (am_ok_all 154 (by decide)) 60 ?_
      refine And.intro (fun _ => h) (fun cd => ?_)
      rw [hm.2.2.1, nI_toInt (by omega), nI_toInt (by omega)] at cd
      omega
    | succ d ih =>
      intro i y6 y7 y8 d9 hd hi e6 e7 e8 hn
      subst e6 e7 e8
      obtain ⟨l1, l2⟩ := lt i
      have ia : (nI (dr T (tP T la) own ot i).1 ||| nI (dr T (tP T la) own ot i).2) &&& nI (1 <<< tP T k) = nI (dwU T (tP T la) own ot i &&& 1 <<< tP T k) := by rw [n_or, n_and, dr_U]
      have ul : dwU T (tP T la) own ot i < 2 ^ 24 := by rw [← dr_U]; exact or_lt l1 l2
      have al2 := and_lt (1 <<< tP T k) ul
      refine bm_go (am_ok_all 154 (by decide)) 90 ?_
      refine And.intro (fun cd => ?_) (fun _ => ?_)
      · rw [hm.2.2.1, nI_toInt (by omega), nI_toInt (by omega)] at cd
        omega
      refine And.intro (fun cd => ?_) (fun cd => ?_)
      · rw [ia, n_z (by omega), and_one] at cd
        refine sm_spreads _ hG hm rfl (by omega) ?_
        refine sm_spreads _ hG hm rfl (by omega) ?_
        refine sm_spreads _ hG hm rfl (by omega) ?_
        refine sm_shine sh la rfl hok hm a2 hsh hl ?_
        rw [hown]
        refine ih (i + 1) _ _ _ _ (by omega) (by omega) ?_ ?_ (nI_succ i).symm (fun j hj => ?_)
        · rw [n_and, n_or]
          rfl
        · rw [n_or, n_and, n_or]
          rfl
        · by_cases q : j = i
          · subst q; exact cd
          · exact hn j (by omega)
      · have b : (dwU T (tP T la) own ot i).testBit (tP T k) = true := by
          cases e : (dwU T (tP T la) own ot i).testBit (tP T k) with
          | true => rfl
          | false =>
            refine absurd ?_ cd
            rw [ia, n_z (by omega), and_one]
            exact e
        rw [(fstN_some (tC T + 1) (fun i => (dwU T (tP T la) own ot i).testBit (tP T k)) i).mpr ⟨by omega, b, hn⟩] at h
        exact h
  refine bm_go (am_ok_all 154 (by decide)) 60 ?_
  refine sm_every hT hm ?_
  refine sm_lightOf sh (al T - out) eo (by omega) hT hm a2 hsh ?_
  rw [hot]
  refine ⟨k, nI_toInt (by omega), (by omega : k < 6), ?_⟩
  refine ⟨la, nI_toInt (by omega), (by omega : la < 6), ?_⟩
  have go := lp _ 0 (nI (1 <<< tP T la)) (nI (1 <<< tP T la &&& ot)) 0 none rfl (Nat.zero_le _) rfl rfl rfl (fun j hj => by omega)
  rw [← n_and, ← i9, ← i8] at go
  exact go
end PD

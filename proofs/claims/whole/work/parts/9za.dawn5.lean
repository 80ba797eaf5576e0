/-! putting out at dawn: the class's table -/
section PD
variable {G : am_G} {l : Launch} {t : am_T} {I : am_I} {L : am_J} {Q : bm_P}
set_option maxRecDepth 20000 in
theorem sp_stepsFrom {T : tT} {x y : Int32} (sh B la : Nat) (tl : Nat → Option Nat) (hok : tOk T) (hc : cT T I) (hL : cL T sh 13 I) (hx : x = nI B) (hy : y = nI la) (hB : B < 64) (hl : la < tN T) (ht : ∀ k v, tl k = some v → v < 100000) (h35 : ∀ k, k < tN T → B.testBit k = true → I 35 (8 * (B - 2 ^ k) + k) = eN (tl k)) (h : Q (some (.int (eN (ominN (tN T) (tmD T (tP T la) (shn T sh la) (lit T sh B) B tl 49))))) t I L) : bm_C G l 169 [.ref 34, .ref 7, .ref 12, .int x, .int y] t I L Q := by
  subst hx hy
  have hG := hok.1
  have n6 := hok.2.2.2.1
  have c24 := hG.c24
  have p24 := Nat.pow_le_pow_right (n := 2) (by decide) c24
  have lpl := hok.2.2.2.2.1 la hl
  have T48' : (48 : Int32).toInt = 48 := rfl
  have l64 : 1 <<< la < 64 := Nat.lt_of_lt_of_le (one_lt hl) (Nat.pow_le_pow_right (n := 2) (by decide) n6)
  have i1 : (1 : Int32) <<< (nI la &&& 31) = nI (1 <<< la) := by rw [k1, n_shl _ (by omega)]
  have eo : I 13 (1 <<< la) = nI (shn T sh la) := by rw [hL _ l64, lit_1 sh hl]
  have et : I 13 B = nI (lit T sh B) := hL B hB
  have e9 : I 9 la = nI (tP T la) := (hc.2.2.2.2.2.1 la hl).2.1
  have l24 := lit_24 (Or.inl hok) sh B
  have own24 : shn T sh la < 2 ^ 24 := Nat.lt_of_lt_of_le (shn_lt hG lpl.2.1) p24
  generalize shn T sh la = own at *
  generalize lit T sh B = ot at *
  have obD : ∀ i k, i ≤ 49 → ob (tmD T (tP T la) own ot B tl i k) := fun i k hi v e => by
    unfold tmD at e
    split at e
    · obtain ⟨a, b, e1, e2, rfl⟩ := oadd_some e
      have := fstN_lt e1
      have := ht k b e2
      omega
    · cases e
  have lp : ∀ d i y7 y8 y9 y10 y11 y12 d13 d14, 49 - i = d → i ≤ 49 → y7 = nI (dc T (tP T la) own ot i).1.1 → y8 = nI (dc T (tP T la) own ot i).1.2 → y9 = nI (dc T (tP T la) own ot i).2.1 → y10 = nI (dc T (tP T la) own ot i).2.2 → y11 = eN (ominN (tN T) (tmD T (tP T la) own ot B tl i)) → y12 = nI i → bm_W G l 169 42 [some (.ref 34), some (.ref 7), some (.ref 12), some (.int (nI B)), some (.int (nI la)), some (.int (nI own)), some (.int (nI ot)), some (.int y7), some (.int y8), some (.int y9), some (.int y10), some (.int y11), some (.int y12), d13, d14] [] t I L Q := by
    intro d
    induction d with
    | zero =>
      intro i y7 y8 y9 y10 y11 y12 d13 d14 hd hi e7 e8 e9 e10 e11 e12
      obtain rfl : i = 49 := by omega
      subst e11 e12
      refine bm_go (am_ok_all 169 (by decide)) 60 ?_
      refine And.intro (fun _ => h) (fun cd => absurd cd (by decide))
    | succ d ih =>
      intro i y7 y8 y9 y10 y11 y12 d13 d14 hd hi e7 e8 e9 e10 e11 e12
      subst e7 e8 e9 e10 e11 e12
      obtain ⟨q1, q2, q3, q4⟩ := dc_lt hG (own := own) (ot := ot) lpl.2.1 i
      have q1 := Nat.lt_of_lt_of_le q1 p24
      have q2 := Nat.lt_of_lt_of_le q2 p24
      have io : nI (dc T (tP T la) own ot i).1.1 ||| nI (dc T (tP T la) own ot i).1.2 = nI ((dc T (tP T la) own ot i).1.1 ||| (dc T (tP T la) own ot i).1.2) := n_or _ _
      have ol := or_lt q1 q2
      refine bm_go (am_ok_all 169 (by decide)) 150 ?_
      refine And.intro (fun cd => ?_) (fun _ => ?_)
      · rw [T48', nI_toInt (by omega)] at cd
        omega
      refine And.intro (fun cd => ?_) (fun _ => ?_)
      · rw [io, n_z (by omega)] at cd
        have : ominN (tN T) (tmD T (tP T la) own ot B tl i) = ominN (tN T) (tmD T (tP T la) own ot B tl 49) := ominN_c _ (fun k _ => tmD_stop hG lpl.2.1 tl (by omega) cd k)
        rw [this]
        exact h
      refine sp_stepsByD B ((dc T (tP T la) own ot i).1.1 ||| (dc T (tP T la) own ot i).1.2) i tl hok hc rfl io rfl hB ol (by omega) ht h35 ?_
      intro z hz
      refine sp_near _ hG hc.1 rfl (by omega) ?_
      refine sp_near _ hG hc.1 rfl (by omega) ?_
      refine ih (i + 1) _ _ _ _ _ _ _ _ (by omega) (by omega) ?_ ?_ ?_ ?_ ?_ (nI_succ i).symm
      · rw [n_and, km1, n_cm, n_and]
        rfl
      · rw [km1, n_cm, n_cm, n_and, n_or, n_and, n_and]
        rfl
      · rw [n_and, km1, n_cm, n_and, n_or]
        rfl
      · rw [km1, n_cm, n_cm, n_and, n_or, n_and, n_and, n_or]
        rfl
      · have e : ominN (tN T) (tmD T (tP T la) own ot B tl (i + 1)) = omin (ominN (tN T) (tmD T (tP T la) own ot B tl i)) (ominN (tN T) (tmS T B ((dc T (tP T la) own ot i).1.1 ||| (dc T (tP T la) own ot i).1.2) i tl)) := by
          rw [← ominN_omin]
          exact ominN_c _ (fun k _ => (tmD_step hG lpl.2.1 tl i k).symm)
        rw [e]
        refine eN_min (ominN_ob (fun k => obD i k (by omega))) (ominN_ob (fun k v q => ?_)) hz
        unfold tmS at q
        split at q
        · obtain ⟨a, b, e1, e2, rfl⟩ := oadd_some q
          cases e1
          have := ht k b e2
          omega
        · cases q
  refine bm_go (am_ok_all 169 (by decide)) 60 ?_
  refine sp_of 12 (Or.inl rfl) (1 <<< la) i1 l64 ?_
  refine sp_of 12 (Or.inl rfl) B rfl hB ?_
  refine sp_spotOf la (tP T la) rfl (by omega) e9 (by have := lpl.2.1; omega) ?_
  have e0 : eN (ominN (tN T) (tmD T (tP T la) own ot B tl 0)) = 1048576 := by
    have : ominN (tN T) (tmD T (tP T la) own ot B tl 0) = none := (ominN_none _).mpr (fun k _ => by
      unfold tmD
      by_cases b : B.testBit k = true
      · rw [if_pos b]; rfl
      · rw [if_neg b])
    rw [this]
    rfl
  have go := lp _ 0 (nI (1 <<< tP T la)) 0 (nI (1 <<< tP T la)) 0 1048576 0 none none rfl (Nat.zero_le _) rfl rfl rfl rfl e0.symm rfl
  rw [← eo, ← et] at go
  exact go
/-- the steps at dawn from the one put out last -/
def gw (T : tT) (sh s l k : Nat) : Option Nat := if s ≤ al T ∧ k < tN T ∧ s.testBit k = false ∧ l < tN T ∧ s.testBit l = true then dst T sh s l k else none
theorem gw_lt {T : tT} {sh s l k v : Nat} (e : gw T sh s l k = some v) : v < 49 := by
  unfold gw at e
  split at e
  · exact dst_lt e
  · cases e
theorem Bw_lt {T : tT} {sh : Nat} (a : Nat) : ∀ (d s l v : Nat), a - s = d → Bo (gw T sh) (tN T) a s l = some v → v ≤ 49 * (a - s) := by
  intro d
  induction d using Nat.strongRecOn with
  | ind d ih =>
    intro s l v hd e
    rw [Bo_eq] at e
    by_cases h : a ≤ s
    · rw [if_pos h] at e
      cases e
      omega
    · rw [if_neg h] at e
      obtain ⟨i, _, e2⟩ := ominN_some _ _ e
      by_cases q : s.testBit i = true
      · simp only [q, if_true] at e2
        cases e2
      · simp only [q] at e2
        obtain ⟨x, y, e3, e4, rfl⟩ := oadd_some e2
        have := Nat.two_pow_pos i
        have := gw_lt e3
        have := ih (a - (s + 2 ^ i)) (by omega) (s + 2 ^ i) i y rfl e4
        omega
end PD

/-! pair: rings -/
theorem fstN_some : ∀ (n : Nat) (p : Nat → Bool) (i : Nat), fstN n p = some i ↔ i < n ∧ p i = true ∧ ∀ j, j < i → p j = false
  | 0, p, i => by simp [fstN]
  | n + 1, p, i => by
    have ih := fstN_some n p
    unfold fstN
    cases e : fstN n p with
    | some q =>
      obtain ⟨h1, h2, h3⟩ := (ih q).mp e
      simp only [Option.some.injEq]
      constructor
      · rintro rfl
        exact ⟨by omega, h2, h3⟩
      · rintro ⟨g1, g2, g3⟩
        rcases Nat.lt_trichotomy q i with c | c | c
        · rw [g3 q c] at h2; cases h2
        · exact c
        · rw [h3 i c] at g2; cases g2
    | none =>
      have hn : ∀ j, j < n → p j = false := by
        intro j
        induction j using Nat.strongRecOn with
        | ind j ihj =>
          intro hj
          cases hp : p j with
          | false => rfl
          | true =>
            have := (ih j).mpr ⟨hj, hp, fun q hq => ihj q hq (by omega)⟩
            rw [e] at this
            cases this
      simp only
      constructor
      · intro h
        split at h
        · cases h
          exact ⟨by omega, by assumption, hn⟩
        · cases h
      · rintro ⟨g1, g2, g3⟩
        have : i = n := by
          by_cases c : i < n
          · rw [hn i c] at g2; cases g2
          · omega
        subst this
        rw [if_pos g2]
theorem fstN_none (n : Nat) (p : Nat → Bool) : fstN n p = none ↔ ∀ j, j < n → p j = false := by
  constructor
  · intro e j
    induction j using Nat.strongRecOn with
    | ind j ihj =>
      intro hj
      cases hp : p j with
      | false => rfl
      | true =>
        have := (fstN_some n p j).mpr ⟨hj, hp, fun q hq => ihj q hq (by omega)⟩
        rw [e] at this
        cases this
  · intro h
    cases e : fstN n p with
    | none => rfl
    | some i =>
      obtain ⟨h1, h2, -⟩ := (fstN_some n p i).mp e
      rw [h i h1] at h2
      cases h2
/-- the size of the smallest ring with a lamp; 0 -/
def rsz (T : tT) (sh k : Nat) : Nat := match fstN (tN T) (fun i => (rg T sh k (i + 1)).testBit k) with
  | some i => i + 1
  | none => 0
def sml (T : tT) (sh : Nat) : Nat → Nat
  | 0 => 0
  | k + 1 => if rsz T sh k = 0 then sml T sh k else if sml T sh k = 0 then rsz T sh k else min (sml T sh k) (rsz T sh k)
def inR (T : tT) (sh k : Nat) : Bool := rsz T sh k != 0
theorem rsz_le (T : tT) (sh k : Nat) : rsz T sh k ≤ tN T := by
  unfold rsz
  split
  · rename_i i e
    have := ((fstN_some _ _ _).mp e).1
    omega
  · omega
theorem sml_le (T : tT) (sh : Nat) : ∀ k, sml T sh k ≤ tN T
  | 0 => Nat.zero_le _
  | k + 1 => by
    unfold sml
    have h1 := sml_le T sh k
    have h2 := rsz_le T sh k
    split
    · exact h1
    · split
      · exact h2
      · omega
theorem rsz_s {T : tT} {sh k s : Nat} (h1 : 1 ≤ s) (h2 : s ≤ tN T) (h3 : (rg T sh k s).testBit k = true) (h4 : ∀ q, 1 ≤ q → q < s → (rg T sh k q).testBit k = false) : rsz T sh k = s := by
  unfold rsz
  rw [(fstN_some _ _ (s - 1)).mpr ⟨by omega, by rw [show s - 1 + 1 = s by omega]; exact h3, fun j hj => h4 (j + 1) (by omega) (by omega)⟩]
  simp only
  omega
theorem rsz_0 {T : tT} {sh k : Nat} (h : ∀ q, 1 ≤ q → q ≤ tN T → (rg T sh k q).testBit k = false) : rsz T sh k = 0 := by
  unfold rsz
  rw [(fstN_none _ _).mpr (fun j hj => h (j + 1) (by omega) (by omega))]
theorem rg_1 {T : tT} {sh k : Nat} (hk : k < tN T) : rg T sh k 1 = bar T sh k := by
  apply Nat.eq_of_testBit_eq
  intro i
  rw [Bool.eq_iff_iff]
  show (orN (tN T) (fun j => if (1 <<< k).testBit j then bar T sh j else 0)).testBit i = true ↔ _
  rw [tb_orN]
  constructor
  · rintro ⟨j, hj, h⟩
    rw [tb_one] at h
    by_cases e : k = j
    · subst e; simpa using h
    · simp [e] at h
  · intro h
    exact ⟨k, hk, by rw [tb_one]; simpa using h⟩
section PR
variable {G : am_G} {l : Launch} {t : am_T} {I : am_I} {L : am_J} {Q : bm_P}
theorem sp_rings {T : tT} (sh : Nat) (hT : tOK T) (hc : cT T I) (hL : cL T sh 13 I) (h : Q (some (.int (nI (bO (tN T) (inR T sh))))) t (am_u I 36 0 (nI (sml T sh (tN T)))) L) : bm_C G l 30 [.ref 0] t I L Q := by
  have n6 := hT.n6
  have hn := hc.2.2.2.1
  have lp : ∀ d k x y z d4, tN T - k = d → k ≤ tN T → x = nI k → y = nI (bO k (inR T sh)) → z = nI (sml T sh k) → bm_W G l 30 6 [some (.ref 0), some (.int y), some (.int z), some (.int x), d4] [] t I L Q := by
    intro d
    induction d with
    | zero =>
      intro k x y z d4 hd hk hx hy hz
      obtain rfl : k = tN T := by omega
      subst hx hy hz
      refine bm_go (am_ok_all 30 (by decide)) 40 ?_
      refine And.intro (fun cd => ?_) (fun cd => ?_)
      · exact sp_besides h
      · simp (disch := omega) only [nI_toInt, T0, T1, T2, T3, T4, T5, T6, T7, T8, T9, T10, T15, T24, T32, T48, T60, T63, T64, T80, T200, T384, T1000, TN, TP, Tm1, Tm9, hn] at cd
        omega
    | succ d ih =>
      intro k x y z d4 hd hk hx hy hz
      subst hx hy hz
      have hok := hT.ok (k := k) (by omega)
      have s6 := sml_le T sh k
      refine bm_go (am_ok_all 30 (by decide)) 40 ?_
      refine And.intro (fun cd => ?_) (fun cd => ?_)
      · simp (disch := omega) only [nI_toInt, T0, T1, T2, T3, T4, T5, T6, T7, T8, T9, T10, T15, T24, T32, T48, T60, T63, T64, T80, T200, T384, T1000, TN, TP, Tm1, Tm9, hn] at cd
        omega
      · refine sp_ring sh k (by omega) rfl hok hc hL (fun s q1 q2 q3 q4 => ?_) (fun q => ?_)
        · have e := rsz_s q1 q2 q3 q4
          have hin : inR T sh k = true := by unfold inR; rw [e]; simp; omega
          refine And.intro (fun cd => ?_) (fun cd => ?_)
          · simp (disch := omega) only [nI_toInt, T0, T1, T2, T3, T4, T5, T6, T7, T8, T9, T10, T15, T24, T32, T48, T60, T63, T64, T80, T200, T384, T1000, TN, TP, Tm1, Tm9] at cd
            omega
          · have b1 : nI (bO k (inR T sh)) ||| (1 : Int32) <<< (nI k &&& 31) = nI (bO (k + 1) (inR T sh)) := by
              rw [shl1 (by omega), n_or, bO_s, hin]
              rfl
            refine And.intro (fun c2 => ?_) (fun c2 => ?_)
            · rw [nI_toInt (by omega)] at c2
              intro v hv
              refine ih (k + 1) _ _ _ _ (by omega) (by omega) (nI_succ k).symm b1 ?_
              show v = nI (if rsz T sh k = 0 then sml T sh k else if sml T sh k = 0 then rsz T sh k else min (sml T sh k) (rsz T sh k))
              rw [e, if_neg (by omega), if_neg (by omega)]
              apply Int32.toInt_inj.mp
              rw [hv, nI_toInt (by omega), nI_toInt (by omega), nI_toInt (by omega)]
              omega
            · rw [nI_toInt (by omega)] at c2
              refine ih (k + 1) _ _ _ _ (by omega) (by omega) (nI_succ k).symm b1 ?_
              show nI s = nI (if rsz T sh k = 0 then sml T sh k else if sml T sh k = 0 then rsz T sh k else min (sml T sh k) (rsz T sh k))
              rw [e, if_neg (by omega), if_pos (by omega)]
        · have e := rsz_0 q
          have hin : inR T sh k = false := by unfold inR; rw [e]; rfl
          first | refine And.intro (fun cd => absurd cd (by decide)) (fun _ => ?_) | refine And.intro (fun _ => ?_) (fun cd => absurd cd (by decide)) | refine And.intro (fun cd => ?_) (fun cd => ?_)
          refine ih (k + 1) _ _ _ _ (by omega) (by omega) (nI_succ k).symm ?_ ?_
          · rw [bO_s, hin]
            simp
          · show _ = nI (if rsz T sh k = 0 then sml T sh k else _)
            rw [if_pos e]
  refine bm_go (am_ok_all 30 (by decide)) 40 ?_
  exact lp (tN T) 0 _ _ _ _ rfl (by omega) rfl rfl rfl
end PR

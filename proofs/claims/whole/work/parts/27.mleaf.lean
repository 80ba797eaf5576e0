/-! leaf methods of the reference -/
theorem pcn_and1 : ∀ (n s : Nat), 0 < s → s < 2 ^ n → pcn n (s &&& (s - 1)) + 1 = pcn n s
  | 0, s, h, h2 => by simp at h2; omega
  | n + 1, s, h, h2 => by
    rw [pcn_s, pcn_s]
    have hb : ∀ a b c d : Nat, a < 2 → c < 2 → (a + 2 * b) &&& (c + 2 * d) = (a &&& c) + 2 * (b &&& d) := fun a b c d ha hc => and_split (k := 1) ha hc
    by_cases e : s % 2 = 1
    · have e1 := hb 1 (s / 2) 0 (s / 2) (by decide) (by decide)
      rw [show 1 + 2 * (s / 2) = s by omega, show 0 + 2 * (s / 2) = s - 1 by omega, Nat.and_self] at e1
      have e2 : (1 &&& 0 : Nat) = 0 := rfl
      rw [e1, e2]
      have e3 : (0 + 2 * (s / 2)) / 2 = s / 2 := by omega
      rw [e3]
      omega
    · have h0 : 0 < s / 2 := by omega
      have e1 := hb 0 (s / 2) 1 (s / 2 - 1) (by decide) (by decide)
      rw [show 0 + 2 * (s / 2) = s by omega, show 1 + 2 * (s / 2 - 1) = s - 1 by omega] at e1
      have e2 : (0 &&& 1 : Nat) = 0 := rfl
      rw [e1, e2]
      have ih := pcn_and1 n (s / 2) h0 (by rw [Nat.pow_succ] at h2; omega)
      have e3 : (0 + 2 * (s / 2 &&& (s / 2 - 1))) / 2 = s / 2 &&& (s / 2 - 1) := by omega
      rw [e3]
      omega
theorem pc_and1 {s : Nat} (h : 0 < s) (h2 : s < 2 ^ 32) : pc (s &&& (s - 1)) + 1 = pc s := pcn_and1 32 s h h2
theorem pc_0 : pc 0 = 0 := pcn_0 32
theorem lcmp_lt {a b : Int64} : (lg_cmp a b).toInt < 0 ↔ a.toInt < b.toInt := by
  unfold lg_cmp
  rw [← Int64.lt_iff_toInt_lt]
  by_cases h : a > b
  · rw [if_pos h]
    have : ¬ a < b := fun q => by
      rw [Int64.lt_iff_toInt_lt] at q
      have h : b < a := h
      rw [Int64.lt_iff_toInt_lt] at h
      omega
    simp [this, T1]
  · rw [if_neg h]
    by_cases e : a = b
    · rw [if_pos e]
      subst e
      simp [T0]
    · rw [if_neg e]
      have : a < b := by
        rw [Int64.lt_iff_toInt_lt]
        have h : ¬ b < a := h
        rw [Int64.lt_iff_toInt_lt] at h
        have : ¬ a.toInt = b.toInt := fun q => e (Int64.toInt_inj.mp q)
        omega
      simp [this, Tm1]
theorem lcmp_gt {a b : Int64} : 0 < (lg_cmp a b).toInt ↔ b.toInt < a.toInt := by
  unfold lg_cmp
  rw [← Int64.lt_iff_toInt_lt]
  by_cases h : a > b
  · rw [if_pos h]
    have : b < a := h
    simp [this, T1]
  · rw [if_neg h]
    have h : ¬ b < a := h
    by_cases e : a = b
    · rw [if_pos e]
      simp [T0, h]
    · rw [if_neg e]
      simp [h, Tm1]
theorem i64 (x : Int32) : x.toInt64.toInt = x.toInt := Int32.toInt_toInt64 x
/-- where a row's places begin -/
def rb (k : Nat) : Nat := if k < 6 then 60 * k else 360 + 80 * (k - 6)
section ML
variable {G : am_G} {l : Launch} {t : am_T} {I : am_I} {L : am_J} {Q : bm_P}
theorem sm_in {a b c : Int64} (va vb vc : Int) (ha : a.toInt = va) (hb : b.toInt = vb) (hc : c.toInt = vc) (h1 : vb ≤ va → va ≤ vc → Q (some (.int 1)) t I L) (h0 : (va < vb ∨ vc < va) → Q (some (.int 0)) t I L) : bm_C G l 64 [.long a, .long b, .long c] t I L Q := by
  subst ha hb hc
  refine bm_go (am_ok_all 64 (by decide)) 20 ?_
  refine And.intro (fun cd => ?_) (fun cd => ?_)
  · exact ⟨Or.inl rfl, h0 (Or.inl (lcmp_lt.mp cd))⟩
  · have q1 : ¬ a.toInt < b.toInt := fun q => by have := lcmp_lt.mpr q; omega
    refine And.intro (fun cd => ?_) (fun cd => ?_)
    · exact ⟨Or.inl rfl, h0 (Or.inr (lcmp_gt.mp cd))⟩
    · have q2 : ¬ c.toInt < a.toInt := fun q => by have := lcmp_gt.mpr q; omega
      exact ⟨Or.inr rfl, h1 (by omega) (by omega)⟩
theorem sm_isRow {x : Int32} (h1 : 0 ≤ x.toInt → x.toInt ≤ 5 → Q (some (.int 1)) t I L) (h0 : (x.toInt < 0 ∨ 5 < x.toInt) → Q (some (.int 0)) t I L) : bm_C G l 70 [.int x] t I L Q := by
  refine bm_go (am_ok_all 70 (by decide)) 20 ?_
  exact sm_in x.toInt 0 5 (i64 x) rfl rfl (fun a b => ⟨Or.inr rfl, h1 a b⟩) (fun a => ⟨Or.inl rfl, h0 a⟩)
theorem sm_isText {x : Int32} (h1 : 0 ≤ x.toInt → x.toInt ≤ 3 → Q (some (.int 1)) t I L) (h0 : (x.toInt < 0 ∨ 3 < x.toInt) → Q (some (.int 0)) t I L) : bm_C G l 71 [.int x] t I L Q := by
  refine bm_go (am_ok_all 71 (by decide)) 20 ?_
  exact sm_in x.toInt 0 3 (i64 x) rfl rfl (fun a b => ⟨Or.inr rfl, h1 a b⟩) (fun a => ⟨Or.inl rfl, h0 a⟩)
theorem sm_finds {x : Int32} (f : Nat) (hx : x = nI f) (hf : f < 6) (h : Q (some (.int (-3))) t (am_u (am_u I 61 3 x) 62 f (I 62 f + 1)) L) : bm_C G l 65 [.ref 61, .int x] t I L Q := by
  refine bm_go (am_ok_all 65 (by decide)) 20 ?_
  refine ⟨f, by rw [hx]; exact nI_toInt (by omega), hf, f, by rw [hx]; exact nI_toInt (by omega), hf, ?_⟩
  rw [u_ne (show 62 ≠ 61 by decide)]
  exact h
theorem sm_tells {a v : Int32} (h : Q (some (.int a)) t (am_u I 61 0 v) L) : bm_C G l 66 [.ref 61, .int a, .int v] t I L Q := by
  refine bm_go (am_ok_all 66 (by decide)) 20 ?_
  exact h
theorem sm_size {x : Int32} (s : Nat) (hx : x = nI s) (hs : s < 2 ^ 31) (h : Q (some (.int (nI (pc s)))) t I L) : bm_C G l 67 [.int x] t I L Q := by
  have lp : ∀ d s' y z, pc s' = d → s' < 2 ^ 31 → y = nI s' → z = nI (pc s - d) → d ≤ pc s → bm_W G l 67 4 [some (.int x), some (.int z), some (.int y)] [] t I L Q := by
    intro d
    induction d with
    | zero =>
      intro s' y z hd hs' hy hz hle
      subst hy hz
      refine bm_go (am_ok_all 67 (by decide)) 20 ?_
      refine And.intro (fun cd => h) (fun cd => ?_)
      rw [nI_toInt hs'] at cd
      have := pc_and1 (s := s') (by omega) (by omega)
      omega
    | succ d ih =>
      intro s' y z hd hs' hy hz hle
      subst hy hz
      have h0 : 0 < s' := by
        rcases Nat.eq_zero_or_pos s' with e | e
        · subst e
          rw [pc_0] at hd
          omega
        · exact e
      have q := pc_and1 (s := s') h0 (by omega)
      refine bm_go (am_ok_all 67 (by decide)) 20 ?_
      refine And.intro (fun cd => ?_) (fun cd => ?_)
      · rw [nI_toInt hs'] at cd
        omega
      · refine ih (s' &&& (s' - 1)) _ _ (by omega) (and_lt _ hs') ?_ ?_ (by omega)
        · rw [k1, pk_sub (by omega), n_and]
        · rw [← nI_succ, show pc s - (d + 1) + 1 = pc s - d by omega]
  refine bm_go (am_ok_all 67 (by decide)) 20 ?_
  exact lp (pc s) s _ _ rfl hs hx (by rw [Nat.sub_self]; rfl) (Nat.le_refl _)
theorem sm_base {x : Int32} (k : Nat) (hx : x = nI k) (hk : k < 10) (h : Q (some (.int (nI (rb k)))) t I L) : bm_C G l 69 [.int x] t I L Q := by
  subst hx
  unfold rb at h
  refine bm_go (am_ok_all 69 (by decide)) 20 ?_
  refine And.intro (fun cd => ?_) (fun cd => ?_)
  · simp (disch := omega) only [nI_toInt, T0, T1, T2, T3, T4, T5, T6, T7, T8, T9, T10, T15, T24, T32, T48, T60, T63, T64, T80, T200, T384, T1000, TN, TP, Tm1, Tm9] at cd
    rw [if_neg (by omega)] at h
    have e : (360 : Int32) + 80 * (nI k - 6) = nI (360 + 80 * (k - 6)) := by
      rw [k6, pk_sub (by omega), show (80 : Int32) = nI 80 from rfl, show (360 : Int32) = nI 360 from rfl, pk_mul, nI_add]
    rw [← e] at h
    exact h
  · simp (disch := omega) only [nI_toInt, T0, T1, T2, T3, T4, T5, T6, T7, T8, T9, T10, T15, T24, T32, T48, T60, T63, T64, T80, T200, T384, T1000, TN, TP, Tm1, Tm9] at cd
    rw [if_pos (by omega)] at h
    have e : (60 : Int32) * nI k = nI (60 * k) := by
      rw [show (60 : Int32) = nI 60 from rfl, pk_mul]
    rw [← e] at h
    exact h
theorem sm_why {x y : Int32} (k : Nat) (hx : x = nI k) (hk : k < 10) (hr : -1 ≤ (I 63 k).toInt) (h1 : (I 63 k).toInt < 0 → Q (some (.int 1)) t I L) (h2 : 0 ≤ (I 63 k).toInt → (y.toInt < 0 ∨ (I 63 k).toInt ≤ y.toInt) → Q (some (.int 2)) t I L) (h0 : 0 ≤ y.toInt → y.toInt < (I 63 k).toInt → Q (some (.int 0)) t I L) : bm_C G l 74 [.ref 61, .int x, .int y] t I L Q := by
  subst hx
  have e := nI_toInt (n := k) (by omega)
  refine bm_go (am_ok_all 74 (by decide)) 30 ?_
  refine ⟨k, e, hk, ?_⟩
  refine And.intro (fun cd => ?_) (fun cd => ?_)
  · refine ⟨k, e, hk, ?_⟩
    have hs : (I 63 k - 1).toInt64.toInt = (I 63 k).toInt - 1 := by
      rw [i64, Int32.toInt_sub, T1]
      have := (I 63 k).toInt_lt
      exact Int.bmod_eq_of_le (by omega) (by omega)
    refine sm_in y.toInt 0 ((I 63 k).toInt - 1) (i64 y) rfl hs (fun a b => ?_) (fun a => ?_)
    · first | refine And.intro (fun cd => absurd cd (by decide)) (fun _ => ?_) | refine And.intro (fun _ => ?_) (fun cd => absurd cd (by decide)) | refine And.intro (fun cd => ?_) (fun cd => ?_)
      exact h0 (by omega) (by omega)
    · first | refine And.intro (fun cd => absurd cd (by decide)) (fun _ => ?_) | refine And.intro (fun _ => ?_) (fun cd => absurd cd (by decide)) | refine And.intro (fun cd => ?_) (fun cd => ?_)
      exact h2 (by omega) (by omega)
  · exact h1 (by omega)
end ML

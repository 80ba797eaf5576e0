/-! pairs: copy, mean -/
theorem i32_64 (x : Int32) : x.toInt64.toInt = x.toInt := i64 x
theorem add64 {a b : Int64} (h1 : -2 ^ 62 ≤ a.toInt) (h2 : a.toInt < 2 ^ 62) (h3 : -2 ^ 62 ≤ b.toInt) (h4 : b.toInt < 2 ^ 62) : (a + b).toInt = a.toInt + b.toInt := by
  rw [Int64.toInt_add]
  exact Int.bmod_eq_of_le (by omega) (by omega)
/-- the sum of a row's first places -/
def smR (r : Nat → Int32) : Nat → Int64
  | 0 => 0
  | i + 1 => smR r i + (r i).toInt64
theorem smR_cong {r r' : Nat → Int32} : ∀ (n : Nat), (∀ i, i < n → r i = r' i) → smR r n = smR r' n
  | 0, _ => rfl
  | n + 1, h => by
    unfold smR
    rw [smR_cong n (fun i hi => h i (by omega)), h n (by omega)]
section PC
variable {G : am_G} {l : Launch} {t : am_T} {I : am_I} {L : am_J} {Q : bm_P}
theorem sp_sum_38 (n : Nat) (hn : (I 38 1).toInt = (n : Int)) (hs : n ≤ 60) (h : Q (some (.long (smR (I 39) n))) t I L) : bm_C G l 236 [.ref 38] t I L Q := by
  have lp : ∀ d i x y, n - i = d → i ≤ n → x = nI i → y = smR (I 39) i → bm_W G l 236 4 [some (.ref 38), some (.long y), none, some (.int x)] [] t I L Q := by
    intro d
    induction d with
    | zero =>
      intro i x y hd hi hx hy
      obtain rfl : i = n := by omega
      subst hx hy
      refine bm_go (am_ok_all 236 (by decide)) 20 ?_
      refine And.intro (fun cd => h) (fun cd => ?_)
      rw [nI_toInt (by omega)] at cd
      omega
    | succ d ih =>
      intro i x y hd hi hx hy
      subst hx hy
      refine bm_go (am_ok_all 236 (by decide)) 20 ?_
      refine And.intro (fun cd => ?_) (fun cd => ?_)
      · rw [nI_toInt (by omega)] at cd
        omega
      · refine sp_item_38 (by omega) ?_
        refine ih (i + 1) _ _ (by omega) (by omega) (nI_succ i).symm ?_
        unfold itm
        rw [nI_toInt (by omega), if_pos (by omega)]
        rfl
  refine bm_go (am_ok_all 236 (by decide)) 20 ?_
  exact lp n 0 _ _ rfl (Nat.zero_le _) rfl rfl
theorem sp_holds_38 {x y : Int32} (hs : -1 ≤ (I 38 1).toInt ∧ (I 38 1).toInt ≤ 60) (h1 : 0 ≤ x.toInt → 0 ≤ y.toInt → x.toInt + y.toInt ≤ (I 38 1).toInt → Q (some (.int 1)) t I L) (h0 : (x.toInt < 0 ∨ y.toInt < 0 ∨ (I 38 1).toInt < x.toInt + y.toInt) → Q (some (.int 0)) t I L) : bm_C G l 235 [.ref 38, .int x, .int y] t I L Q := by
  refine bm_go (am_ok_all 235 (by decide)) 30 ?_
  refine And.intro (fun cd => ⟨Or.inl rfl, h0 (by omega)⟩) (fun cd => ?_)
  refine And.intro (fun c2 => ⟨Or.inl rfl, h0 (by omega)⟩) (fun c2 => ?_)
  refine And.intro (fun c3 => ⟨Or.inl rfl, h0 (by omega)⟩) (fun c3 => ?_)
  have e : (I 38 1 - x).toInt = (I 38 1).toInt - x.toInt := by
    rw [Int32.toInt_sub]
    exact Int.bmod_eq_of_le (by omega) (by omega)
  refine And.intro (fun c4 => ?_) (fun c4 => ?_)
  · rw [e] at c4
    exact ⟨Or.inl rfl, h0 (by omega)⟩
  · rw [e] at c4
    exact ⟨Or.inr rfl, h1 (by omega) (by omega) (by omega)⟩
theorem sp_sum_40 (n : Nat) (hn : (I 40 1).toInt = (n : Int)) (hs : n ≤ 60) (h : Q (some (.long (smR (I 41) n))) t I L) : bm_C G l 236 [.ref 40] t I L Q := by
  have lp : ∀ d i x y, n - i = d → i ≤ n → x = nI i → y = smR (I 41) i → bm_W G l 236 4 [some (.ref 40), some (.long y), none, some (.int x)] [] t I L Q := by
    intro d
    induction d with
    | zero =>
      intro i x y hd hi hx hy
      obtain rfl : i = n := by omega
      subst hx hy
      refine bm_go (am_ok_all 236 (by decide)) 20 ?_
      refine And.intro (fun cd => h) (fun cd => ?_)
      rw [nI_toInt (by omega)] at cd
      omega
    | succ d ih =>
      intro i x y hd hi hx hy
      subst hx hy
      refine bm_go (am_ok_all 236 (by decide)) 20 ?_
      refine And.intro (fun cd => ?_) (fun cd => ?_)
      · rw [nI_toInt (by omega)] at cd
        omega
      · refine sp_item_40 (by omega) ?_
        refine ih (i + 1) _ _ (by omega) (by omega) (nI_succ i).symm ?_
        unfold itm
        rw [nI_toInt (by omega), if_pos (by omega)]
        rfl
  refine bm_go (am_ok_all 236 (by decide)) 20 ?_
  exact lp n 0 _ _ rfl (Nat.zero_le _) rfl rfl
theorem sp_holds_40 {x y : Int32} (hs : -1 ≤ (I 40 1).toInt ∧ (I 40 1).toInt ≤ 60) (h1 : 0 ≤ x.toInt → 0 ≤ y.toInt → x.toInt + y.toInt ≤ (I 40 1).toInt → Q (some (.int 1)) t I L) (h0 : (x.toInt < 0 ∨ y.toInt < 0 ∨ (I 40 1).toInt < x.toInt + y.toInt) → Q (some (.int 0)) t I L) : bm_C G l 235 [.ref 40, .int x, .int y] t I L Q := by
  refine bm_go (am_ok_all 235 (by decide)) 30 ?_
  refine And.intro (fun cd => ⟨Or.inl rfl, h0 (by omega)⟩) (fun cd => ?_)
  refine And.intro (fun c2 => ⟨Or.inl rfl, h0 (by omega)⟩) (fun c2 => ?_)
  refine And.intro (fun c3 => ⟨Or.inl rfl, h0 (by omega)⟩) (fun c3 => ?_)
  have e : (I 40 1 - x).toInt = (I 40 1).toInt - x.toInt := by
    rw [Int32.toInt_sub]
    exact Int.bmod_eq_of_le (by omega) (by omega)
  refine And.intro (fun c4 => ?_) (fun c4 => ?_)
  · rw [e] at c4
    exact ⟨Or.inl rfl, h0 (by omega)⟩
  · rw [e] at c4
    exact ⟨Or.inr rfl, h1 (by omega) (by omega) (by omega)⟩
theorem sp_sum_42 (n : Nat) (hn : (I 42 1).toInt = (n : Int)) (hs : n ≤ 60) (h : Q (some (.long (smR (I 43) n))) t I L) : bm_C G l 236 [.ref 42] t I L Q := by
  have lp : ∀ d i x y, n - i = d → i ≤ n → x = nI i → y = smR (I 43) i → bm_W G l 236 4 [some (.ref 42), some (.long y), none, some (.int x)] [] t I L Q := by
    intro d
    induction d with
    | zero =>
      intro i x y hd hi hx hy
      obtain rfl : i = n := by omega
      subst hx hy
      refine bm_go (am_ok_all 236 (by decide)) 20 ?_
      refine And.intro (fun cd => h) (fun cd => ?_)
      rw [nI_toInt (by omega)] at cd
      omega
    | succ d ih =>
      intro i x y hd hi hx hy
      subst hx hy
      refine bm_go (am_ok_all 236 (by decide)) 20 ?_
      refine And.intro (fun cd => ?_) (fun cd => ?_)
      · rw [nI_toInt (by omega)] at cd
        omega
      · refine sp_item_42 (by omega) ?_
        refine ih (i + 1) _ _ (by omega) (by omega) (nI_succ i).symm ?_
        unfold itm
        rw [nI_toInt (by omega), if_pos (by omega)]
        rfl
  refine bm_go (am_ok_all 236 (by decide)) 20 ?_
  exact lp n 0 _ _ rfl (Nat.zero_le _) rfl rfl
theorem sp_holds_42 {x y : Int32} (hs : -1 ≤ (I 42 1).toInt ∧ (I 42 1).toInt ≤ 60) (h1 : 0 ≤ x.toInt → 0 ≤ y.toInt → x.toInt + y.toInt ≤ (I 42 1).toInt → Q (some (.int 1)) t I L) (h0 : (x.toInt < 0 ∨ y.toInt < 0 ∨ (I 42 1).toInt < x.toInt + y.toInt) → Q (some (.int 0)) t I L) : bm_C G l 235 [.ref 42, .int x, .int y] t I L Q := by
  refine bm_go (am_ok_all 235 (by decide)) 30 ?_
  refine And.intro (fun cd => ⟨Or.inl rfl, h0 (by omega)⟩) (fun cd => ?_)
  refine And.intro (fun c2 => ⟨Or.inl rfl, h0 (by omega)⟩) (fun c2 => ?_)
  refine And.intro (fun c3 => ⟨Or.inl rfl, h0 (by omega)⟩) (fun c3 => ?_)
  have e : (I 42 1 - x).toInt = (I 42 1).toInt - x.toInt := by
    rw [Int32.toInt_sub]
    exact Int.bmod_eq_of_le (by omega) (by omega)
  refine And.intro (fun c4 => ?_) (fun c4 => ?_)
  · rw [e] at c4
    exact ⟨Or.inl rfl, h0 (by omega)⟩
  · rw [e] at c4
    exact ⟨Or.inr rfl, h1 (by omega) (by omega) (by omega)⟩
theorem sp_sum_44 (n : Nat) (hn : (I 44 1).toInt = (n : Int)) (hs : n ≤ 60) (h : Q (some (.long (smR (I 45) n))) t I L) : bm_C G l 236 [.ref 44] t I L Q := by
  have lp : ∀ d i x y, n - i = d → i ≤ n → x = nI i → y = smR (I 45) i → bm_W G l 236 4 [some (.ref 44), some (.long y), none, some (.int x)] [] t I L Q := by
    intro d
    induction d with
    | zero =>
      intro i x y hd hi hx hy
      obtain rfl : i = n := by omega
      subst hx hy
      refine bm_go (am_ok_all 236 (by decide)) 20 ?_
      refine And.intro (fun cd => h) (fun cd => ?_)
      rw [nI_toInt (by omega)] at cd
      omega
    | succ d ih =>
      intro i x y hd hi hx hy
      subst hx hy
      refine bm_go (am_ok_all 236 (by decide)) 20 ?_
      refine And.intro (fun cd => ?_) (fun cd => ?_)
      · rw [nI_toInt (by omega)] at cd
        omega
      · refine sp_item_44 (by omega) ?_
        refine ih (i + 1) _ _ (by omega) (by omega) (nI_succ i).symm ?_
        unfold itm
        rw [nI_toInt (by omega), if_pos (by omega)]
        rfl
  refine bm_go (am_ok_all 236 (by decide)) 20 ?_
  exact lp n 0 _ _ rfl (Nat.zero_le _) rfl rfl
theorem sp_holds_44 {x y : Int32} (hs : -1 ≤ (I 44 1).toInt ∧ (I 44 1).toInt ≤ 60) (h1 : 0 ≤ x.toInt → 0 ≤ y.toInt → x.toInt + y.toInt ≤ (I 44 1).toInt → Q (some (.int 1)) t I L) (h0 : (x.toInt < 0 ∨ y.toInt < 0 ∨ (I 44 1).toInt < x.toInt + y.toInt) → Q (some (.int 0)) t I L) : bm_C G l 235 [.ref 44, .int x, .int y] t I L Q := by
  refine bm_go (am_ok_all 235 (by decide)) 30 ?_
  refine And.intro (fun cd => ⟨Or.inl rfl, h0 (by omega)⟩) (fun cd => ?_)
  refine And.intro (fun c2 => ⟨Or.inl rfl, h0 (by omega)⟩) (fun c2 => ?_)
  refine And.intro (fun c3 => ⟨Or.inl rfl, h0 (by omega)⟩) (fun c3 => ?_)
  have e : (I 44 1 - x).toInt = (I 44 1).toInt - x.toInt := by
    rw [Int32.toInt_sub]
    exact Int.bmod_eq_of_le (by omega) (by omega)
  refine And.intro (fun c4 => ?_) (fun c4 => ?_)
  · rw [e] at c4
    exact ⟨Or.inl rfl, h0 (by omega)⟩
  · rw [e] at c4
    exact ⟨Or.inr rfl, h1 (by omega) (by omega) (by omega)⟩
theorem sp_sum_46 (n : Nat) (hn : (I 46 1).toInt = (n : Int)) (hs : n ≤ 60) (h : Q (some (.long (smR (I 47) n))) t I L) : bm_C G l 236 [.ref 46] t I L Q := by
  have lp : ∀ d i x y, n - i = d → i ≤ n → x = nI i → y = smR (I 47) i → bm_W G l 236 4 [some (.ref 46), some (.long y), none, some (.int x)] [] t I L Q := by
    intro d
    induction d with
    | zero =>
      intro i x y hd hi hx hy
      obtain rfl : i = n := by omega
      subst hx hy
      refine bm_go (am_ok_all 236 (by decide)) 20 ?_
      refine And.intro (fun cd => h) (fun cd => ?_)
      rw [nI_toInt (by omega)] at cd
      omega
    | succ d ih =>
      intro i x y hd hi hx hy
      subst hx hy
      refine bm_go (am_ok_all 236 (by decide)) 20 ?_
      refine And.intro (fun cd => ?_) (fun cd => ?_)
      · rw [nI_toInt (by omega)] at cd
        omega
      · refine sp_item_46 (by omega) ?_
        refine ih (i + 1) _ _ (by omega) (by omega) (nI_succ i).symm ?_
        unfold itm
        rw [nI_toInt (by omega), if_pos (by omega)]
        rfl
  refine bm_go (am_ok_all 236 (by decide)) 20 ?_
  exact lp n 0 _ _ rfl (Nat.zero_le _) rfl rfl
theorem sp_holds_46 {x y : Int32} (hs : -1 ≤ (I 46 1).toInt ∧ (I 46 1).toInt ≤ 60) (h1 : 0 ≤ x.toInt → 0 ≤ y.toInt → x.toInt + y.toInt ≤ (I 46 1).toInt → Q (some (.int 1)) t I L) (h0 : (x.toInt < 0 ∨ y.toInt < 0 ∨ (I 46 1).toInt < x.toInt + y.toInt) → Q (some (.int 0)) t I L) : bm_C G l 235 [.ref 46, .int x, .int y] t I L Q := by
  refine bm_go (am_ok_all 235 (by decide)) 30 ?_
  refine And.intro (fun cd => ⟨Or.inl rfl, h0 (by omega)⟩) (fun cd => ?_)
  refine And.intro (fun c2 => ⟨Or.inl rfl, h0 (by omega)⟩) (fun c2 => ?_)
  refine And.intro (fun c3 => ⟨Or.inl rfl, h0 (by omega)⟩) (fun c3 => ?_)
  have e : (I 46 1 - x).toInt = (I 46 1).toInt - x.toInt := by
    rw [Int32.toInt_sub]
    exact Int.bmod_eq_of_le (by omega) (by omega)
  refine And.intro (fun c4 => ?_) (fun c4 => ?_)
  · rw [e] at c4
    exact ⟨Or.inl rfl, h0 (by omega)⟩
  · rw [e] at c4
    exact ⟨Or.inr rfl, h1 (by omega) (by omega) (by omega)⟩
theorem sp_sum_48 (n : Nat) (hn : (I 48 1).toInt = (n : Int)) (hs : n ≤ 60) (h : Q (some (.long (smR (I 49) n))) t I L) : bm_C G l 236 [.ref 48] t I L Q := by
  have lp : ∀ d i x y, n - i = d → i ≤ n → x = nI i → y = smR (I 49) i → bm_W G l 236 4 [some (.ref 48), some (.long y), none, some (.int x)] [] t I L Q := by
    intro d
    induction d with
    | zero =>
      intro i x y hd hi hx hy
      obtain rfl : i = n := by omega
      subst hx hy
      refine bm_go (am_ok_all 236 (by decide)) 20 ?_
      refine And.intro (fun cd => h) (fun cd => ?_)
      rw [nI_toInt (by omega)] at cd
      omega
    | succ d ih =>
      intro i x y hd hi hx hy
      subst hx hy
      refine bm_go (am_ok_all 236 (by decide)) 20 ?_
      refine And.intro (fun cd => ?_) (fun cd => ?_)
      · rw [nI_toInt (by omega)] at cd
        omega
      · refine sp_item_48 (by omega) ?_
        refine ih (i + 1) _ _ (by omega) (by omega) (nI_succ i).symm ?_
        unfold itm
        rw [nI_toInt (by omega), if_pos (by omega)]
        rfl
  refine bm_go (am_ok_all 236 (by decide)) 20 ?_
  exact lp n 0 _ _ rfl (Nat.zero_le _) rfl rfl
theorem sp_holds_48 {x y : Int32} (hs : -1 ≤ (I 48 1).toInt ∧ (I 48 1).toInt ≤ 60) (h1 : 0 ≤ x.toInt → 0 ≤ y.toInt → x.toInt + y.toInt ≤ (I 48 1).toInt → Q (some (.int 1)) t I L) (h0 : (x.toInt < 0 ∨ y.toInt < 0 ∨ (I 48 1).toInt < x.toInt + y.toInt) → Q (some (.int 0)) t I L) : bm_C G l 235 [.ref 48, .int x, .int y] t I L Q := by
  refine bm_go (am_ok_all 235 (by decide)) 30 ?_
  refine And.intro (fun cd => ⟨Or.inl rfl, h0 (by omega)⟩) (fun cd => ?_)
  refine And.intro (fun c2 => ⟨Or.inl rfl, h0 (by omega)⟩) (fun c2 => ?_)
  refine And.intro (fun c3 => ⟨Or.inl rfl, h0 (by omega)⟩) (fun c3 => ?_)
  have e : (I 48 1 - x).toInt = (I 48 1).toInt - x.toInt := by
    rw [Int32.toInt_sub]
    exact Int.bmod_eq_of_le (by omega) (by omega)
  refine And.intro (fun c4 => ?_) (fun c4 => ?_)
  · rw [e] at c4
    exact ⟨Or.inl rfl, h0 (by omega)⟩
  · rw [e] at c4
    exact ⟨Or.inr rfl, h1 (by omega) (by omega) (by omega)⟩
theorem c6 {P : Nat → Prop} (h0 : P 0) (h1 : P 1) (h2 : P 2) (h3 : P 3) (h4 : P 4) (h5 : P 5) {k : Nat} (hk : k < 6) : P k := by
  match k, hk with
  | 0, _ => exact h0
  | 1, _ => exact h1
  | 2, _ => exact h2
  | 3, _ => exact h3
  | 4, _ => exact h4
  | 5, _ => exact h5
theorem sp_sum (k : Nat) (hk : k < 6) (n : Nat) (hn : (I (38 + 2 * k) 1).toInt = (n : Int)) (hs : n ≤ 60) (h : Q (some (.long (smR (I (39 + 2 * k)) n))) t I L) : bm_C G l 236 [.ref (38 + 2 * k)] t I L Q :=
  c6 (P := fun k => (I (38 + 2 * k) 1).toInt = (n : Int) → Q (some (.long (smR (I (39 + 2 * k)) n))) t I L → bm_C G l 236 [.ref (38 + 2 * k)] t I L Q) (fun a => sp_sum_38 n a hs) (fun a => sp_sum_40 n a hs) (fun a => sp_sum_42 n a hs) (fun a => sp_sum_44 n a hs) (fun a => sp_sum_46 n a hs) (fun a => sp_sum_48 n a hs) hk hn h
theorem sp_holds {x y : Int32} (k : Nat) (hk : k < 6) (hs : -1 ≤ (I (38 + 2 * k) 1).toInt ∧ (I (38 + 2 * k) 1).toInt ≤ 60) (h1 : 0 ≤ x.toInt → 0 ≤ y.toInt → x.toInt + y.toInt ≤ (I (38 + 2 * k) 1).toInt → Q (some (.int 1)) t I L) (h0 : (x.toInt < 0 ∨ y.toInt < 0 ∨ (I (38 + 2 * k) 1).toInt < x.toInt + y.toInt) → Q (some (.int 0)) t I L) : bm_C G l 235 [.ref (38 + 2 * k), .int x, .int y] t I L Q :=
  c6 (P := fun k => (-1 ≤ (I (38 + 2 * k) 1).toInt ∧ (I (38 + 2 * k) 1).toInt ≤ 60) → (0 ≤ x.toInt → 0 ≤ y.toInt → x.toInt + y.toInt ≤ (I (38 + 2 * k) 1).toInt → Q (some (.int 1)) t I L) → ((x.toInt < 0 ∨ y.toInt < 0 ∨ (I (38 + 2 * k) 1).toInt < x.toInt + y.toInt) → Q (some (.int 0)) t I L) → bm_C G l 235 [.ref (38 + 2 * k), .int x, .int y] t I L Q) sp_holds_38 sp_holds_40 sp_holds_42 sp_holds_44 sp_holds_46 sp_holds_48 hk hs h1 h0
theorem ne64 {x : Int32} (h : ¬ x.toInt = 0) : ¬ x.toInt64 = 0 := by
  intro e
  have := congrArg Int64.toInt e
  rw [i64] at this
  exact h this
theorem sp_mean {x : Int32} (hs : ∀ k, k < 6 → (I (38 + 2 * k) 1).toInt ≤ 60) (hbad : (x.toInt < 0 ∨ 6 ≤ x.toInt) → Q (some (.int (-1))) t I L) (h1 : ∀ k, k < 6 → x = nI k → (I (38 + 2 * k) 1).toInt < 0 → Q (some (.int (-3))) t (am_u (am_u I 36 3 1) 37 1 (I 37 1 + 1)) L) (h2 : ∀ k, k < 6 → x = nI k → (I (38 + 2 * k) 1).toInt = 0 → Q (some (.int (-3))) t (am_u (am_u I 36 3 4) 37 4 (I 37 4 + 1)) L)
    (h0 : ∀ k n, k < 6 → x = nI k → (I (38 + 2 * k) 1).toInt = ((n : Nat) : Int) → 0 < n → Q (some (.int 1)) t (am_u I 36 0 (smR (I (39 + 2 * k)) n / (I (38 + 2 * k) 1).toInt64).toInt32) L) : bm_C G l 6 [.ref 0, .int x] t I L Q := by
  refine bm_go (am_ok_all 6 (by decide)) 50 ?_
  refine sp_picked_r x (fun cd => ?_) (fun k hk hx => ?_)
  · refine sp_refNull ?_
    exact hbad cd
  match k, hk with
  | 0, _ =>
    refine sp_ref 0 (by decide) (fun cd => ?_) (fun c1 => ?_)
    · first | refine And.intro (fun cd => absurd cd (by decide)) (fun _ => ?_) | refine And.intro (fun _ => ?_) (fun cd => absurd cd (by decide)) | refine And.intro (fun cd => ?_) (fun cd => ?_)
      exact h1 0 (by decide) hx cd
    · first | refine And.intro (fun cd => absurd cd (by decide)) (fun _ => ?_) | refine And.intro (fun _ => ?_) (fun cd => absurd cd (by decide)) | refine And.intro (fun cd => ?_) (fun cd => ?_)
      refine And.intro (fun cd => ?_) (fun cd => ?_)
      · have hs := hs 0 (by decide)
        refine sp_sum 0 (by decide) (I (38 + 2 * 0) 1).toInt.toNat (by omega) (by omega) ?_
        refine ⟨ne64 cd, ?_⟩
        refine sp_besides ?_
        have cd : ¬ (I (38 + 2 * 0) 1).toInt = 0 := cd
        exact h0 0 _ (by decide) hx (by omega) (by omega)
      · refine sp_found 4 rfl (by decide) ?_
        exact h2 0 (by decide) hx cd
  | 1, _ =>
    refine sp_ref 1 (by decide) (fun cd => ?_) (fun c1 => ?_)
    · first | refine And.intro (fun cd => absurd cd (by decide)) (fun _ => ?_) | refine And.intro (fun _ => ?_) (fun cd => absurd cd (by decide)) | refine And.intro (fun cd => ?_) (fun cd => ?_)
      exact h1 1 (by decide) hx cd
    · first | refine And.intro (fun cd => absurd cd (by decide)) (fun _ => ?_) | refine And.intro (fun _ => ?_) (fun cd => absurd cd (by decide)) | refine And.intro (fun cd => ?_) (fun cd => ?_)
      refine And.intro (fun cd => ?_) (fun cd => ?_)
      · have hs := hs 1 (by decide)
        refine sp_sum 1 (by decide) (I (38 + 2 * 1) 1).toInt.toNat (by omega) (by omega) ?_
        refine ⟨ne64 cd, ?_⟩
        refine sp_besides ?_
        have cd : ¬ (I (38 + 2 * 1) 1).toInt = 0 := cd
        exact h0 1 _ (by decide) hx (by omega) (by omega)
      · refine sp_found 4 rfl (by decide) ?_
        exact h2 1 (by decide) hx cd
  | 2, _ =>
    refine sp_ref 2 (by decide) (fun cd => ?_) (fun c1 => ?_)
    · first | refine And.intro (fun cd => absurd cd (by decide)) (fun _ => ?_) | refine And.intro (fun _ => ?_) (fun cd => absurd cd (by decide)) | refine And.intro (fun cd => ?_) (fun cd => ?_)
      exact h1 2 (by decide) hx cd
    · first | refine And.intro (fun cd => absurd cd (by decide)) (fun _ => ?_) | refine And.intro (fun _ => ?_) (fun cd => absurd cd (by decide)) | refine And.intro (fun cd => ?_) (fun cd => ?_)
      refine And.intro (fun cd => ?_) (fun cd => ?_)
      · have hs := hs 2 (by decide)
        refine sp_sum 2 (by decide) (I (38 + 2 * 2) 1).toInt.toNat (by omega) (by omega) ?_
        refine ⟨ne64 cd, ?_⟩
        refine sp_besides ?_
        have cd : ¬ (I (38 + 2 * 2) 1).toInt = 0 := cd
        exact h0 2 _ (by decide) hx (by omega) (by omega)
      · refine sp_found 4 rfl (by decide) ?_
        exact h2 2 (by decide) hx cd
  | 3, _ =>
    refine sp_ref 3 (by decide) (fun cd => ?_) (fun c1 => ?_)
    · first | refine And.intro (fun cd => absurd cd (by decide)) (fun _ => ?_) | refine And.intro (fun _ => ?_) (fun cd => absurd cd (by decide)) | refine And.intro (fun cd => ?_) (fun cd => ?_)
      exact h1 3 (by decide) hx cd
    · first | refine And.intro (fun cd => absurd cd (by decide)) (fun _ => ?_) | refine And.intro (fun _ => ?_) (fun cd => absurd cd (by decide)) | refine And.intro (fun cd => ?_) (fun cd => ?_)
      refine And.intro (fun cd => ?_) (fun cd => ?_)
      · have hs := hs 3 (by decide)
        refine sp_sum 3 (by decide) (I (38 + 2 * 3) 1).toInt.toNat (by omega) (by omega) ?_
        refine ⟨ne64 cd, ?_⟩
        refine sp_besides ?_
        have cd : ¬ (I (38 + 2 * 3) 1).toInt = 0 := cd
        exact h0 3 _ (by decide) hx (by omega) (by omega)
      · refine sp_found 4 rfl (by decide) ?_
        exact h2 3 (by decide) hx cd
  | 4, _ =>
    refine sp_ref 4 (by decide) (fun cd => ?_) (fun c1 => ?_)
    · first | refine And.intro (fun cd => absurd cd (by decide)) (fun _ => ?_) | refine And.intro (fun _ => ?_) (fun cd => absurd cd (by decide)) | refine And.intro (fun cd => ?_) (fun cd => ?_)
      exact h1 4 (by decide) hx cd
    · first | refine And.intro (fun cd => absurd cd (by decide)) (fun _ => ?_) | refine And.intro (fun _ => ?_) (fun cd => absurd cd (by decide)) | refine And.intro (fun cd => ?_) (fun cd => ?_)
      refine And.intro (fun cd => ?_) (fun cd => ?_)
      · have hs := hs 4 (by decide)
        refine sp_sum 4 (by decide) (I (38 + 2 * 4) 1).toInt.toNat (by omega) (by omega) ?_
        refine ⟨ne64 cd, ?_⟩
        refine sp_besides ?_
        have cd : ¬ (I (38 + 2 * 4) 1).toInt = 0 := cd
        exact h0 4 _ (by decide) hx (by omega) (by omega)
      · refine sp_found 4 rfl (by decide) ?_
        exact h2 4 (by decide) hx cd
  | 5, _ =>
    refine sp_ref 5 (by decide) (fun cd => ?_) (fun c1 => ?_)
    · first | refine And.intro (fun cd => absurd cd (by decide)) (fun _ => ?_) | refine And.intro (fun _ => ?_) (fun cd => absurd cd (by decide)) | refine And.intro (fun cd => ?_) (fun cd => ?_)
      exact h1 5 (by decide) hx cd
    · first | refine And.intro (fun cd => absurd cd (by decide)) (fun _ => ?_) | refine And.intro (fun _ => ?_) (fun cd => absurd cd (by decide)) | refine And.intro (fun cd => ?_) (fun cd => ?_)
      refine And.intro (fun cd => ?_) (fun cd => ?_)
      · have hs := hs 5 (by decide)
        refine sp_sum 5 (by decide) (I (38 + 2 * 5) 1).toInt.toNat (by omega) (by omega) ?_
        refine ⟨ne64 cd, ?_⟩
        refine sp_besides ?_
        have cd : ¬ (I (38 + 2 * 5) 1).toInt = 0 := cd
        exact h0 5 _ (by decide) hx (by omega) (by omega)
      · refine sp_found 4 rfl (by decide) ?_
        exact h2 5 (by decide) hx cd
theorem sm_mean {x : Int32} (hs : ∀ k, k < 6 → -1 ≤ (I 63 k).toInt ∧ (I 63 k).toInt ≤ 60) (hbad : (x.toInt < 0 ∨ 6 ≤ x.toInt) → Q (some (.int (-1))) t I L) (h1 : ∀ k, k < 6 → x = nI k → (I 63 k).toInt < 0 → Q (some (.int (-3))) t (am_u (am_u I 61 3 1) 62 1 (I 62 1 + 1)) L) (h2 : ∀ k, k < 6 → x = nI k → (I 63 k).toInt = 0 → Q (some (.int (-3))) t (am_u (am_u I 61 3 4) 62 4 (I 62 4 + 1)) L)
    (h0 : ∀ k n, k < 6 → x = nI k → (I 63 k).toInt = ((n : Nat) : Int) → 0 < n → Q (some (.int 1)) t (am_u I 61 0 (smR (fun j => I 64 (rb k + j)) n / (I 63 k).toInt64).toInt32) L) : bm_C G l 79 [.ref 61, .int x] t I L Q := by
  refine bm_go (am_ok_all 79 (by decide)) 40 ?_
  refine sm_isRow (fun a b => ?_) (fun a => ?_)
  · first | refine And.intro (fun cd => absurd cd (by decide)) (fun _ => ?_) | refine And.intro (fun _ => ?_) (fun cd => absurd cd (by decide)) | refine And.intro (fun cd => ?_) (fun cd => ?_)
    have hx := of_nn a
    have hk : x.toInt.toNat < 6 := by omega
    have hix : x.toInt = (x.toInt.toNat : Int) := by omega
    generalize x.toInt.toNat = k at hx hk hix
    obtain ⟨s1, s2⟩ := hs k hk
    refine ⟨k, hix, (by omega : k < 10), ?_⟩
    refine And.intro (fun cd => ?_) (fun cd => ?_)
    · rw [T1] at cd
      generalize hn : (I 63 k).toInt.toNat = n
      have hn2 : (I 63 k).toInt = (n : Int) := by omega
      have hrb := rb_le (k := k) (by omega)
      have hcp : cp k = 60 := if_pos hk
      have lp : ∀ d i z y, n - i = d → i ≤ n → z = nI i → y = smR (fun j => I 64 (rb k + j)) i → bm_W G l 79 43 [some (.ref 61), some (.int x), some (.long y), none, some (.int z)] [] t I L Q := by
        intro d
        induction d with
        | zero =>
          intro i z y hd hi hz hy
          obtain rfl : i = n := by omega
          subst hz hy
          refine bm_go (am_ok_all 79 (by decide)) 40 ?_
          refine ⟨k, hix, (by omega : k < 10), ?_⟩
          refine And.intro (fun c2 => ?_) (fun c2 => ?_)
          · refine ⟨k, hix, (by omega : k < 10), ?_⟩
            refine ⟨ne64 (by omega), ?_⟩
            refine sm_tells ?_
            exact h0 k _ hk hx hn2 (by omega)
          · rw [nI_toInt (by omega)] at c2
            omega
        | succ d ih =>
          intro i z y hd hi hz hy
          subst hz hy
          refine bm_go (am_ok_all 79 (by decide)) 40 ?_
          refine ⟨k, hix, (by omega : k < 10), ?_⟩
          refine And.intro (fun c2 => ?_) (fun c2 => ?_)
          · rw [nI_toInt (by omega)] at c2
            omega
          · refine sm_base k hx (by omega) ?_
            refine ⟨rb k + i, by rw [nI_add]; exact nI_toInt (by omega), (by omega : rb k + i < 680), ?_⟩
            exact ih (i + 1) _ _ (by omega) (by omega) (nI_succ i).symm rfl
      exact lp n 0 _ _ rfl (Nat.zero_le _) rfl rfl
    · rw [T1] at cd
      refine ⟨k, hix, (by omega : k < 10), ?_⟩
      refine And.intro (fun c2 => ?_) (fun c2 => ?_)
      · exact sm_finds 4 rfl (by decide) (h2 k hk hx (by omega))
      · exact sm_finds 1 rfl (by decide) (h1 k hk hx (by omega))
  · first | refine And.intro (fun cd => absurd cd (by decide)) (fun _ => ?_) | refine And.intro (fun _ => ?_) (fun cd => absurd cd (by decide)) | refine And.intro (fun cd => ?_) (fun cd => ?_)
    exact hbad (by omega)
theorem pair_mean {x : Int32} (h : Inv t I L) : bm_C G l 6 [.ref 0, .int x] t I L (pI G l 79 [.ref 61, .int x]) := by
  have hb := fun k hk => h.1.b6 (k := k) hk
  have eK : ∀ k, k < 6 → x = nI k → ∀ k2, k2 < 6 → x = nI k2 → k2 = k := fun k hk hx k2 hk2 hx2 => by
    have h1 := nI_toInt (n := k2) (by omega)
    have h2 := nI_toInt (n := k) (by omega)
    rw [← hx2, hx] at h1
    omega
  refine sp_mean (fun k hk => by rw [(hb k hk).1]; exact (hb k hk).2.2) (fun cd => ?_) (fun k hk hx cd => ?_) (fun k hk hx c1 => ?_) (fun k n hk hx c1 c2 => ?_)
  · refine ⟨_, rfl, sm_mean (fun k hk => (hb k hk).2) (fun c => ⟨rfl, h⟩) (fun k hk hx c => ?_) (fun k hk hx c1 => ?_) (fun k n hk hx c1 c2 => ?_)⟩
    all_goals (have := nI_toInt (n := k) (by omega); rw [hx] at cd; omega)
  · have hk6 := nI_toInt (n := k) (by omega)
    rw [(hb k hk).1] at cd
    refine ⟨_, rfl, sm_mean (fun k hk => ?_) (fun c => ?_) (fun k2 hk2 hx2 c => ?_) (fun k2 hk2 hx2 c1 => ?_) (fun k2 n hk2 hx2 c1 c2 => ?_)⟩
    · rw [fd (by decide) (by decide)]; exact (hb k hk).2
    · rw [hx] at c; omega
    · exact ⟨rfl, h.find (by decide) (by decide) 1⟩
    · obtain rfl := eK k hk hx k2 hk2 hx2
      rw [fd (by decide) (by decide)] at c1
      omega
    · obtain rfl := eK k hk hx k2 hk2 hx2
      rw [fd (by decide) (by decide)] at c1
      omega
  · have hk6 := nI_toInt (n := k) (by omega)
    rw [(hb k hk).1] at c1
    refine ⟨_, rfl, sm_mean (fun k hk => ?_) (fun c => ?_) (fun k2 hk2 hx2 c => ?_) (fun k2 hk2 hx2 c3 => ?_) (fun k2 n hk2 hx2 c3 c4 => ?_)⟩
    · rw [fd (by decide) (by decide)]; exact (hb k hk).2
    · rw [hx] at c; omega
    · obtain rfl := eK k hk hx k2 hk2 hx2
      rw [fd (by decide) (by decide)] at c
      omega
    · exact ⟨rfl, h.find (by decide) (by decide) 4⟩
    · obtain rfl := eK k hk hx k2 hk2 hx2
      rw [fd (by decide) (by decide)] at c3
      omega
  · have hk6 := nI_toInt (n := k) (by omega)
    have e1 := (hb k hk).1
    rw [e1] at c1 ⊢
    have e63 : ∀ v, (am_u I 36 0 v) 63 = I 63 := fun v => by rw [u_ne (by decide)]
    have e64 : ∀ v, (am_u I 36 0 v) 64 = I 64 := fun v => by rw [u_ne (by decide)]
    refine ⟨_, rfl, sm_mean (fun k hk => ?_) (fun c => ?_) (fun k2 hk2 hx2 c => ?_) (fun k2 hk2 hx2 c3 => ?_) (fun k2 n2 hk2 hx2 c3 c4 => ?_)⟩
    · rw [e63]; exact (hb k hk).2
    · rw [hx] at c; omega
    · obtain rfl := eK k hk hx k2 hk2 hx2
      rw [e63] at c
      omega
    · obtain rfl := eK k hk hx k2 hk2 hx2
      rw [e63] at c3
      omega
    · obtain rfl := eK k hk hx k2 hk2 hx2
      rw [e63] at c3 ⊢
      rw [e64]
      obtain rfl : n = n2 := by omega
      refine ⟨rfl, ?_⟩
      rw [smR_cong (r := fun j => I 64 (rb k2 + j)) (r' := I (39 + 2 * k2)) n (fun i hi => ((h.1 k2 (by omega)).2.2.2.1 i (by omega)).symm)]
      exact h.tell _
end PC

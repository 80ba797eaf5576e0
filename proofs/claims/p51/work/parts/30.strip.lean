/-! the class: what is told, rows and texts -/
section ST
variable {G : am_G} {l : Launch} {t : am_T} {I : am_I} {L : am_J} {Q : bm_P}
theorem sp_besides {v a : Int32} (h : Q (some (.int a)) t (am_u I 36 0 v) L) : bm_C G l 240 [.ref 36, .int v, .int a] t I L Q := by
  refine bm_go (am_ok_all 240 (by decide)) 20 ?_
  exact h
theorem sp_found {x : Int32} (f : Nat) (hx : x = nI f) (hf : f < 8) (h : Q (some (.int (-3))) t (am_u (am_u I 36 3 x) 37 f (I 37 f + 1)) L) : bm_C G l 241 [.ref 36, .int x] t I L Q := by
  have e : (x &&& 7).toInt = (f : Int) := by rw [hx]; exact and7 hf
  refine bm_go (am_ok_all 241 (by decide)) 20 ?_
  refine ⟨f, e, hf, f, e, hf, ?_⟩
  rw [u_ne (show 37 ≠ 36 by decide)]
  exact h
theorem sp_mixed {h' : Int64} {v : Int32} (h : Q (some (.long (31 * h' + v.toInt64))) t I L) : bm_C G l 49 [.long h', .int v] t I L Q := by
  refine bm_go (am_ok_all 49 (by decide)) 20 ?_
  exact h
/-- what stands at a place of a row of size s; END -/
def itm (s : Int32) (r : Nat → Int32) (x : Int32) : Int32 := if 0 ≤ x.toInt ∧ x.toInt < s.toInt then r x.toInt.toNat else 1000
theorem sp_item_38 {x : Int32} (hs : (I 38 1).toInt ≤ 60) (h : Q (some (.int (itm (I 38 1) (I 39) x))) t I L) : bm_C G l 233 [.ref 38, .int x] t I L Q := by
  unfold itm at h
  have e : (Int32.ofNat 60).toInt = 60 := rfl
  refine bm_go (am_ok_all 233 (by decide)) 20 ?_
  refine And.intro (fun cd => ?_) (fun cd => ?_)
  · rw [if_neg (by omega)] at h
    exact h
  · refine And.intro (fun cd => ?_) (fun cd => ?_)
    · rw [if_neg (by omega)] at h
      exact h
    · refine And.intro (fun cd => ?_) (fun cd => ?_)
      · have cd : (Int32.ofNat 60).toInt ≤ x.toInt := cd
        omega
      · rw [if_pos (by omega)] at h
        exact ⟨x.toInt.toNat, by omega, (by omega : x.toInt.toNat < 60), h⟩
theorem sp_change_38 {x v : Int32} (hs : (I 38 1).toInt ≤ 60) (h1 : 0 ≤ x.toInt → x.toInt < (I 38 1).toInt → Q none t (am_u I 39 x.toInt.toNat v) L) (h0 : (x.toInt < 0 ∨ (I 38 1).toInt ≤ x.toInt) → Q none t I L) : bm_C G l 234 [.ref 38, .int x, .int v] t I L Q := by
  have e : (Int32.ofNat 60).toInt = 60 := rfl
  refine bm_go (am_ok_all 234 (by decide)) 20 ?_
  refine And.intro (fun cd => h0 (by omega)) (fun cd => ?_)
  refine And.intro (fun cd => h0 (by omega)) (fun cd => ?_)
  refine And.intro (fun cd => ?_) (fun cd => ?_)
  · have cd : (Int32.ofNat 60).toInt ≤ x.toInt := cd
    omega
  · exact ⟨x.toInt.toNat, by omega, (by omega : x.toInt.toNat < 60), h1 (by omega) (by omega)⟩
theorem sp_renew_38 {x v : Int32} (hx : x.toInt ≤ 60) (h : Q none t (am_f (am_u I 38 1 x) 39 60 v) L) : bm_C G l 232 [.ref 38, .int x, .int v] t I L Q := by
  refine bm_go (am_ok_all 232 (by decide)) 20 ?_
  intro z hz
  have e : z = x := by
    apply Int32.toInt_inj.mp
    rw [hz]
    have e : (Int32.ofNat 60).toInt = 60 := rfl
    have : (Int32.ofNat (am_SH 39).2).toInt = 60 := e
    omega
  subst e
  exact sp_fill_39 h
/-- the digest of a row's places from i on -/
theorem sp_digested_38 {h' : Int64} (n : Nat) (hn : (I 38 1).toInt = (n : Int) ∨ ((I 38 1).toInt = -1 ∧ n = 0)) (hs : n ≤ 60) (h : Q (some (.long ((List.range n).foldl (fun h j => 31 * h + (I 39 j).toInt64) (31 * h' + (I 38 1).toInt64)))) t I L) : bm_C G l 238 [.ref 38, .long h'] t I L Q := by
  have lp : ∀ d i x y, n - i = d → i ≤ n → x = nI i → y = (List.range i).foldl (fun h j => 31 * h + (I 39 j).toInt64) (31 * h' + (I 38 1).toInt64) → bm_W G l 238 12 [some (.ref 38), some (.long h'), none, some (.long y), none, some (.int x)] [] t I L Q := by
    intro d
    induction d with
    | zero =>
      intro i x y hd hi hx hy
      obtain rfl : i = n := by omega
      subst hx hy
      refine bm_go (am_ok_all 238 (by decide)) 20 ?_
      refine And.intro (fun cd => h) (fun cd => ?_)
      rw [nI_toInt (by omega)] at cd
      omega
    | succ d ih =>
      intro i x y hd hi hx hy
      subst hx hy
      refine bm_go (am_ok_all 238 (by decide)) 20 ?_
      refine And.intro (fun cd => ?_) (fun cd => ?_)
      · rw [nI_toInt (by omega)] at cd
        omega
      · refine sp_item_38 (by omega) ?_
        refine sp_mixed ?_
        refine ih (i + 1) _ _ (by omega) (by omega) (nI_succ i).symm ?_
        rw [List.range_succ, List.foldl_append]
        simp only [List.foldl_cons, List.foldl_nil]
        congr 3
        unfold itm
        rw [nI_toInt (by omega), if_pos (by omega)]
        rfl
  refine bm_go (am_ok_all 238 (by decide)) 20 ?_
  refine sp_mixed ?_
  exact lp n 0 _ _ rfl (Nat.zero_le _) rfl rfl
theorem sp_item_40 {x : Int32} (hs : (I 40 1).toInt ≤ 60) (h : Q (some (.int (itm (I 40 1) (I 41) x))) t I L) : bm_C G l 233 [.ref 40, .int x] t I L Q := by
  unfold itm at h
  have e : (Int32.ofNat 60).toInt = 60 := rfl
  refine bm_go (am_ok_all 233 (by decide)) 20 ?_
  refine And.intro (fun cd => ?_) (fun cd => ?_)
  · rw [if_neg (by omega)] at h
    exact h
  · refine And.intro (fun cd => ?_) (fun cd => ?_)
    · rw [if_neg (by omega)] at h
      exact h
    · refine And.intro (fun cd => ?_) (fun cd => ?_)
      · have cd : (Int32.ofNat 60).toInt ≤ x.toInt := cd
        omega
      · rw [if_pos (by omega)] at h
        exact ⟨x.toInt.toNat, by omega, (by omega : x.toInt.toNat < 60), h⟩
theorem sp_change_40 {x v : Int32} (hs : (I 40 1).toInt ≤ 60) (h1 : 0 ≤ x.toInt → x.toInt < (I 40 1).toInt → Q none t (am_u I 41 x.toInt.toNat v) L) (h0 : (x.toInt < 0 ∨ (I 40 1).toInt ≤ x.toInt) → Q none t I L) : bm_C G l 234 [.ref 40, .int x, .int v] t I L Q := by
  have e : (Int32.ofNat 60).toInt = 60 := rfl
  refine bm_go (am_ok_all 234 (by decide)) 20 ?_
  refine And.intro (fun cd => h0 (by omega)) (fun cd => ?_)
  refine And.intro (fun cd => h0 (by omega)) (fun cd => ?_)
  refine And.intro (fun cd => ?_) (fun cd => ?_)
  · have cd : (Int32.ofNat 60).toInt ≤ x.toInt := cd
    omega
  · exact ⟨x.toInt.toNat, by omega, (by omega : x.toInt.toNat < 60), h1 (by omega) (by omega)⟩
theorem sp_renew_40 {x v : Int32} (hx : x.toInt ≤ 60) (h : Q none t (am_f (am_u I 40 1 x) 41 60 v) L) : bm_C G l 232 [.ref 40, .int x, .int v] t I L Q := by
  refine bm_go (am_ok_all 232 (by decide)) 20 ?_
  intro z hz
  have e : z = x := by
    apply Int32.toInt_inj.mp
    rw [hz]
    have e : (Int32.ofNat 60).toInt = 60 := rfl
    have : (Int32.ofNat (am_SH 41).2).toInt = 60 := e
    omega
  subst e
  exact sp_fill_41 h
/-- the digest of a row's places from i on -/
theorem sp_digested_40 {h' : Int64} (n : Nat) (hn : (I 40 1).toInt = (n : Int) ∨ ((I 40 1).toInt = -1 ∧ n = 0)) (hs : n ≤ 60) (h : Q (some (.long ((List.range n).foldl (fun h j => 31 * h + (I 41 j).toInt64) (31 * h' + (I 40 1).toInt64)))) t I L) : bm_C G l 238 [.ref 40, .long h'] t I L Q := by
  have lp : ∀ d i x y, n - i = d → i ≤ n → x = nI i → y = (List.range i).foldl (fun h j => 31 * h + (I 41 j).toInt64) (31 * h' + (I 40 1).toInt64) → bm_W G l 238 12 [some (.ref 40), some (.long h'), none, some (.long y), none, some (.int x)] [] t I L Q := by
    intro d
    induction d with
    | zero =>
      intro i x y hd hi hx hy
      obtain rfl : i = n := by omega
      subst hx hy
      refine bm_go (am_ok_all 238 (by decide)) 20 ?_
      refine And.intro (fun cd => h) (fun cd => ?_)
      rw [nI_toInt (by omega)] at cd
      omega
    | succ d ih =>
      intro i x y hd hi hx hy
      subst hx hy
      refine bm_go (am_ok_all 238 (by decide)) 20 ?_
      refine And.intro (fun cd => ?_) (fun cd => ?_)
      · rw [nI_toInt (by omega)] at cd
        omega
      · refine sp_item_40 (by omega) ?_
        refine sp_mixed ?_
        refine ih (i + 1) _ _ (by omega) (by omega) (nI_succ i).symm ?_
        rw [List.range_succ, List.foldl_append]
        simp only [List.foldl_cons, List.foldl_nil]
        congr 3
        unfold itm
        rw [nI_toInt (by omega), if_pos (by omega)]
        rfl
  refine bm_go (am_ok_all 238 (by decide)) 20 ?_
  refine sp_mixed ?_
  exact lp n 0 _ _ rfl (Nat.zero_le _) rfl rfl
theorem sp_item_42 {x : Int32} (hs : (I 42 1).toInt ≤ 60) (h : Q (some (.int (itm (I 42 1) (I 43) x))) t I L) : bm_C G l 233 [.ref 42, .int x] t I L Q := by
  unfold itm at h
  have e : (Int32.ofNat 60).toInt = 60 := rfl
  refine bm_go (am_ok_all 233 (by decide)) 20 ?_
  refine And.intro (fun cd => ?_) (fun cd => ?_)
  · rw [if_neg (by omega)] at h
    exact h
  · refine And.intro (fun cd => ?_) (fun cd => ?_)
    · rw [if_neg (by omega)] at h
      exact h
    · refine And.intro (fun cd => ?_) (fun cd => ?_)
      · have cd : (Int32.ofNat 60).toInt ≤ x.toInt := cd
        omega
      · rw [if_pos (by omega)] at h
        exact ⟨x.toInt.toNat, by omega, (by omega : x.toInt.toNat < 60), h⟩
theorem sp_change_42 {x v : Int32} (hs : (I 42 1).toInt ≤ 60) (h1 : 0 ≤ x.toInt → x.toInt < (I 42 1).toInt → Q none t (am_u I 43 x.toInt.toNat v) L) (h0 : (x.toInt < 0 ∨ (I 42 1).toInt ≤ x.toInt) → Q none t I L) : bm_C G l 234 [.ref 42, .int x, .int v] t I L Q := by
  have e : (Int32.ofNat 60).toInt = 60 := rfl
  refine bm_go (am_ok_all 234 (by decide)) 20 ?_
  refine And.intro (fun cd => h0 (by omega)) (fun cd => ?_)
  refine And.intro (fun cd => h0 (by omega)) (fun cd => ?_)
  refine And.intro (fun cd => ?_) (fun cd => ?_)
  · have cd : (Int32.ofNat 60).toInt ≤ x.toInt := cd
    omega
  · exact ⟨x.toInt.toNat, by omega, (by omega : x.toInt.toNat < 60), h1 (by omega) (by omega)⟩
theorem sp_renew_42 {x v : Int32} (hx : x.toInt ≤ 60) (h : Q none t (am_f (am_u I 42 1 x) 43 60 v) L) : bm_C G l 232 [.ref 42, .int x, .int v] t I L Q := by
  refine bm_go (am_ok_all 232 (by decide)) 20 ?_
  intro z hz
  have e : z = x := by
    apply Int32.toInt_inj.mp
    rw [hz]
    have e : (Int32.ofNat 60).toInt = 60 := rfl
    have : (Int32.ofNat (am_SH 43).2).toInt = 60 := e
    omega
  subst e
  exact sp_fill_43 h
/-- the digest of a row's places from i on -/
theorem sp_digested_42 {h' : Int64} (n : Nat) (hn : (I 42 1).toInt = (n : Int) ∨ ((I 42 1).toInt = -1 ∧ n = 0)) (hs : n ≤ 60) (h : Q (some (.long ((List.range n).foldl (fun h j => 31 * h + (I 43 j).toInt64) (31 * h' + (I 42 1).toInt64)))) t I L) : bm_C G l 238 [.ref 42, .long h'] t I L Q := by
  have lp : ∀ d i x y, n - i = d → i ≤ n → x = nI i → y = (List.range i).foldl (fun h j => 31 * h + (I 43 j).toInt64) (31 * h' + (I 42 1).toInt64) → bm_W G l 238 12 [some (.ref 42), some (.long h'), none, some (.long y), none, some (.int x)] [] t I L Q := by
    intro d
    induction d with
    | zero =>
      intro i x y hd hi hx hy
      obtain rfl : i = n := by omega
      subst hx hy
      refine bm_go (am_ok_all 238 (by decide)) 20 ?_
      refine And.intro (fun cd => h) (fun cd => ?_)
      rw [nI_toInt (by omega)] at cd
      omega
    | succ d ih =>
      intro i x y hd hi hx hy
      subst hx hy
      refine bm_go (am_ok_all 238 (by decide)) 20 ?_
      refine And.intro (fun cd => ?_) (fun cd => ?_)
      · rw [nI_toInt (by omega)] at cd
        omega
      · refine sp_item_42 (by omega) ?_
        refine sp_mixed ?_
        refine ih (i + 1) _ _ (by omega) (by omega) (nI_succ i).symm ?_
        rw [List.range_succ, List.foldl_append]
        simp only [List.foldl_cons, List.foldl_nil]
        congr 3
        unfold itm
        rw [nI_toInt (by omega), if_pos (by omega)]
        rfl
  refine bm_go (am_ok_all 238 (by decide)) 20 ?_
  refine sp_mixed ?_
  exact lp n 0 _ _ rfl (Nat.zero_le _) rfl rfl
theorem sp_item_44 {x : Int32} (hs : (I 44 1).toInt ≤ 60) (h : Q (some (.int (itm (I 44 1) (I 45) x))) t I L) : bm_C G l 233 [.ref 44, .int x] t I L Q := by
  unfold itm at h
  have e : (Int32.ofNat 60).toInt = 60 := rfl
  refine bm_go (am_ok_all 233 (by decide)) 20 ?_
  refine And.intro (fun cd => ?_) (fun cd => ?_)
  · rw [if_neg (by omega)] at h
    exact h
  · refine And.intro (fun cd => ?_) (fun cd => ?_)
    · rw [if_neg (by omega)] at h
      exact h
    · refine And.intro (fun cd => ?_) (fun cd => ?_)
      · have cd : (Int32.ofNat 60).toInt ≤ x.toInt := cd
        omega
      · rw [if_pos (by omega)] at h
        exact ⟨x.toInt.toNat, by omega, (by omega : x.toInt.toNat < 60), h⟩
theorem sp_change_44 {x v : Int32} (hs : (I 44 1).toInt ≤ 60) (h1 : 0 ≤ x.toInt → x.toInt < (I 44 1).toInt → Q none t (am_u I 45 x.toInt.toNat v) L) (h0 : (x.toInt < 0 ∨ (I 44 1).toInt ≤ x.toInt) → Q none t I L) : bm_C G l 234 [.ref 44, .int x, .int v] t I L Q := by
  have e : (Int32.ofNat 60).toInt = 60 := rfl
  refine bm_go (am_ok_all 234 (by decide)) 20 ?_
  refine And.intro (fun cd => h0 (by omega)) (fun cd => ?_)
  refine And.intro (fun cd => h0 (by omega)) (fun cd => ?_)
  refine And.intro (fun cd => ?_) (fun cd => ?_)
  · have cd : (Int32.ofNat 60).toInt ≤ x.toInt := cd
    omega
  · exact ⟨x.toInt.toNat, by omega, (by omega : x.toInt.toNat < 60), h1 (by omega) (by omega)⟩
theorem sp_renew_44 {x v : Int32} (hx : x.toInt ≤ 60) (h : Q none t (am_f (am_u I 44 1 x) 45 60 v) L) : bm_C G l 232 [.ref 44, .int x, .int v] t I L Q := by
  refine bm_go (am_ok_all 232 (by decide)) 20 ?_
  intro z hz
  have e : z = x := by
    apply Int32.toInt_inj.mp
    rw [hz]
    have e : (Int32.ofNat 60).toInt = 60 := rfl
    have : (Int32.ofNat (am_SH 45).2).toInt = 60 := e
    omega
  subst e
  exact sp_fill_45 h
/-- the digest of a row's places from i on -/
theorem sp_digested_44 {h' : Int64} (n : Nat) (hn : (I 44 1).toInt = (n : Int) ∨ ((I 44 1).toInt = -1 ∧ n = 0)) (hs : n ≤ 60) (h : Q (some (.long ((List.range n).foldl (fun h j => 31 * h + (I 45 j).toInt64) (31 * h' + (I 44 1).toInt64)))) t I L) : bm_C G l 238 [.ref 44, .long h'] t I L Q := by
  have lp : ∀ d i x y, n - i = d → i ≤ n → x = nI i → y = (List.range i).foldl (fun h j => 31 * h + (I 45 j).toInt64) (31 * h' + (I 44 1).toInt64) → bm_W G l 238 12 [some (.ref 44), some (.long h'), none, some (.long y), none, some (.int x)] [] t I L Q := by
    intro d
    induction d with
    | zero =>
      intro i x y hd hi hx hy
      obtain rfl : i = n := by omega
      subst hx hy
      refine bm_go (am_ok_all 238 (by decide)) 20 ?_
      refine And.intro (fun cd => h) (fun cd => ?_)
      rw [nI_toInt (by omega)] at cd
      omega
    | succ d ih =>
      intro i x y hd hi hx hy
      subst hx hy
      refine bm_go (am_ok_all 238 (by decide)) 20 ?_
      refine And.intro (fun cd => ?_) (fun cd => ?_)
      · rw [nI_toInt (by omega)] at cd
        omega
      · refine sp_item_44 (by omega) ?_
        refine sp_mixed ?_
        refine ih (i + 1) _ _ (by omega) (by omega) (nI_succ i).symm ?_
        rw [List.range_succ, List.foldl_append]
        simp only [List.foldl_cons, List.foldl_nil]
        congr 3
        unfold itm
        rw [nI_toInt (by omega), if_pos (by omega)]
        rfl
  refine bm_go (am_ok_all 238 (by decide)) 20 ?_
  refine sp_mixed ?_
  exact lp n 0 _ _ rfl (Nat.zero_le _) rfl rfl
theorem sp_item_46 {x : Int32} (hs : (I 46 1).toInt ≤ 60) (h : Q (some (.int (itm (I 46 1) (I 47) x))) t I L) : bm_C G l 233 [.ref 46, .int x] t I L Q := by
  unfold itm at h
  have e : (Int32.ofNat 60).toInt = 60 := rfl
  refine bm_go (am_ok_all 233 (by decide)) 20 ?_
  refine And.intro (fun cd => ?_) (fun cd => ?_)
  · rw [if_neg (by omega)] at h
    exact h
  · refine And.intro (fun cd => ?_) (fun cd => ?_)
    · rw [if_neg (by omega)] at h
      exact h
    · refine And.intro (fun cd => ?_) (fun cd => ?_)
      · have cd : (Int32.ofNat 60).toInt ≤ x.toInt := cd
        omega
      · rw [if_pos (by omega)] at h
        exact ⟨x.toInt.toNat, by omega, (by omega : x.toInt.toNat < 60), h⟩
theorem sp_change_46 {x v : Int32} (hs : (I 46 1).toInt ≤ 60) (h1 : 0 ≤ x.toInt → x.toInt < (I 46 1).toInt → Q none t (am_u I 47 x.toInt.toNat v) L) (h0 : (x.toInt < 0 ∨ (I 46 1).toInt ≤ x.toInt) → Q none t I L) : bm_C G l 234 [.ref 46, .int x, .int v] t I L Q := by
  have e : (Int32.ofNat 60).toInt = 60 := rfl
  refine bm_go (am_ok_all 234 (by decide)) 20 ?_
  refine And.intro (fun cd => h0 (by omega)) (fun cd => ?_)
  refine And.intro (fun cd => h0 (by omega)) (fun cd => ?_)
  refine And.intro (fun cd => ?_) (fun cd => ?_)
  · have cd : (Int32.ofNat 60).toInt ≤ x.toInt := cd
    omega
  · exact ⟨x.toInt.toNat, by omega, (by omega : x.toInt.toNat < 60), h1 (by omega) (by omega)⟩
theorem sp_renew_46 {x v : Int32} (hx : x.toInt ≤ 60) (h : Q none t (am_f (am_u I 46 1 x) 47 60 v) L) : bm_C G l 232 [.ref 46, .int x, .int v] t I L Q := by
  refine bm_go (am_ok_all 232 (by decide)) 20 ?_
  intro z hz
  have e : z = x := by
    apply Int32.toInt_inj.mp
    rw [hz]
    have e : (Int32.ofNat 60).toInt = 60 := rfl
    have : (Int32.ofNat (am_SH 47).2).toInt = 60 := e
    omega
  subst e
  exact sp_fill_47 h
/-- the digest of a row's places from i on -/
theorem sp_digested_46 {h' : Int64} (n : Nat) (hn : (I 46 1).toInt = (n : Int) ∨ ((I 46 1).toInt = -1 ∧ n = 0)) (hs : n ≤ 60) (h : Q (some (.long ((List.range n).foldl (fun h j => 31 * h + (I 47 j).toInt64) (31 * h' + (I 46 1).toInt64)))) t I L) : bm_C G l 238 [.ref 46, .long h'] t I L Q := by
  have lp : ∀ d i x y, n - i = d → i ≤ n → x = nI i → y = (List.range i).foldl (fun h j => 31 * h + (I 47 j).toInt64) (31 * h' + (I 46 1).toInt64) → bm_W G l 238 12 [some (.ref 46), some (.long h'), none, some (.long y), none, some (.int x)] [] t I L Q := by
    intro d
    induction d with
    | zero =>
      intro i x y hd hi hx hy
      obtain rfl : i = n := by omega
      subst hx hy
      refine bm_go (am_ok_all 238 (by decide)) 20 ?_
      refine And.intro (fun cd => h) (fun cd => ?_)
      rw [nI_toInt (by omega)] at cd
      omega
    | succ d ih =>
      intro i x y hd hi hx hy
      subst hx hy
      refine bm_go (am_ok_all 238 (by decide)) 20 ?_
      refine And.intro (fun cd => ?_) (fun cd => ?_)
      · rw [nI_toInt (by omega)] at cd
        omega
      · refine sp_item_46 (by omega) ?_
        refine sp_mixed ?_
        refine ih (i + 1) _ _ (by omega) (by omega) (nI_succ i).symm ?_
        rw [List.range_succ, List.foldl_append]
        simp only [List.foldl_cons, List.foldl_nil]
        congr 3
        unfold itm
        rw [nI_toInt (by omega), if_pos (by omega)]
        rfl
  refine bm_go (am_ok_all 238 (by decide)) 20 ?_
  refine sp_mixed ?_
  exact lp n 0 _ _ rfl (Nat.zero_le _) rfl rfl
theorem sp_item_48 {x : Int32} (hs : (I 48 1).toInt ≤ 60) (h : Q (some (.int (itm (I 48 1) (I 49) x))) t I L) : bm_C G l 233 [.ref 48, .int x] t I L Q := by
  unfold itm at h
  have e : (Int32.ofNat 60).toInt = 60 := rfl
  refine bm_go (am_ok_all 233 (by decide)) 20 ?_
  refine And.intro (fun cd => ?_) (fun cd => ?_)
  · rw [if_neg (by omega)] at h
    exact h
  · refine And.intro (fun cd => ?_) (fun cd => ?_)
    · rw [if_neg (by omega)] at h
      exact h
    · refine And.intro (fun cd => ?_) (fun cd => ?_)
      · have cd : (Int32.ofNat 60).toInt ≤ x.toInt := cd
        omega
      · rw [if_pos (by omega)] at h
        exact ⟨x.toInt.toNat, by omega, (by omega : x.toInt.toNat < 60), h⟩
theorem sp_change_48 {x v : Int32} (hs : (I 48 1).toInt ≤ 60) (h1 : 0 ≤ x.toInt → x.toInt < (I 48 1).toInt → Q none t (am_u I 49 x.toInt.toNat v) L) (h0 : (x.toInt < 0 ∨ (I 48 1).toInt ≤ x.toInt) → Q none t I L) : bm_C G l 234 [.ref 48, .int x, .int v] t I L Q := by
  have e : (Int32.ofNat 60).toInt = 60 := rfl
  refine bm_go (am_ok_all 234 (by decide)) 20 ?_
  refine And.intro (fun cd => h0 (by omega)) (fun cd => ?_)
  refine And.intro (fun cd => h0 (by omega)) (fun cd => ?_)
  refine And.intro (fun cd => ?_) (fun cd => ?_)
  · have cd : (Int32.ofNat 60).toInt ≤ x.toInt := cd
    omega
  · exact ⟨x.toInt.toNat, by omega, (by omega : x.toInt.toNat < 60), h1 (by omega) (by omega)⟩
theorem sp_renew_48 {x v : Int32} (hx : x.toInt ≤ 60) (h : Q none t (am_f (am_u I 48 1 x) 49 60 v) L) : bm_C G l 232 [.ref 48, .int x, .int v] t I L Q := by
  refine bm_go (am_ok_all 232 (by decide)) 20 ?_
  intro z hz
  have e : z = x := by
    apply Int32.toInt_inj.mp
    rw [hz]
    have e : (Int32.ofNat 60).toInt = 60 := rfl
    have : (Int32.ofNat (am_SH 49).2).toInt = 60 := e
    omega
  subst e
  exact sp_fill_49 h
/-- the digest of a row's places from i on -/
theorem sp_digested_48 {h' : Int64} (n : Nat) (hn : (I 48 1).toInt = (n : Int) ∨ ((I 48 1).toInt = -1 ∧ n = 0)) (hs : n ≤ 60) (h : Q (some (.long ((List.range n).foldl (fun h j => 31 * h + (I 49 j).toInt64) (31 * h' + (I 48 1).toInt64)))) t I L) : bm_C G l 238 [.ref 48, .long h'] t I L Q := by
  have lp : ∀ d i x y, n - i = d → i ≤ n → x = nI i → y = (List.range i).foldl (fun h j => 31 * h + (I 49 j).toInt64) (31 * h' + (I 48 1).toInt64) → bm_W G l 238 12 [some (.ref 48), some (.long h'), none, some (.long y), none, some (.int x)] [] t I L Q := by
    intro d
    induction d with
    | zero =>
      intro i x y hd hi hx hy
      obtain rfl : i = n := by omega
      subst hx hy
      refine bm_go (am_ok_all 238 (by decide)) 20 ?_
      refine And.intro (fun cd => h) (fun cd => ?_)
      rw [nI_toInt (by omega)] at cd
      omega
    | succ d ih =>
      intro i x y hd hi hx hy
      subst hx hy
      refine bm_go (am_ok_all 238 (by decide)) 20 ?_
      refine And.intro (fun cd => ?_) (fun cd => ?_)
      · rw [nI_toInt (by omega)] at cd
        omega
      · refine sp_item_48 (by omega) ?_
        refine sp_mixed ?_
        refine ih (i + 1) _ _ (by omega) (by omega) (nI_succ i).symm ?_
        rw [List.range_succ, List.foldl_append]
        simp only [List.foldl_cons, List.foldl_nil]
        congr 3
        unfold itm
        rw [nI_toInt (by omega), if_pos (by omega)]
        rfl
  refine bm_go (am_ok_all 238 (by decide)) 20 ?_
  refine sp_mixed ?_
  exact lp n 0 _ _ rfl (Nat.zero_le _) rfl rfl
theorem sp_item_50 {x : Int32} (hs : (I 50 1).toInt ≤ 80) (h : Q (some (.int (itm (I 50 1) (I 51) x))) t I L) : bm_C G l 233 [.ref 50, .int x] t I L Q := by
  unfold itm at h
  have e : (Int32.ofNat 80).toInt = 80 := rfl
  refine bm_go (am_ok_all 233 (by decide)) 20 ?_
  refine And.intro (fun cd => ?_) (fun cd => ?_)
  · rw [if_neg (by omega)] at h
    exact h
  · refine And.intro (fun cd => ?_) (fun cd => ?_)
    · rw [if_neg (by omega)] at h
      exact h
    · refine And.intro (fun cd => ?_) (fun cd => ?_)
      · have cd : (Int32.ofNat 80).toInt ≤ x.toInt := cd
        omega
      · rw [if_pos (by omega)] at h
        exact ⟨x.toInt.toNat, by omega, (by omega : x.toInt.toNat < 80), h⟩
theorem sp_change_50 {x v : Int32} (hs : (I 50 1).toInt ≤ 80) (h1 : 0 ≤ x.toInt → x.toInt < (I 50 1).toInt → Q none t (am_u I 51 x.toInt.toNat v) L) (h0 : (x.toInt < 0 ∨ (I 50 1).toInt ≤ x.toInt) → Q none t I L) : bm_C G l 234 [.ref 50, .int x, .int v] t I L Q := by
  have e : (Int32.ofNat 80).toInt = 80 := rfl
  refine bm_go (am_ok_all 234 (by decide)) 20 ?_
  refine And.intro (fun cd => h0 (by omega)) (fun cd => ?_)
  refine And.intro (fun cd => h0 (by omega)) (fun cd => ?_)
  refine And.intro (fun cd => ?_) (fun cd => ?_)
  · have cd : (Int32.ofNat 80).toInt ≤ x.toInt := cd
    omega
  · exact ⟨x.toInt.toNat, by omega, (by omega : x.toInt.toNat < 80), h1 (by omega) (by omega)⟩
theorem sp_renew_50 {x v : Int32} (hx : x.toInt ≤ 80) (h : Q none t (am_f (am_u I 50 1 x) 51 80 v) L) : bm_C G l 232 [.ref 50, .int x, .int v] t I L Q := by
  refine bm_go (am_ok_all 232 (by decide)) 20 ?_
  intro z hz
  have e : z = x := by
    apply Int32.toInt_inj.mp
    rw [hz]
    have e : (Int32.ofNat 80).toInt = 80 := rfl
    have : (Int32.ofNat (am_SH 51).2).toInt = 80 := e
    omega
  subst e
  exact sp_fill_51 h
/-- the digest of a row's places from i on -/
theorem sp_digested_50 {h' : Int64} (n : Nat) (hn : (I 50 1).toInt = (n : Int) ∨ ((I 50 1).toInt = -1 ∧ n = 0)) (hs : n ≤ 80) (h : Q (some (.long ((List.range n).foldl (fun h j => 31 * h + (I 51 j).toInt64) (31 * h' + (I 50 1).toInt64)))) t I L) : bm_C G l 238 [.ref 50, .long h'] t I L Q := by
  have lp : ∀ d i x y, n - i = d → i ≤ n → x = nI i → y = (List.range i).foldl (fun h j => 31 * h + (I 51 j).toInt64) (31 * h' + (I 50 1).toInt64) → bm_W G l 238 12 [some (.ref 50), some (.long h'), none, some (.long y), none, some (.int x)] [] t I L Q := by
    intro d
    induction d with
    | zero =>
      intro i x y hd hi hx hy
      obtain rfl : i = n := by omega
      subst hx hy
      refine bm_go (am_ok_all 238 (by decide)) 20 ?_
      refine And.intro (fun cd => h) (fun cd => ?_)
      rw [nI_toInt (by omega)] at cd
      omega
    | succ d ih =>
      intro i x y hd hi hx hy
      subst hx hy
      refine bm_go (am_ok_all 238 (by decide)) 20 ?_
      refine And.intro (fun cd => ?_) (fun cd => ?_)
      · rw [nI_toInt (by omega)] at cd
        omega
      · refine sp_item_50 (by omega) ?_
        refine sp_mixed ?_
        refine ih (i + 1) _ _ (by omega) (by omega) (nI_succ i).symm ?_
        rw [List.range_succ, List.foldl_append]
        simp only [List.foldl_cons, List.foldl_nil]
        congr 3
        unfold itm
        rw [nI_toInt (by omega), if_pos (by omega)]
        rfl
  refine bm_go (am_ok_all 238 (by decide)) 20 ?_
  refine sp_mixed ?_
  exact lp n 0 _ _ rfl (Nat.zero_le _) rfl rfl
theorem sp_item_52 {x : Int32} (hs : (I 52 1).toInt ≤ 80) (h : Q (some (.int (itm (I 52 1) (I 53) x))) t I L) : bm_C G l 233 [.ref 52, .int x] t I L Q := by
  unfold itm at h
  have e : (Int32.ofNat 80).toInt = 80 := rfl
  refine bm_go (am_ok_all 233 (by decide)) 20 ?_
  refine And.intro (fun cd => ?_) (fun cd => ?_)
  · rw [if_neg (by omega)] at h
    exact h
  · refine And.intro (fun cd => ?_) (fun cd => ?_)
    · rw [if_neg (by omega)] at h
      exact h
    · refine And.intro (fun cd => ?_) (fun cd => ?_)
      · have cd : (Int32.ofNat 80).toInt ≤ x.toInt := cd
        omega
      · rw [if_pos (by omega)] at h
        exact ⟨x.toInt.toNat, by omega, (by omega : x.toInt.toNat < 80), h⟩
theorem sp_change_52 {x v : Int32} (hs : (I 52 1).toInt ≤ 80) (h1 : 0 ≤ x.toInt → x.toInt < (I 52 1).toInt → Q none t (am_u I 53 x.toInt.toNat v) L) (h0 : (x.toInt < 0 ∨ (I 52 1).toInt ≤ x.toInt) → Q none t I L) : bm_C G l 234 [.ref 52, .int x, .int v] t I L Q := by
  have e : (Int32.ofNat 80).toInt = 80 := rfl
  refine bm_go (am_ok_all 234 (by decide)) 20 ?_
  refine And.intro (fun cd => h0 (by omega)) (fun cd => ?_)
  refine And.intro (fun cd => h0 (by omega)) (fun cd => ?_)
  refine And.intro (fun cd => ?_) (fun cd => ?_)
  · have cd : (Int32.ofNat 80).toInt ≤ x.toInt := cd
    omega
  · exact ⟨x.toInt.toNat, by omega, (by omega : x.toInt.toNat < 80), h1 (by omega) (by omega)⟩
theorem sp_renew_52 {x v : Int32} (hx : x.toInt ≤ 80) (h : Q none t (am_f (am_u I 52 1 x) 53 80 v) L) : bm_C G l 232 [.ref 52, .int x, .int v] t I L Q := by
  refine bm_go (am_ok_all 232 (by decide)) 20 ?_
  intro z hz
  have e : z = x := by
    apply Int32.toInt_inj.mp
    rw [hz]
    have e : (Int32.ofNat 80).toInt = 80 := rfl
    have : (Int32.ofNat (am_SH 53).2).toInt = 80 := e
    omega
  subst e
  exact sp_fill_53 h
/-- the digest of a row's places from i on -/
theorem sp_digested_52 {h' : Int64} (n : Nat) (hn : (I 52 1).toInt = (n : Int) ∨ ((I 52 1).toInt = -1 ∧ n = 0)) (hs : n ≤ 80) (h : Q (some (.long ((List.range n).foldl (fun h j => 31 * h + (I 53 j).toInt64) (31 * h' + (I 52 1).toInt64)))) t I L) : bm_C G l 238 [.ref 52, .long h'] t I L Q := by
  have lp : ∀ d i x y, n - i = d → i ≤ n → x = nI i → y = (List.range i).foldl (fun h j => 31 * h + (I 53 j).toInt64) (31 * h' + (I 52 1).toInt64) → bm_W G l 238 12 [some (.ref 52), some (.long h'), none, some (.long y), none, some (.int x)] [] t I L Q := by
    intro d
    induction d with
    | zero =>
      intro i x y hd hi hx hy
      obtain rfl : i = n := by omega
      subst hx hy
      refine bm_go (am_ok_all 238 (by decide)) 20 ?_
      refine And.intro (fun cd => h) (fun cd => ?_)
      rw [nI_toInt (by omega)] at cd
      omega
    | succ d ih =>
      intro i x y hd hi hx hy
      subst hx hy
      refine bm_go (am_ok_all 238 (by decide)) 20 ?_
      refine And.intro (fun cd => ?_) (fun cd => ?_)
      · rw [nI_toInt (by omega)] at cd
        omega
      · refine sp_item_52 (by omega) ?_
        refine sp_mixed ?_
        refine ih (i + 1) _ _ (by omega) (by omega) (nI_succ i).symm ?_
        rw [List.range_succ, List.foldl_append]
        simp only [List.foldl_cons, List.foldl_nil]
        congr 3
        unfold itm
        rw [nI_toInt (by omega), if_pos (by omega)]
        rfl
  refine bm_go (am_ok_all 238 (by decide)) 20 ?_
  refine sp_mixed ?_
  exact lp n 0 _ _ rfl (Nat.zero_le _) rfl rfl
theorem sp_item_54 {x : Int32} (hs : (I 54 1).toInt ≤ 80) (h : Q (some (.int (itm (I 54 1) (I 55) x))) t I L) : bm_C G l 233 [.ref 54, .int x] t I L Q := by
  unfold itm at h
  have e : (Int32.ofNat 80).toInt = 80 := rfl
  refine bm_go (am_ok_all 233 (by decide)) 20 ?_
  refine And.intro (fun cd => ?_) (fun cd => ?_)
  · rw [if_neg (by omega)] at h
    exact h
  · refine And.intro (fun cd => ?_) (fun cd => ?_)
    · rw [if_neg (by omega)] at h
      exact h
    · refine And.intro (fun cd => ?_) (fun cd => ?_)
      · have cd : (Int32.ofNat 80).toInt ≤ x.toInt := cd
        omega
      · rw [if_pos (by omega)] at h
        exact ⟨x.toInt.toNat, by omega, (by omega : x.toInt.toNat < 80), h⟩
theorem sp_change_54 {x v : Int32} (hs : (I 54 1).toInt ≤ 80) (h1 : 0 ≤ x.toInt → x.toInt < (I 54 1).toInt → Q none t (am_u I 55 x.toInt.toNat v) L) (h0 : (x.toInt < 0 ∨ (I 54 1).toInt ≤ x.toInt) → Q none t I L) : bm_C G l 234 [.ref 54, .int x, .int v] t I L Q := by
  have e : (Int32.ofNat 80).toInt = 80 := rfl
  refine bm_go (am_ok_all 234 (by decide)) 20 ?_
  refine And.intro (fun cd => h0 (by omega)) (fun cd => ?_)
  refine And.intro (fun cd => h0 (by omega)) (fun cd => ?_)
  refine And.intro (fun cd => ?_) (fun cd => ?_)
  · have cd : (Int32.ofNat 80).toInt ≤ x.toInt := cd
    omega
  · exact ⟨x.toInt.toNat, by omega, (by omega : x.toInt.toNat < 80), h1 (by omega) (by omega)⟩
theorem sp_renew_54 {x v : Int32} (hx : x.toInt ≤ 80) (h : Q none t (am_f (am_u I 54 1 x) 55 80 v) L) : bm_C G l 232 [.ref 54, .int x, .int v] t I L Q := by
  refine bm_go (am_ok_all 232 (by decide)) 20 ?_
  intro z hz
  have e : z = x := by
    apply Int32.toInt_inj.mp
    rw [hz]
    have e : (Int32.ofNat 80).toInt = 80 := rfl
    have : (Int32.ofNat (am_SH 55).2).toInt = 80 := e
    omega
  subst e
  exact sp_fill_55 h
/-- the digest of a row's places from i on -/
theorem sp_digested_54 {h' : Int64} (n : Nat) (hn : (I 54 1).toInt = (n : Int) ∨ ((I 54 1).toInt = -1 ∧ n = 0)) (hs : n ≤ 80) (h : Q (some (.long ((List.range n).foldl (fun h j => 31 * h + (I 55 j).toInt64) (31 * h' + (I 54 1).toInt64)))) t I L) : bm_C G l 238 [.ref 54, .long h'] t I L Q := by
  have lp : ∀ d i x y, n - i = d → i ≤ n → x = nI i → y = (List.range i).foldl (fun h j => 31 * h + (I 55 j).toInt64) (31 * h' + (I 54 1).toInt64) → bm_W G l 238 12 [some (.ref 54), some (.long h'), none, some (.long y), none, some (.int x)] [] t I L Q := by
    intro d
    induction d with
    | zero =>
      intro i x y hd hi hx hy
      obtain rfl : i = n := by omega
      subst hx hy
      refine bm_go (am_ok_all 238 (by decide)) 20 ?_
      refine And.intro (fun cd => h) (fun cd => ?_)
      rw [nI_toInt (by omega)] at cd
      omega
    | succ d ih =>
      intro i x y hd hi hx hy
      subst hx hy
      refine bm_go (am_ok_all 238 (by decide)) 20 ?_
      refine And.intro (fun cd => ?_) (fun cd => ?_)
      · rw [nI_toInt (by omega)] at cd
        omega
      · refine sp_item_54 (by omega) ?_
        refine sp_mixed ?_
        refine ih (i + 1) _ _ (by omega) (by omega) (nI_succ i).symm ?_
        rw [List.range_succ, List.foldl_append]
        simp only [List.foldl_cons, List.foldl_nil]
        congr 3
        unfold itm
        rw [nI_toInt (by omega), if_pos (by omega)]
        rfl
  refine bm_go (am_ok_all 238 (by decide)) 20 ?_
  refine sp_mixed ?_
  exact lp n 0 _ _ rfl (Nat.zero_le _) rfl rfl
theorem sp_item_56 {x : Int32} (hs : (I 56 1).toInt ≤ 80) (h : Q (some (.int (itm (I 56 1) (I 57) x))) t I L) : bm_C G l 233 [.ref 56, .int x] t I L Q := by
  unfold itm at h
  have e : (Int32.ofNat 80).toInt = 80 := rfl
  refine bm_go (am_ok_all 233 (by decide)) 20 ?_
  refine And.intro (fun cd => ?_) (fun cd => ?_)
  · rw [if_neg (by omega)] at h
    exact h
  · refine And.intro (fun cd => ?_) (fun cd => ?_)
    · rw [if_neg (by omega)] at h
      exact h
    · refine And.intro (fun cd => ?_) (fun cd => ?_)
      · have cd : (Int32.ofNat 80).toInt ≤ x.toInt := cd
        omega
      · rw [if_pos (by omega)] at h
        exact ⟨x.toInt.toNat, by omega, (by omega : x.toInt.toNat < 80), h⟩
theorem sp_change_56 {x v : Int32} (hs : (I 56 1).toInt ≤ 80) (h1 : 0 ≤ x.toInt → x.toInt < (I 56 1).toInt → Q none t (am_u I 57 x.toInt.toNat v) L) (h0 : (x.toInt < 0 ∨ (I 56 1).toInt ≤ x.toInt) → Q none t I L) : bm_C G l 234 [.ref 56, .int x, .int v] t I L Q := by
  have e : (Int32.ofNat 80).toInt = 80 := rfl
  refine bm_go (am_ok_all 234 (by decide)) 20 ?_
  refine And.intro (fun cd => h0 (by omega)) (fun cd => ?_)
  refine And.intro (fun cd => h0 (by omega)) (fun cd => ?_)
  refine And.intro (fun cd => ?_) (fun cd => ?_)
  · have cd : (Int32.ofNat 80).toInt ≤ x.toInt := cd
    omega
  · exact ⟨x.toInt.toNat, by omega, (by omega : x.toInt.toNat < 80), h1 (by omega) (by omega)⟩
theorem sp_renew_56 {x v : Int32} (hx : x.toInt ≤ 80) (h : Q none t (am_f (am_u I 56 1 x) 57 80 v) L) : bm_C G l 232 [.ref 56, .int x, .int v] t I L Q := by
  refine bm_go (am_ok_all 232 (by decide)) 20 ?_
  intro z hz
  have e : z = x := by
    apply Int32.toInt_inj.mp
    rw [hz]
    have e : (Int32.ofNat 80).toInt = 80 := rfl
    have : (Int32.ofNat (am_SH 57).2).toInt = 80 := e
    omega
  subst e
  exact sp_fill_57 h
/-- the digest of a row's places from i on -/
theorem sp_digested_56 {h' : Int64} (n : Nat) (hn : (I 56 1).toInt = (n : Int) ∨ ((I 56 1).toInt = -1 ∧ n = 0)) (hs : n ≤ 80) (h : Q (some (.long ((List.range n).foldl (fun h j => 31 * h + (I 57 j).toInt64) (31 * h' + (I 56 1).toInt64)))) t I L) : bm_C G l 238 [.ref 56, .long h'] t I L Q := by
  have lp : ∀ d i x y, n - i = d → i ≤ n → x = nI i → y = (List.range i).foldl (fun h j => 31 * h + (I 57 j).toInt64) (31 * h' + (I 56 1).toInt64) → bm_W G l 238 12 [some (.ref 56), some (.long h'), none, some (.long y), none, some (.int x)] [] t I L Q := by
    intro d
    induction d with
    | zero =>
      intro i x y hd hi hx hy
      obtain rfl : i = n := by omega
      subst hx hy
      refine bm_go (am_ok_all 238 (by decide)) 20 ?_
      refine And.intro (fun cd => h) (fun cd => ?_)
      rw [nI_toInt (by omega)] at cd
      omega
    | succ d ih =>
      intro i x y hd hi hx hy
      subst hx hy
      refine bm_go (am_ok_all 238 (by decide)) 20 ?_
      refine And.intro (fun cd => ?_) (fun cd => ?_)
      · rw [nI_toInt (by omega)] at cd
        omega
      · refine sp_item_56 (by omega) ?_
        refine sp_mixed ?_
        refine ih (i + 1) _ _ (by omega) (by omega) (nI_succ i).symm ?_
        rw [List.range_succ, List.foldl_append]
        simp only [List.foldl_cons, List.foldl_nil]
        congr 3
        unfold itm
        rw [nI_toInt (by omega), if_pos (by omega)]
        rfl
  refine bm_go (am_ok_all 238 (by decide)) 20 ?_
  refine sp_mixed ?_
  exact lp n 0 _ _ rfl (Nat.zero_le _) rfl rfl
theorem sp_picked_r (x : Int32) (h0 : (x.toInt < 0 ∨ 6 ≤ x.toInt) → Q (some .null) t I L) (h1 : ∀ k, k < 6 → x = nI k → am_rv (am_RR t 1 k) fun v => Q (some v) t I L) : bm_C G l 53 [.ref 1, .int x] t I L Q := by
  have e : (Int32.ofNat 6).toInt = 6 := rfl
  refine bm_go (am_ok_all 53 (by decide)) 20 ?_
  refine And.intro (fun cd => h0 (by omega)) (fun cd => ?_)
  refine And.intro (fun cd => h0 ?_) (fun cd => ?_)
  · have cd : (Int32.ofNat 6).toInt ≤ x.toInt := cd
    omega
  · have cd : x.toInt < (Int32.ofNat 6).toInt := cd
    have hx : x = nI x.toInt.toNat := Int32.toInt_inj.mp (by rw [nI_toInt (by omega)]; omega)
    refine ⟨x.toInt.toNat, by omega, (by omega : x.toInt.toNat < 6), ?_⟩
    have h := h1 x.toInt.toNat (by omega) hx
    generalize x.toInt.toNat = k at *
    generalize am_RR t 1 k = o at *
    cases o <;> exact h
theorem sp_picked_t (x : Int32) (h0 : (x.toInt < 0 ∨ 4 ≤ x.toInt) → Q (some .null) t I L) (h1 : ∀ k, k < 4 → x = nI k → am_rv (am_RR t 2 k) fun v => Q (some v) t I L) : bm_C G l 53 [.ref 2, .int x] t I L Q := by
  have e : (Int32.ofNat 4).toInt = 4 := rfl
  refine bm_go (am_ok_all 53 (by decide)) 20 ?_
  refine And.intro (fun cd => h0 (by omega)) (fun cd => ?_)
  refine And.intro (fun cd => h0 ?_) (fun cd => ?_)
  · have cd : (Int32.ofNat 4).toInt ≤ x.toInt := cd
    omega
  · have cd : x.toInt < (Int32.ofNat 4).toInt := cd
    have hx : x = nI x.toInt.toNat := Int32.toInt_inj.mp (by rw [nI_toInt (by omega)]; omega)
    refine ⟨x.toInt.toNat, by omega, (by omega : x.toInt.toNat < 4), ?_⟩
    have h := h1 x.toInt.toNat (by omega) hx
    generalize x.toInt.toNat = k at *
    generalize am_RR t 2 k = o at *
    cases o <;> exact h
theorem sp_refNull (h : Q (some (.int (-1))) t I L) : bm_C G l 56 [.ref 0, .null] t I L Q := by
  refine bm_go (am_ok_all 56 (by decide)) 20 ?_
  exact h
theorem sp_ref_38 (h1 : (I 38 1).toInt < 0 → Q (some (.int (-3))) t (am_u (am_u I 36 3 1) 37 1 (I 37 1 + 1)) L) (h0 : 0 ≤ (I 38 1).toInt → Q (some (.int 0)) t I L) : bm_C G l 56 [.ref 0, .ref 38] t I L Q := by
  refine bm_go (am_ok_all 56 (by decide)) 20 ?_
  refine And.intro (fun cd => h0 cd) (fun cd => ?_)
  exact sp_found 1 rfl (by decide) (h1 cd)
theorem sp_refAt_38 {x : Int32} (h1 : (I 38 1).toInt < 0 → Q (some (.int (-3))) t (am_u (am_u I 36 3 1) 37 1 (I 37 1 + 1)) L) (h2 : 0 ≤ (I 38 1).toInt → (x.toInt < 0 ∨ (I 38 1).toInt ≤ x.toInt) → Q (some (.int (-3))) t (am_u (am_u I 36 3 2) 37 2 (I 37 2 + 1)) L) (h0 : 0 ≤ x.toInt → x.toInt < (I 38 1).toInt → Q (some (.int 0)) t I L) : bm_C G l 57 [.ref 0, .ref 38, .int x] t I L Q := by
  refine bm_go (am_ok_all 57 (by decide)) 20 ?_
  refine sp_ref_38 (fun cd => ?_) (fun cd => ?_)
  · first | refine And.intro (fun cd => absurd cd (by decide)) (fun _ => ?_) | refine And.intro (fun _ => ?_) (fun cd => absurd cd (by decide)) | refine And.intro (fun cd => ?_) (fun cd => ?_)
    exact h1 cd
  · first | refine And.intro (fun cd => absurd cd (by decide)) (fun _ => ?_) | refine And.intro (fun _ => ?_) (fun cd => absurd cd (by decide)) | refine And.intro (fun cd => ?_) (fun cd => ?_)
    refine And.intro (fun c2 => ?_) (fun c2 => ?_)
    · exact sp_found 2 rfl (by decide) (h2 cd (by omega))
    · refine And.intro (fun c3 => ?_) (fun c3 => ?_)
      · exact h0 (by omega) (by omega)
      · exact sp_found 2 rfl (by decide) (h2 cd (by omega))
theorem sp_ref_40 (h1 : (I 40 1).toInt < 0 → Q (some (.int (-3))) t (am_u (am_u I 36 3 1) 37 1 (I 37 1 + 1)) L) (h0 : 0 ≤ (I 40 1).toInt → Q (some (.int 0)) t I L) : bm_C G l 56 [.ref 0, .ref 40] t I L Q := by
  refine bm_go (am_ok_all 56 (by decide)) 20 ?_
  refine And.intro (fun cd => h0 cd) (fun cd => ?_)
  exact sp_found 1 rfl (by decide) (h1 cd)
theorem sp_refAt_40 {x : Int32} (h1 : (I 40 1).toInt < 0 → Q (some (.int (-3))) t (am_u (am_u I 36 3 1) 37 1 (I 37 1 + 1)) L) (h2 : 0 ≤ (I 40 1).toInt → (x.toInt < 0 ∨ (I 40 1).toInt ≤ x.toInt) → Q (some (.int (-3))) t (am_u (am_u I 36 3 2) 37 2 (I 37 2 + 1)) L) (h0 : 0 ≤ x.toInt → x.toInt < (I 40 1).toInt → Q (some (.int 0)) t I L) : bm_C G l 57 [.ref 0, .ref 40, .int x] t I L Q := by
  refine bm_go (am_ok_all 57 (by decide)) 20 ?_
  refine sp_ref_40 (fun cd => ?_) (fun cd => ?_)
  · first | refine And.intro (fun cd => absurd cd (by decide)) (fun _ => ?_) | refine And.intro (fun _ => ?_) (fun cd => absurd cd (by decide)) | refine And.intro (fun cd => ?_) (fun cd => ?_)
    exact h1 cd
  · first | refine And.intro (fun cd => absurd cd (by decide)) (fun _ => ?_) | refine And.intro (fun _ => ?_) (fun cd => absurd cd (by decide)) | refine And.intro (fun cd => ?_) (fun cd => ?_)
    refine And.intro (fun c2 => ?_) (fun c2 => ?_)
    · exact sp_found 2 rfl (by decide) (h2 cd (by omega))
    · refine And.intro (fun c3 => ?_) (fun c3 => ?_)
      · exact h0 (by omega) (by omega)
      · exact sp_found 2 rfl (by decide) (h2 cd (by omega))
theorem sp_ref_42 (h1 : (I 42 1).toInt < 0 → Q (some (.int (-3))) t (am_u (am_u I 36 3 1) 37 1 (I 37 1 + 1)) L) (h0 : 0 ≤ (I 42 1).toInt → Q (some (.int 0)) t I L) : bm_C G l 56 [.ref 0, .ref 42] t I L Q := by
  refine bm_go (am_ok_all 56 (by decide)) 20 ?_
  refine And.intro (fun cd => h0 cd) (fun cd => ?_)
  exact sp_found 1 rfl (by decide) (h1 cd)
theorem sp_refAt_42 {x : Int32} (h1 : (I 42 1).toInt < 0 → Q (some (.int (-3))) t (am_u (am_u I 36 3 1) 37 1 (I 37 1 + 1)) L) (h2 : 0 ≤ (I 42 1).toInt → (x.toInt < 0 ∨ (I 42 1).toInt ≤ x.toInt) → Q (some (.int (-3))) t (am_u (am_u I 36 3 2) 37 2 (I 37 2 + 1)) L) (h0 : 0 ≤ x.toInt → x.toInt < (I 42 1).toInt → Q (some (.int 0)) t I L) : bm_C G l 57 [.ref 0, .ref 42, .int x] t I L Q := by
  refine bm_go (am_ok_all 57 (by decide)) 20 ?_
  refine sp_ref_42 (fun cd => ?_) (fun cd => ?_)
  · first | refine And.intro (fun cd => absurd cd (by decide)) (fun _ => ?_) | refine And.intro (fun _ => ?_) (fun cd => absurd cd (by decide)) | refine And.intro (fun cd => ?_) (fun cd => ?_)
    exact h1 cd
  · first | refine And.intro (fun cd => absurd cd (by decide)) (fun _ => ?_) | refine And.intro (fun _ => ?_) (fun cd => absurd cd (by decide)) | refine And.intro (fun cd => ?_) (fun cd => ?_)
    refine And.intro (fun c2 => ?_) (fun c2 => ?_)
    · exact sp_found 2 rfl (by decide) (h2 cd (by omega))
    · refine And.intro (fun c3 => ?_) (fun c3 => ?_)
      · exact h0 (by omega) (by omega)
      · exact sp_found 2 rfl (by decide) (h2 cd (by omega))
theorem sp_ref_44 (h1 : (I 44 1).toInt < 0 → Q (some (.int (-3))) t (am_u (am_u I 36 3 1) 37 1 (I 37 1 + 1)) L) (h0 : 0 ≤ (I 44 1).toInt → Q (some (.int 0)) t I L) : bm_C G l 56 [.ref 0, .ref 44] t I L Q := by
  refine bm_go (am_ok_all 56 (by decide)) 20 ?_
  refine And.intro (fun cd => h0 cd) (fun cd => ?_)
  exact sp_found 1 rfl (by decide) (h1 cd)
theorem sp_refAt_44 {x : Int32} (h1 : (I 44 1).toInt < 0 → Q (some (.int (-3))) t (am_u (am_u I 36 3 1) 37 1 (I 37 1 + 1)) L) (h2 : 0 ≤ (I 44 1).toInt → (x.toInt < 0 ∨ (I 44 1).toInt ≤ x.toInt) → Q (some (.int (-3))) t (am_u (am_u I 36 3 2) 37 2 (I 37 2 + 1)) L) (h0 : 0 ≤ x.toInt → x.toInt < (I 44 1).toInt → Q (some (.int 0)) t I L) : bm_C G l 57 [.ref 0, .ref 44, .int x] t I L Q := by
  refine bm_go (am_ok_all 57 (by decide)) 20 ?_
  refine sp_ref_44 (fun cd => ?_) (fun cd => ?_)
  · first | refine And.intro (fun cd => absurd cd (by decide)) (fun _ => ?_) | refine And.intro (fun _ => ?_) (fun cd => absurd cd (by decide)) | refine And.intro (fun cd => ?_) (fun cd => ?_)
    exact h1 cd
  · first | refine And.intro (fun cd => absurd cd (by decide)) (fun _ => ?_) | refine And.intro (fun _ => ?_) (fun cd => absurd cd (by decide)) | refine And.intro (fun cd => ?_) (fun cd => ?_)
    refine And.intro (fun c2 => ?_) (fun c2 => ?_)
    · exact sp_found 2 rfl (by decide) (h2 cd (by omega))
    · refine And.intro (fun c3 => ?_) (fun c3 => ?_)
      · exact h0 (by omega) (by omega)
      · exact sp_found 2 rfl (by decide) (h2 cd (by omega))
theorem sp_ref_46 (h1 : (I 46 1).toInt < 0 → Q (some (.int (-3))) t (am_u (am_u I 36 3 1) 37 1 (I 37 1 + 1)) L) (h0 : 0 ≤ (I 46 1).toInt → Q (some (.int 0)) t I L) : bm_C G l 56 [.ref 0, .ref 46] t I L Q := by
  refine bm_go (am_ok_all 56 (by decide)) 20 ?_
  refine And.intro (fun cd => h0 cd) (fun cd => ?_)
  exact sp_found 1 rfl (by decide) (h1 cd)
theorem sp_refAt_46 {x : Int32} (h1 : (I 46 1).toInt < 0 → Q (some (.int (-3))) t (am_u (am_u I 36 3 1) 37 1 (I 37 1 + 1)) L) (h2 : 0 ≤ (I 46 1).toInt → (x.toInt < 0 ∨ (I 46 1).toInt ≤ x.toInt) → Q (some (.int (-3))) t (am_u (am_u I 36 3 2) 37 2 (I 37 2 + 1)) L) (h0 : 0 ≤ x.toInt → x.toInt < (I 46 1).toInt → Q (some (.int 0)) t I L) : bm_C G l 57 [.ref 0, .ref 46, .int x] t I L Q := by
  refine bm_go (am_ok_all 57 (by decide)) 20 ?_
  refine sp_ref_46 (fun cd => ?_) (fun cd => ?_)
  · first | refine And.intro (fun cd => absurd cd (by decide)) (fun _ => ?_) | refine And.intro (fun _ => ?_) (fun cd => absurd cd (by decide)) | refine And.intro (fun cd => ?_) (fun cd => ?_)
    exact h1 cd
  · first | refine And.intro (fun cd => absurd cd (by decide)) (fun _ => ?_) | refine And.intro (fun _ => ?_) (fun cd => absurd cd (by decide)) | refine And.intro (fun cd => ?_) (fun cd => ?_)
    refine And.intro (fun c2 => ?_) (fun c2 => ?_)
    · exact sp_found 2 rfl (by decide) (h2 cd (by omega))
    · refine And.intro (fun c3 => ?_) (fun c3 => ?_)
      · exact h0 (by omega) (by omega)
      · exact sp_found 2 rfl (by decide) (h2 cd (by omega))
theorem sp_ref_48 (h1 : (I 48 1).toInt < 0 → Q (some (.int (-3))) t (am_u (am_u I 36 3 1) 37 1 (I 37 1 + 1)) L) (h0 : 0 ≤ (I 48 1).toInt → Q (some (.int 0)) t I L) : bm_C G l 56 [.ref 0, .ref 48] t I L Q := by
  refine bm_go (am_ok_all 56 (by decide)) 20 ?_
  refine And.intro (fun cd => h0 cd) (fun cd => ?_)
  exact sp_found 1 rfl (by decide) (h1 cd)
theorem sp_refAt_48 {x : Int32} (h1 : (I 48 1).toInt < 0 → Q (some (.int (-3))) t (am_u (am_u I 36 3 1) 37 1 (I 37 1 + 1)) L) (h2 : 0 ≤ (I 48 1).toInt → (x.toInt < 0 ∨ (I 48 1).toInt ≤ x.toInt) → Q (some (.int (-3))) t (am_u (am_u I 36 3 2) 37 2 (I 37 2 + 1)) L) (h0 : 0 ≤ x.toInt → x.toInt < (I 48 1).toInt → Q (some (.int 0)) t I L) : bm_C G l 57 [.ref 0, .ref 48, .int x] t I L Q := by
  refine bm_go (am_ok_all 57 (by decide)) 20 ?_
  refine sp_ref_48 (fun cd => ?_) (fun cd => ?_)
  · first | refine And.intro (fun cd => absurd cd (by decide)) (fun _ => ?_) | refine And.intro (fun _ => ?_) (fun cd => absurd cd (by decide)) | refine And.intro (fun cd => ?_) (fun cd => ?_)
    exact h1 cd
  · first | refine And.intro (fun cd => absurd cd (by decide)) (fun _ => ?_) | refine And.intro (fun _ => ?_) (fun cd => absurd cd (by decide)) | refine And.intro (fun cd => ?_) (fun cd => ?_)
    refine And.intro (fun c2 => ?_) (fun c2 => ?_)
    · exact sp_found 2 rfl (by decide) (h2 cd (by omega))
    · refine And.intro (fun c3 => ?_) (fun c3 => ?_)
      · exact h0 (by omega) (by omega)
      · exact sp_found 2 rfl (by decide) (h2 cd (by omega))
theorem sp_ref_50 (h1 : (I 50 1).toInt < 0 → Q (some (.int (-3))) t (am_u (am_u I 36 3 1) 37 1 (I 37 1 + 1)) L) (h0 : 0 ≤ (I 50 1).toInt → Q (some (.int 0)) t I L) : bm_C G l 56 [.ref 0, .ref 50] t I L Q := by
  refine bm_go (am_ok_all 56 (by decide)) 20 ?_
  refine And.intro (fun cd => h0 cd) (fun cd => ?_)
  exact sp_found 1 rfl (by decide) (h1 cd)
theorem sp_refAt_50 {x : Int32} (h1 : (I 50 1).toInt < 0 → Q (some (.int (-3))) t (am_u (am_u I 36 3 1) 37 1 (I 37 1 + 1)) L) (h2 : 0 ≤ (I 50 1).toInt → (x.toInt < 0 ∨ (I 50 1).toInt ≤ x.toInt) → Q (some (.int (-3))) t (am_u (am_u I 36 3 2) 37 2 (I 37 2 + 1)) L) (h0 : 0 ≤ x.toInt → x.toInt < (I 50 1).toInt → Q (some (.int 0)) t I L) : bm_C G l 57 [.ref 0, .ref 50, .int x] t I L Q := by
  refine bm_go (am_ok_all 57 (by decide)) 20 ?_
  refine sp_ref_50 (fun cd => ?_) (fun cd => ?_)
  · first | refine And.intro (fun cd => absurd cd (by decide)) (fun _ => ?_) | refine And.intro (fun _ => ?_) (fun cd => absurd cd (by decide)) | refine And.intro (fun cd => ?_) (fun cd => ?_)
    exact h1 cd
  · first | refine And.intro (fun cd => absurd cd (by decide)) (fun _ => ?_) | refine And.intro (fun _ => ?_) (fun cd => absurd cd (by decide)) | refine And.intro (fun cd => ?_) (fun cd => ?_)
    refine And.intro (fun c2 => ?_) (fun c2 => ?_)
    · exact sp_found 2 rfl (by decide) (h2 cd (by omega))
    · refine And.intro (fun c3 => ?_) (fun c3 => ?_)
      · exact h0 (by omega) (by omega)
      · exact sp_found 2 rfl (by decide) (h2 cd (by omega))
theorem sp_ref_52 (h1 : (I 52 1).toInt < 0 → Q (some (.int (-3))) t (am_u (am_u I 36 3 1) 37 1 (I 37 1 + 1)) L) (h0 : 0 ≤ (I 52 1).toInt → Q (some (.int 0)) t I L) : bm_C G l 56 [.ref 0, .ref 52] t I L Q := by
  refine bm_go (am_ok_all 56 (by decide)) 20 ?_
  refine And.intro (fun cd => h0 cd) (fun cd => ?_)
  exact sp_found 1 rfl (by decide) (h1 cd)
theorem sp_refAt_52 {x : Int32} (h1 : (I 52 1).toInt < 0 → Q (some (.int (-3))) t (am_u (am_u I 36 3 1) 37 1 (I 37 1 + 1)) L) (h2 : 0 ≤ (I 52 1).toInt → (x.toInt < 0 ∨ (I 52 1).toInt ≤ x.toInt) → Q (some (.int (-3))) t (am_u (am_u I 36 3 2) 37 2 (I 37 2 + 1)) L) (h0 : 0 ≤ x.toInt → x.toInt < (I 52 1).toInt → Q (some (.int 0)) t I L) : bm_C G l 57 [.ref 0, .ref 52, .int x] t I L Q := by
  refine bm_go (am_ok_all 57 (by decide)) 20 ?_
  refine sp_ref_52 (fun cd => ?_) (fun cd => ?_)
  · first | refine And.intro (fun cd => absurd cd (by decide)) (fun _ => ?_) | refine And.intro (fun _ => ?_) (fun cd => absurd cd (by decide)) | refine And.intro (fun cd => ?_) (fun cd => ?_)
    exact h1 cd
  · first | refine And.intro (fun cd => absurd cd (by decide)) (fun _ => ?_) | refine And.intro (fun _ => ?_) (fun cd => absurd cd (by decide)) | refine And.intro (fun cd => ?_) (fun cd => ?_)
    refine And.intro (fun c2 => ?_) (fun c2 => ?_)
    · exact sp_found 2 rfl (by decide) (h2 cd (by omega))
    · refine And.intro (fun c3 => ?_) (fun c3 => ?_)
      · exact h0 (by omega) (by omega)
      · exact sp_found 2 rfl (by decide) (h2 cd (by omega))
theorem sp_ref_54 (h1 : (I 54 1).toInt < 0 → Q (some (.int (-3))) t (am_u (am_u I 36 3 1) 37 1 (I 37 1 + 1)) L) (h0 : 0 ≤ (I 54 1).toInt → Q (some (.int 0)) t I L) : bm_C G l 56 [.ref 0, .ref 54] t I L Q := by
  refine bm_go (am_ok_all 56 (by decide)) 20 ?_
  refine And.intro (fun cd => h0 cd) (fun cd => ?_)
  exact sp_found 1 rfl (by decide) (h1 cd)
theorem sp_refAt_54 {x : Int32} (h1 : (I 54 1).toInt < 0 → Q (some (.int (-3))) t (am_u (am_u I 36 3 1) 37 1 (I 37 1 + 1)) L) (h2 : 0 ≤ (I 54 1).toInt → (x.toInt < 0 ∨ (I 54 1).toInt ≤ x.toInt) → Q (some (.int (-3))) t (am_u (am_u I 36 3 2) 37 2 (I 37 2 + 1)) L) (h0 : 0 ≤ x.toInt → x.toInt < (I 54 1).toInt → Q (some (.int 0)) t I L) : bm_C G l 57 [.ref 0, .ref 54, .int x] t I L Q := by
  refine bm_go (am_ok_all 57 (by decide)) 20 ?_
  refine sp_ref_54 (fun cd => ?_) (fun cd => ?_)
  · first | refine And.intro (fun cd => absurd cd (by decide)) (fun _ => ?_) | refine And.intro (fun _ => ?_) (fun cd => absurd cd (by decide)) | refine And.intro (fun cd => ?_) (fun cd => ?_)
    exact h1 cd
  · first | refine And.intro (fun cd => absurd cd (by decide)) (fun _ => ?_) | refine And.intro (fun _ => ?_) (fun cd => absurd cd (by decide)) | refine And.intro (fun cd => ?_) (fun cd => ?_)
    refine And.intro (fun c2 => ?_) (fun c2 => ?_)
    · exact sp_found 2 rfl (by decide) (h2 cd (by omega))
    · refine And.intro (fun c3 => ?_) (fun c3 => ?_)
      · exact h0 (by omega) (by omega)
      · exact sp_found 2 rfl (by decide) (h2 cd (by omega))
theorem sp_ref_56 (h1 : (I 56 1).toInt < 0 → Q (some (.int (-3))) t (am_u (am_u I 36 3 1) 37 1 (I 37 1 + 1)) L) (h0 : 0 ≤ (I 56 1).toInt → Q (some (.int 0)) t I L) : bm_C G l 56 [.ref 0, .ref 56] t I L Q := by
  refine bm_go (am_ok_all 56 (by decide)) 20 ?_
  refine And.intro (fun cd => h0 cd) (fun cd => ?_)
  exact sp_found 1 rfl (by decide) (h1 cd)
theorem sp_refAt_56 {x : Int32} (h1 : (I 56 1).toInt < 0 → Q (some (.int (-3))) t (am_u (am_u I 36 3 1) 37 1 (I 37 1 + 1)) L) (h2 : 0 ≤ (I 56 1).toInt → (x.toInt < 0 ∨ (I 56 1).toInt ≤ x.toInt) → Q (some (.int (-3))) t (am_u (am_u I 36 3 2) 37 2 (I 37 2 + 1)) L) (h0 : 0 ≤ x.toInt → x.toInt < (I 56 1).toInt → Q (some (.int 0)) t I L) : bm_C G l 57 [.ref 0, .ref 56, .int x] t I L Q := by
  refine bm_go (am_ok_all 57 (by decide)) 20 ?_
  refine sp_ref_56 (fun cd => ?_) (fun cd => ?_)
  · first | refine And.intro (fun cd => absurd cd (by decide)) (fun _ => ?_) | refine And.intro (fun _ => ?_) (fun cd => absurd cd (by decide)) | refine And.intro (fun cd => ?_) (fun cd => ?_)
    exact h1 cd
  · first | refine And.intro (fun cd => absurd cd (by decide)) (fun _ => ?_) | refine And.intro (fun _ => ?_) (fun cd => absurd cd (by decide)) | refine And.intro (fun cd => ?_) (fun cd => ?_)
    refine And.intro (fun c2 => ?_) (fun c2 => ?_)
    · exact sp_found 2 rfl (by decide) (h2 cd (by omega))
    · refine And.intro (fun c3 => ?_) (fun c3 => ?_)
      · exact h0 (by omega) (by omega)
      · exact sp_found 2 rfl (by decide) (h2 cd (by omega))
theorem sp_refAtNull {x : Int32} (h : Q (some (.int (-1))) t I L) : bm_C G l 57 [.ref 0, .null, .int x] t I L Q := by
  refine bm_go (am_ok_all 57 (by decide)) 20 ?_
  refine sp_refNull ?_
  exact h
end ST

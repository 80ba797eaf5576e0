/-! what is left as it was -/
def frN (cs : List Nat) (I I' : am_I) : Prop := ∀ x, x ∉ cs → I' x = I x
theorem frN.refl (cs : List Nat) (I : am_I) : frN cs I I := fun _ _ => rfl
theorem frN.trans {cs : List Nat} {I I' I'' : am_I} (h : frN cs I I') (h2 : frN cs I' I'') : frN cs I I'' := fun x hx => (h2 x hx).trans (h x hx)
theorem frN.mono {cs ds : List Nat} {I I' : am_I} (h : frN cs I I') (hs : ∀ x, x ∈ cs → x ∈ ds) : frN ds I I' := fun x hx => h x (fun q => hx (hs x q))
theorem u_ne {I : am_I} {a j x : Nat} {v : Int32} (h : x ≠ a) : am_u I a j v x = I x := by
  funext y
  unfold am_u
  rw [if_neg (fun q => h q.1)]
theorem u_eq {I : am_I} {a j : Nat} {v : Int32} : am_u I a j v a j = v := by
  unfold am_u
  rw [if_pos ⟨rfl, rfl⟩]
theorem u_nj {I : am_I} {a j k : Nat} {v : Int32} (h : k ≠ j) : am_u I a j v a k = I a k := by
  unfold am_u
  rw [if_neg (fun q => h q.2)]
theorem frN.u {cs : List Nat} {I I' : am_I} (h : frN cs I I') {a j : Nat} {v : Int32} (ha : a ∈ cs) : frN cs I (am_u I' a j v) := fun x hx => by
  rw [u_ne (fun e => hx (by rw [e]; exact ha))]
  exact h x hx
/-- a row's first n places are v -/
def am_f (I : am_I) (o n : Nat) (v : Int32) : am_I := fun x y => if x = o ∧ y < n then v else I x y
theorem f_ne {I : am_I} {o n x : Nat} {v : Int32} (h : x ≠ o) : am_f I o n v x = I x := by
  funext y
  unfold am_f
  rw [if_neg (fun q => h q.1)]
theorem f_eq {I : am_I} {o n k : Nat} {v : Int32} (h : k < n) : am_f I o n v o k = v := by
  unfold am_f
  rw [if_pos ⟨rfl, h⟩]
theorem f_ge {I : am_I} {o n k : Nat} {v : Int32} (h : n ≤ k) : am_f I o n v o k = I o k := by
  unfold am_f
  rw [if_neg (fun q => by omega)]
theorem f_0 {I : am_I} {o : Nat} {v : Int32} : am_f I o 0 v = I := by
  funext x y
  unfold am_f
  rw [if_neg (fun q => by omega)]
theorem f_s {I : am_I} {o n : Nat} {v : Int32} : am_u (am_f I o n v) o n v = am_f I o (n + 1) v := by
  funext x y
  unfold am_u am_f
  by_cases h : x = o ∧ y = n
  · rw [if_pos h, if_pos ⟨h.1, by omega⟩]
  · rw [if_neg h]
    by_cases h2 : x = o ∧ y < n
    · rw [if_pos h2, if_pos ⟨h2.1, by omega⟩]
    · rw [if_neg h2, if_neg (fun q => by
        by_cases e : y = n
        · exact h ⟨q.1, e⟩
        · exact h2 ⟨q.1, by omega⟩)]
theorem frN.f {cs : List Nat} {I I' : am_I} (h : frN cs I I') {o n : Nat} {v : Int32} (ha : o ∈ cs) : frN cs I (am_f I' o n v) := fun x hx => by
  rw [f_ne (fun e => hx (by rw [e]; exact ha))]
  exact h x hx
/-- the cells that are filled: those whose rows Arrays.fill is given -/
def fils : List (Nat × Nat) := [(26, 8), (27, 4096), (28, 512), (29, 512), (31, 512), (32, 8), (33, 64), (35, 512), (39, 60), (41, 60), (43, 60), (45, 60), (47, 60), (49, 60), (51, 80), (53, 80), (55, 80), (57, 80)]
section FL
variable {G : am_G} {l : Launch} {t : am_T} {L : am_J} {Q : bm_P}
theorem sp_fill_26 {I : am_I} {v : Int32} (h : Q none t (am_f I 26 (am_SH 26).2 v) L) : bm_C G l 266 [.ref 26, .int v] t I L Q := by
  have hn : (am_SH 26).2 < 5000 := by decide
  have lp : ∀ d i y, (am_SH 26).2 - i = d → i ≤ (am_SH 26).2 → y = nI i → bm_W G l 266 5 [some (.ref 26), some (.int v), some (.int y), some (.int (Int32.ofNat (am_SH 26).2))] [] t (am_f I 26 i v) L Q := by
    intro d
    induction d with
    | zero =>
      intro i y hd hi hy
      obtain rfl : i = (am_SH 26).2 := by omega
      subst hy
      refine bm_go (am_ok_all 266 (by decide)) 20 ?_
      exact And.intro (fun cd => h) (fun cd => absurd cd (Int.lt_irrefl _))
    | succ d ih =>
      intro i y hd hi hy
      subst hy
      refine bm_go (am_ok_all 266 (by decide)) 20 ?_
      refine And.intro (fun cd => ?_) (fun cd => ?_)
      · have e1 := nI_toInt (n := i) (by omega)
        have e2 : (Int32.ofNat (am_SH 26).2).toInt = ((am_SH 26).2 : Int) := nI_toInt (by omega)
        omega
      · refine ⟨i, nI_toInt (by omega), (by omega : i < (am_SH 26).2), ?_⟩
        have := ih (i + 1) _ (by omega) (by omega) (nI_succ i).symm
        rw [← f_s] at this
        exact this
  refine bm_go (am_ok_all 266 (by decide)) 20 ?_
  have := lp _ 0 _ rfl (Nat.zero_le _) rfl
  rw [f_0] at this
  exact this
theorem sp_fill_27 {I : am_I} {v : Int32} (h : Q none t (am_f I 27 (am_SH 27).2 v) L) : bm_C G l 266 [.ref 27, .int v] t I L Q := by
  have hn : (am_SH 27).2 < 5000 := by decide
  have lp : ∀ d i y, (am_SH 27).2 - i = d → i ≤ (am_SH 27).2 → y = nI i → bm_W G l 266 5 [some (.ref 27), some (.int v), some (.int y), some (.int (Int32.ofNat (am_SH 27).2))] [] t (am_f I 27 i v) L Q := by
    intro d
    induction d with
    | zero =>
      intro i y hd hi hy
      obtain rfl : i = (am_SH 27).2 := by omega
      subst hy
      refine bm_go (am_ok_all 266 (by decide)) 20 ?_
      exact And.intro (fun cd => h) (fun cd => absurd cd (Int.lt_irrefl _))
    | succ d ih =>
      intro i y hd hi hy
      subst hy
      refine bm_go (am_ok_all 266 (by decide)) 20 ?_
      refine And.intro (fun cd => ?_) (fun cd => ?_)
      · have e1 := nI_toInt (n := i) (by omega)
        have e2 : (Int32.ofNat (am_SH 27).2).toInt = ((am_SH 27).2 : Int) := nI_toInt (by omega)
        omega
      · refine ⟨i, nI_toInt (by omega), (by omega : i < (am_SH 27).2), ?_⟩
        have := ih (i + 1) _ (by omega) (by omega) (nI_succ i).symm
        rw [← f_s] at this
        exact this
  refine bm_go (am_ok_all 266 (by decide)) 20 ?_
  have := lp _ 0 _ rfl (Nat.zero_le _) rfl
  rw [f_0] at this
  exact this
theorem sp_fill_28 {I : am_I} {v : Int32} (h : Q none t (am_f I 28 (am_SH 28).2 v) L) : bm_C G l 266 [.ref 28, .int v] t I L Q := by
  have hn : (am_SH 28).2 < 5000 := by decide
  have lp : ∀ d i y, (am_SH 28).2 - i = d → i ≤ (am_SH 28).2 → y = nI i → bm_W G l 266 5 [some (.ref 28), some (.int v), some (.int y), some (.int (Int32.ofNat (am_SH 28).2))] [] t (am_f I 28 i v) L Q := by
    intro d
    induction d with
    | zero =>
      intro i y hd hi hy
      obtain rfl : i = (am_SH 28).2 := by omega
      subst hy
      refine bm_go (am_ok_all 266 (by decide)) 20 ?_
      exact And.intro (fun cd => h) (fun cd => absurd cd (Int.lt_irrefl _))
    | succ d ih =>
      intro i y hd hi hy
      subst hy
      refine bm_go (am_ok_all 266 (by decide)) 20 ?_
      refine And.intro (fun cd => ?_) (fun cd => ?_)
      · have e1 := nI_toInt (n := i) (by omega)
        have e2 : (Int32.ofNat (am_SH 28).2).toInt = ((am_SH 28).2 : Int) := nI_toInt (by omega)
        omega
      · refine ⟨i, nI_toInt (by omega), (by omega : i < (am_SH 28).2), ?_⟩
        have := ih (i + 1) _ (by omega) (by omega) (nI_succ i).symm
        rw [← f_s] at this
        exact this
  refine bm_go (am_ok_all 266 (by decide)) 20 ?_
  have := lp _ 0 _ rfl (Nat.zero_le _) rfl
  rw [f_0] at this
  exact this
theorem sp_fill_29 {I : am_I} {v : Int32} (h : Q none t (am_f I 29 (am_SH 29).2 v) L) : bm_C G l 266 [.ref 29, .int v] t I L Q := by
  have hn : (am_SH 29).2 < 5000 := by decide
  have lp : ∀ d i y, (am_SH 29).2 - i = d → i ≤ (am_SH 29).2 → y = nI i → bm_W G l 266 5 [some (.ref 29), some (.int v), some (.int y), some (.int (Int32.ofNat (am_SH 29).2))] [] t (am_f I 29 i v) L Q := by
    intro d
    induction d with
    | zero =>
      intro i y hd hi hy
      obtain rfl : i = (am_SH 29).2 := by omega
      subst hy
      refine bm_go (am_ok_all 266 (by decide)) 20 ?_
      exact And.intro (fun cd => h) (fun cd => absurd cd (Int.lt_irrefl _))
    | succ d ih =>
      intro i y hd hi hy
      subst hy
      refine bm_go (am_ok_all 266 (by decide)) 20 ?_
      refine And.intro (fun cd => ?_) (fun cd => ?_)
      · have e1 := nI_toInt (n := i) (by omega)
        have e2 : (Int32.ofNat (am_SH 29).2).toInt = ((am_SH 29).2 : Int) := nI_toInt (by omega)
        omega
      · refine ⟨i, nI_toInt (by omega), (by omega : i < (am_SH 29).2), ?_⟩
        have := ih (i + 1) _ (by omega) (by omega) (nI_succ i).symm
        rw [← f_s] at this
        exact this
  refine bm_go (am_ok_all 266 (by decide)) 20 ?_
  have := lp _ 0 _ rfl (Nat.zero_le _) rfl
  rw [f_0] at this
  exact this
theorem sp_fill_31 {I : am_I} {v : Int32} (h : Q none t (am_f I 31 (am_SH 31).2 v) L) : bm_C G l 266 [.ref 31, .int v] t I L Q := by
  have hn : (am_SH 31).2 < 5000 := by decide
  have lp : ∀ d i y, (am_SH 31).2 - i = d → i ≤ (am_SH 31).2 → y = nI i → bm_W G l 266 5 [some (.ref 31), some (.int v), some (.int y), some (.int (Int32.ofNat (am_SH 31).2))] [] t (am_f I 31 i v) L Q := by
    intro d
    induction d with
    | zero =>
      intro i y hd hi hy
      obtain rfl : i = (am_SH 31).2 := by omega
      subst hy
      refine bm_go (am_ok_all 266 (by decide)) 20 ?_
      exact And.intro (fun cd => h) (fun cd => absurd cd (Int.lt_irrefl _))
    | succ d ih =>
      intro i y hd hi hy
      subst hy
      refine bm_go (am_ok_all 266 (by decide)) 20 ?_
      refine And.intro (fun cd => ?_) (fun cd => ?_)
      · have e1 := nI_toInt (n := i) (by omega)
        have e2 : (Int32.ofNat (am_SH 31).2).toInt = ((am_SH 31).2 : Int) := nI_toInt (by omega)
        omega
      · refine ⟨i, nI_toInt (by omega), (by omega : i < (am_SH 31).2), ?_⟩
        have := ih (i + 1) _ (by omega) (by omega) (nI_succ i).symm
        rw [← f_s] at this
        exact this
  refine bm_go (am_ok_all 266 (by decide)) 20 ?_
  have := lp _ 0 _ rfl (Nat.zero_le _) rfl
  rw [f_0] at this
  exact this
theorem sp_fill_32 {I : am_I} {v : Int32} (h : Q none t (am_f I 32 (am_SH 32).2 v) L) : bm_C G l 266 [.ref 32, .int v] t I L Q := by
  have hn : (am_SH 32).2 < 5000 := by decide
  have lp : ∀ d i y, (am_SH 32).2 - i = d → i ≤ (am_SH 32).2 → y = nI i → bm_W G l 266 5 [some (.ref 32), some (.int v), some (.int y), some (.int (Int32.ofNat (am_SH 32).2))] [] t (am_f I 32 i v) L Q := by
    intro d
    induction d with
    | zero =>
      intro i y hd hi hy
      obtain rfl : i = (am_SH 32).2 := by omega
      subst hy
      refine bm_go (am_ok_all 266 (by decide)) 20 ?_
      exact And.intro (fun cd => h) (fun cd => absurd cd (Int.lt_irrefl _))
    | succ d ih =>
      intro i y hd hi hy
      subst hy
      refine bm_go (am_ok_all 266 (by decide)) 20 ?_
      refine And.intro (fun cd => ?_) (fun cd => ?_)
      · have e1 := nI_toInt (n := i) (by omega)
        have e2 : (Int32.ofNat (am_SH 32).2).toInt = ((am_SH 32).2 : Int) := nI_toInt (by omega)
        omega
      · refine ⟨i, nI_toInt (by omega), (by omega : i < (am_SH 32).2), ?_⟩
        have := ih (i + 1) _ (by omega) (by omega) (nI_succ i).symm
        rw [← f_s] at this
        exact this
  refine bm_go (am_ok_all 266 (by decide)) 20 ?_
  have := lp _ 0 _ rfl (Nat.zero_le _) rfl
  rw [f_0] at this
  exact this
theorem sp_fill_33 {I : am_I} {v : Int32} (h : Q none t (am_f I 33 (am_SH 33).2 v) L) : bm_C G l 266 [.ref 33, .int v] t I L Q := by
  have hn : (am_SH 33).2 < 5000 := by decide
  have lp : ∀ d i y, (am_SH 33).2 - i = d → i ≤ (am_SH 33).2 → y = nI i → bm_W G l 266 5 [some (.ref 33), some (.int v), some (.int y), some (.int (Int32.ofNat (am_SH 33).2))] [] t (am_f I 33 i v) L Q := by
    intro d
    induction d with
    | zero =>
      intro i y hd hi hy
      obtain rfl : i = (am_SH 33).2 := by omega
      subst hy
      refine bm_go (am_ok_all 266 (by decide)) 20 ?_
      exact And.intro (fun cd => h) (fun cd => absurd cd (Int.lt_irrefl _))
    | succ d ih =>
      intro i y hd hi hy
      subst hy
      refine bm_go (am_ok_all 266 (by decide)) 20 ?_
      refine And.intro (fun cd => ?_) (fun cd => ?_)
      · have e1 := nI_toInt (n := i) (by omega)
        have e2 : (Int32.ofNat (am_SH 33).2).toInt = ((am_SH 33).2 : Int) := nI_toInt (by omega)
        omega
      · refine ⟨i, nI_toInt (by omega), (by omega : i < (am_SH 33).2), ?_⟩
        have := ih (i + 1) _ (by omega) (by omega) (nI_succ i).symm
        rw [← f_s] at this
        exact this
  refine bm_go (am_ok_all 266 (by decide)) 20 ?_
  have := lp _ 0 _ rfl (Nat.zero_le _) rfl
  rw [f_0] at this
  exact this
theorem sp_fill_35 {I : am_I} {v : Int32} (h : Q none t (am_f I 35 (am_SH 35).2 v) L) : bm_C G l 266 [.ref 35, .int v] t I L Q := by
  have hn : (am_SH 35).2 < 5000 := by decide
  have lp : ∀ d i y, (am_SH 35).2 - i = d → i ≤ (am_SH 35).2 → y = nI i → bm_W G l 266 5 [some (.ref 35), some (.int v), some (.int y), some (.int (Int32.ofNat (am_SH 35).2))] [] t (am_f I 35 i v) L Q := by
    intro d
    induction d with
    | zero =>
      intro i y hd hi hy
      obtain rfl : i = (am_SH 35).2 := by omega
      subst hy
      refine bm_go (am_ok_all 266 (by decide)) 20 ?_
      exact And.intro (fun cd => h) (fun cd => absurd cd (Int.lt_irrefl _))
    | succ d ih =>
      intro i y hd hi hy
      subst hy
      refine bm_go (am_ok_all 266 (by decide)) 20 ?_
      refine And.intro (fun cd => ?_) (fun cd => ?_)
      · have e1 := nI_toInt (n := i) (by omega)
        have e2 : (Int32.ofNat (am_SH 35).2).toInt = ((am_SH 35).2 : Int) := nI_toInt (by omega)
        omega
      · refine ⟨i, nI_toInt (by omega), (by omega : i < (am_SH 35).2), ?_⟩
        have := ih (i + 1) _ (by omega) (by omega) (nI_succ i).symm
        rw [← f_s] at this
        exact this
  refine bm_go (am_ok_all 266 (by decide)) 20 ?_
  have := lp _ 0 _ rfl (Nat.zero_le _) rfl
  rw [f_0] at this
  exact this
theorem sp_fill_39 {I : am_I} {v : Int32} (h : Q none t (am_f I 39 (am_SH 39).2 v) L) : bm_C G l 266 [.ref 39, .int v] t I L Q := by
  have hn : (am_SH 39).2 < 5000 := by decide
  have lp : ∀ d i y, (am_SH 39).2 - i = d → i ≤ (am_SH 39).2 → y = nI i → bm_W G l 266 5 [some (.ref 39), some (.int v), some (.int y), some (.int (Int32.ofNat (am_SH 39).2))] [] t (am_f I 39 i v) L Q := by
    intro d
    induction d with
    | zero =>
      intro i y hd hi hy
      obtain rfl : i = (am_SH 39).2 := by omega
      subst hy
      refine bm_go (am_ok_all 266 (by decide)) 20 ?_
      exact And.intro (fun cd => h) (fun cd => absurd cd (Int.lt_irrefl _))
    | succ d ih =>
      intro i y hd hi hy
      subst hy
      refine bm_go (am_ok_all 266 (by decide)) 20 ?_
      refine And.intro (fun cd => ?_) (fun cd => ?_)
      · have e1 := nI_toInt (n := i) (by omega)
        have e2 : (Int32.ofNat (am_SH 39).2).toInt = ((am_SH 39).2 : Int) := nI_toInt (by omega)
        omega
      · refine ⟨i, nI_toInt (by omega), (by omega : i < (am_SH 39).2), ?_⟩
        have := ih (i + 1) _ (by omega) (by omega) (nI_succ i).symm
        rw [← f_s] at this
        exact this
  refine bm_go (am_ok_all 266 (by decide)) 20 ?_
  have := lp _ 0 _ rfl (Nat.zero_le _) rfl
  rw [f_0] at this
  exact this
theorem sp_fill_41 {I : am_I} {v : Int32} (h : Q none t (am_f I 41 (am_SH 41).2 v) L) : bm_C G l 266 [.ref 41, .int v] t I L Q := by
  have hn : (am_SH 41).2 < 5000 := by decide
  have lp : ∀ d i y, (am_SH 41).2 - i = d → i ≤ (am_SH 41).2 → y = nI i → bm_W G l 266 5 [some (.ref 41), some (.int v), some (.int y), some (.int (Int32.ofNat (am_SH 41).2))] [] t (am_f I 41 i v) L Q := by
    intro d
    induction d with
    | zero =>
      intro i y hd hi hy
      obtain rfl : i = (am_SH 41).2 := by omega
      subst hy
      refine bm_go (am_ok_all 266 (by decide)) 20 ?_
      exact And.intro (fun cd => h) (fun cd => absurd cd (Int.lt_irrefl _))
    | succ d ih =>
      intro i y hd hi hy
      subst hy
      refine bm_go (am_ok_all 266 (by decide)) 20 ?_
      refine And.intro (fun cd => ?_) (fun cd => ?_)
      · have e1 := nI_toInt (n := i) (by omega)
        have e2 : (Int32.ofNat (am_SH 41).2).toInt = ((am_SH 41).2 : Int) := nI_toInt (by omega)
        omega
      · refine ⟨i, nI_toInt (by omega), (by omega : i < (am_SH 41).2), ?_⟩
        have := ih (i + 1) _ (by omega) (by omega) (nI_succ i).symm
        rw [← f_s] at this
        exact this
  refine bm_go (am_ok_all 266 (by decide)) 20 ?_
  have := lp _ 0 _ rfl (Nat.zero_le _) rfl
  rw [f_0] at this
  exact this
theorem sp_fill_43 {I : am_I} {v : Int32} (h : Q none t (am_f I 43 (am_SH 43).2 v) L) : bm_C G l 266 [.ref 43, .int v] t I L Q := by
  have hn : (am_SH 43).2 < 5000 := by decide
  have lp : ∀ d i y, (am_SH 43).2 - i = d → i ≤ (am_SH 43).2 → y = nI i → bm_W G l 266 5 [some (.ref 43), some (.int v), some (.int y), some (.int (Int32.ofNat (am_SH 43).2))] [] t (am_f I 43 i v) L Q := by
    intro d
    induction d with
    | zero =>
      intro i y hd hi hy
      obtain rfl : i = (am_SH 43).2 := by omega
      subst hy
      refine bm_go (am_ok_all 266 (by decide)) 20 ?_
      exact And.intro (fun cd => h) (fun cd => absurd cd (Int.lt_irrefl _))
    | succ d ih =>
      intro i y hd hi hy
      subst hy
      refine bm_go (am_ok_all 266 (by decide)) 20 ?_
      refine And.intro (fun cd => ?_) (fun cd => ?_)
      · have e1 := nI_toInt (n := i) (by omega)
        have e2 : (Int32.ofNat (am_SH 43).2).toInt = ((am_SH 43).2 : Int) := nI_toInt (by omega)
        omega
      · refine ⟨i, nI_toInt (by omega), (by omega : i < (am_SH 43).2), ?_⟩
        have := ih (i + 1) _ (by omega) (by omega) (nI_succ i).symm
        rw [← f_s] at this
        exact this
  refine bm_go (am_ok_all 266 (by decide)) 20 ?_
  have := lp _ 0 _ rfl (Nat.zero_le _) rfl
  rw [f_0] at this
  exact this
theorem sp_fill_45 {I : am_I} {v : Int32} (h : Q none t (am_f I 45 (am_SH 45).2 v) L) : bm_C G l 266 [.ref 45, .int v] t I L Q := by
  have hn : (am_SH 45).2 < 5000 := by decide
  have lp : ∀ d i y, (am_SH 45).2 - i = d → i ≤ (am_SH 45).2 → y = nI i → bm_W G l 266 5 [some (.ref 45), some (.int v), some (.int y), some (.int (Int32.ofNat (am_SH 45).2))] [] t (am_f I 45 i v) L Q := by
    intro d
    induction d with
    | zero =>
      intro i y hd hi hy
      obtain rfl : i = (am_SH 45).2 := by omega
      subst hy
      refine bm_go (am_ok_all 266 (by decide)) 20 ?_
      exact And.intro (fun cd => h) (fun cd => absurd cd (Int.lt_irrefl _))
    | succ d ih =>
      intro i y hd hi hy
      subst hy
      refine bm_go (am_ok_all 266 (by decide)) 20 ?_
      refine And.intro (fun cd => ?_) (fun cd => ?_)
      · have e1 := nI_toInt (n := i) (by omega)
        have e2 : (Int32.ofNat (am_SH 45).2).toInt = ((am_SH 45).2 : Int) := nI_toInt (by omega)
        omega
      · refine ⟨i, nI_toInt (by omega), (by omega : i < (am_SH 45).2), ?_⟩
        have := ih (i + 1) _ (by omega) (by omega) (nI_succ i).symm
        rw [← f_s] at this
        exact this
  refine bm_go (am_ok_all 266 (by decide)) 20 ?_
  have := lp _ 0 _ rfl (Nat.zero_le _) rfl
  rw [f_0] at this
  exact this
theorem sp_fill_47 {I : am_I} {v : Int32} (h : Q none t (am_f I 47 (am_SH 47).2 v) L) : bm_C G l 266 [.ref 47, .int v] t I L Q := by
  have hn : (am_SH 47).2 < 5000 := by decide
  have lp : ∀ d i y, (am_SH 47).2 - i = d → i ≤ (am_SH 47).2 → y = nI i → bm_W G l 266 5 [some (.ref 47), some (.int v), some (.int y), some (.int (Int32.ofNat (am_SH 47).2))] [] t (am_f I 47 i v) L Q := by
    intro d
    induction d with
    | zero =>
      intro i y hd hi hy
      obtain rfl : i = (am_SH 47).2 := by omega
      subst hy
      refine bm_go (am_ok_all 266 (by decide)) 20 ?_
      exact And.intro (fun cd => h) (fun cd => absurd cd (Int.lt_irrefl _))
    | succ d ih =>
      intro i y hd hi hy
      subst hy
      refine bm_go (am_ok_all 266 (by decide)) 20 ?_
      refine And.intro (fun cd => ?_) (fun cd => ?_)
      · have e1 := nI_toInt (n := i) (by omega)
        have e2 : (Int32.ofNat (am_SH 47).2).toInt = ((am_SH 47).2 : Int) := nI_toInt (by omega)
        omega
      · refine ⟨i, nI_toInt (by omega), (by omega : i < (am_SH 47).2), ?_⟩
        have := ih (i + 1) _ (by omega) (by omega) (nI_succ i).symm
        rw [← f_s] at this
        exact this
  refine bm_go (am_ok_all 266 (by decide)) 20 ?_
  have := lp _ 0 _ rfl (Nat.zero_le _) rfl
  rw [f_0] at this
  exact this
theorem sp_fill_49 {I : am_I} {v : Int32} (h : Q none t (am_f I 49 (am_SH 49).2 v) L) : bm_C G l 266 [.ref 49, .int v] t I L Q := by
  have hn : (am_SH 49).2 < 5000 := by decide
  have lp : ∀ d i y, (am_SH 49).2 - i = d → i ≤ (am_SH 49).2 → y = nI i → bm_W G l 266 5 [some (.ref 49), some (.int v), some (.int y), some (.int (Int32.ofNat (am_SH 49).2))] [] t (am_f I 49 i v) L Q := by
    intro d
    induction d with
    | zero =>
      intro i y hd hi hy
      obtain rfl : i = (am_SH 49).2 := by omega
      subst hy
      refine bm_go (am_ok_all 266 (by decide)) 20 ?_
      exact And.intro (fun cd => h) (fun cd => absurd cd (Int.lt_irrefl _))
    | succ d ih =>
      intro i y hd hi hy
      subst hy
      refine bm_go (am_ok_all 266 (by decide)) 20 ?_
      refine And.intro (fun cd => ?_) (fun cd => ?_)
      · have e1 := nI_toInt (n := i) (by omega)
        have e2 : (Int32.ofNat (am_SH 49).2).toInt = ((am_SH 49).2 : Int) := nI_toInt (by omega)
        omega
      · refine ⟨i, nI_toInt (by omega), (by omega : i < (am_SH 49).2), ?_⟩
        have := ih (i + 1) _ (by omega) (by omega) (nI_succ i).symm
        rw [← f_s] at this
        exact this
  refine bm_go (am_ok_all 266 (by decide)) 20 ?_
  have := lp _ 0 _ rfl (Nat.zero_le _) rfl
  rw [f_0] at this
  exact this
theorem sp_fill_51 {I : am_I} {v : Int32} (h : Q none t (am_f I 51 (am_SH 51).2 v) L) : bm_C G l 266 [.ref 51, .int v] t I L Q := by
  have hn : (am_SH 51).2 < 5000 := by decide
  have lp : ∀ d i y, (am_SH 51).2 - i = d → i ≤ (am_SH 51).2 → y = nI i → bm_W G l 266 5 [some (.ref 51), some (.int v), some (.int y), some (.int (Int32.ofNat (am_SH 51).2))] [] t (am_f I 51 i v) L Q := by
    intro d
    induction d with
    | zero =>
      intro i y hd hi hy
      obtain rfl : i = (am_SH 51).2 := by omega
      subst hy
      refine bm_go (am_ok_all 266 (by decide)) 20 ?_
      exact And.intro (fun cd => h) (fun cd => absurd cd (Int.lt_irrefl _))
    | succ d ih =>
      intro i y hd hi hy
      subst hy
      refine bm_go (am_ok_all 266 (by decide)) 20 ?_
      refine And.intro (fun cd => ?_) (fun cd => ?_)
      · have e1 := nI_toInt (n := i) (by omega)
        have e2 : (Int32.ofNat (am_SH 51).2).toInt = ((am_SH 51).2 : Int) := nI_toInt (by omega)
        omega
      · refine ⟨i, nI_toInt (by omega), (by omega : i < (am_SH 51).2), ?_⟩
        have := ih (i + 1) _ (by omega) (by omega) (nI_succ i).symm
        rw [← f_s] at this
        exact this
  refine bm_go (am_ok_all 266 (by decide)) 20 ?_
  have := lp _ 0 _ rfl (Nat.zero_le _) rfl
  rw [f_0] at this
  exact this
theorem sp_fill_53 {I : am_I} {v : Int32} (h : Q none t (am_f I 53 (am_SH 53).2 v) L) : bm_C G l 266 [.ref 53, .int v] t I L Q := by
  have hn : (am_SH 53).2 < 5000 := by decide
  have lp : ∀ d i y, (am_SH 53).2 - i = d → i ≤ (am_SH 53).2 → y = nI i → bm_W G l 266 5 [some (.ref 53), some (.int v), some (.int y), some (.int (Int32.ofNat (am_SH 53).2))] [] t (am_f I 53 i v) L Q := by
    intro d
    induction d with
    | zero =>
      intro i y hd hi hy
      obtain rfl : i = (am_SH 53).2 := by omega
      subst hy
      refine bm_go (am_ok_all 266 (by decide)) 20 ?_
      exact And.intro (fun cd => h) (fun cd => absurd cd (Int.lt_irrefl _))
    | succ d ih =>
      intro i y hd hi hy
      subst hy
      refine bm_go (am_ok_all 266 (by decide)) 20 ?_
      refine And.intro (fun cd => ?_) (fun cd => ?_)
      · have e1 := nI_toInt (n := i) (by omega)
        have e2 : (Int32.ofNat (am_SH 53).2).toInt = ((am_SH 53).2 : Int) := nI_toInt (by omega)
        omega
      · refine ⟨i, nI_toInt (by omega), (by omega : i < (am_SH 53).2), ?_⟩
        have := ih (i + 1) _ (by omega) (by omega) (nI_succ i).symm
        rw [← f_s] at this
        exact this
  refine bm_go (am_ok_all 266 (by decide)) 20 ?_
  have := lp _ 0 _ rfl (Nat.zero_le _) rfl
  rw [f_0] at this
  exact this
theorem sp_fill_55 {I : am_I} {v : Int32} (h : Q none t (am_f I 55 (am_SH 55).2 v) L) : bm_C G l 266 [.ref 55, .int v] t I L Q := by
  have hn : (am_SH 55).2 < 5000 := by decide
  have lp : ∀ d i y, (am_SH 55).2 - i = d → i ≤ (am_SH 55).2 → y = nI i → bm_W G l 266 5 [some (.ref 55), some (.int v), some (.int y), some (.int (Int32.ofNat (am_SH 55).2))] [] t (am_f I 55 i v) L Q := by
    intro d
    induction d with
    | zero =>
      intro i y hd hi hy
      obtain rfl : i = (am_SH 55).2 := by omega
      subst hy
      refine bm_go (am_ok_all 266 (by decide)) 20 ?_
      exact And.intro (fun cd => h) (fun cd => absurd cd (Int.lt_irrefl _))
    | succ d ih =>
      intro i y hd hi hy
      subst hy
      refine bm_go (am_ok_all 266 (by decide)) 20 ?_
      refine And.intro (fun cd => ?_) (fun cd => ?_)
      · have e1 := nI_toInt (n := i) (by omega)
        have e2 : (Int32.ofNat (am_SH 55).2).toInt = ((am_SH 55).2 : Int) := nI_toInt (by omega)
        omega
      · refine ⟨i, nI_toInt (by omega), (by omega : i < (am_SH 55).2), ?_⟩
        have := ih (i + 1) _ (by omega) (by omega) (nI_succ i).symm
        rw [← f_s] at this
        exact this
  refine bm_go (am_ok_all 266 (by decide)) 20 ?_
  have := lp _ 0 _ rfl (Nat.zero_le _) rfl
  rw [f_0] at this
  exact this
theorem sp_fill_57 {I : am_I} {v : Int32} (h : Q none t (am_f I 57 (am_SH 57).2 v) L) : bm_C G l 266 [.ref 57, .int v] t I L Q := by
  have hn : (am_SH 57).2 < 5000 := by decide
  have lp : ∀ d i y, (am_SH 57).2 - i = d → i ≤ (am_SH 57).2 → y = nI i → bm_W G l 266 5 [some (.ref 57), some (.int v), some (.int y), some (.int (Int32.ofNat (am_SH 57).2))] [] t (am_f I 57 i v) L Q := by
    intro d
    induction d with
    | zero =>
      intro i y hd hi hy
      obtain rfl : i = (am_SH 57).2 := by omega
      subst hy
      refine bm_go (am_ok_all 266 (by decide)) 20 ?_
      exact And.intro (fun cd => h) (fun cd => absurd cd (Int.lt_irrefl _))
    | succ d ih =>
      intro i y hd hi hy
      subst hy
      refine bm_go (am_ok_all 266 (by decide)) 20 ?_
      refine And.intro (fun cd => ?_) (fun cd => ?_)
      · have e1 := nI_toInt (n := i) (by omega)
        have e2 : (Int32.ofNat (am_SH 57).2).toInt = ((am_SH 57).2 : Int) := nI_toInt (by omega)
        omega
      · refine ⟨i, nI_toInt (by omega), (by omega : i < (am_SH 57).2), ?_⟩
        have := ih (i + 1) _ (by omega) (by omega) (nI_succ i).symm
        rw [← f_s] at this
        exact this
  refine bm_go (am_ok_all 266 (by decide)) 20 ?_
  have := lp _ 0 _ rfl (Nat.zero_le _) rfl
  rw [f_0] at this
  exact this
end FL

/-! the fewest to leave dark, the most that can be bright: which set comes out -/
def bef (a b : Nat) : Prop := pc a < pc b ∨ (pc a = pc b ∧ a < b)
def mnm (p : Nat → Prop) (n b : Nat) : Prop := b ≤ n ∧ p b ∧ ∀ j, j ≤ n → p j → pc b < pc j ∨ (pc b = pc j ∧ b ≤ j)
theorem mnm_u {p : Nat → Prop} {n a b : Nat} (h : mnm p n a) (g : mnm p n b) : a = b := by
  have h1 := h.2.2 b g.1 g.2.1
  have g1 := g.2.2 a h.1 h.2.1
  omega
def brt (P : Nat → Option Nat) : Nat → Nat × Nat
  | 0 => (0, 0)
  | i + 1 => match P i with
    | none => brt P i
    | some v => if (brt P i).2 < v ∨ (v = (brt P i).2 ∧ pc i < pc (brt P i).1) then (i, v) else brt P i
theorem brt_le (P : Nat → Option Nat) : ∀ i, (brt P i).1 ≤ i
  | 0 => Nat.le_refl 0
  | i + 1 => by
    have ih := brt_le P i
    unfold brt
    split
    · omega
    · split
      · show i ≤ i + 1; omega
      · omega
theorem brt_v {P : Nat → Option Nat} {f : Nat → Nat} (h0 : f 0 = 0) (hP : ∀ i v, P i = some v → v = f i) : ∀ i, (brt P i).2 = f (brt P i).1
  | 0 => h0.symm
  | i + 1 => by
    have ih := brt_v h0 hP i
    unfold brt
    split
    · exact ih
    · rename_i v e
      split
      · exact hP i v e
      · exact ih
theorem al_sub : ∀ n, n < 7 → ∀ s, s < 64 → s < 2 ^ n → (2 ^ n - 1) &&& cm s = 2 ^ n - 1 - s := by decide +kernel
theorem and63n {n : Nat} (h : n < 64) : nI n &&& 63 = nI n := Int32.toInt_inj.mp (by rw [and63 h, nI_toInt (by omega)])
section PD
variable {G : am_G} {l : Launch} {t : am_T} {I : am_I} {L : am_J} {Q : bm_P}
theorem sp_isBefore {x y : Int32} (a b : Nat) (hx : x = nI a) (hy : y = nI b) (ha : a < 2 ^ 31) (hb : b < 2 ^ 31) (h1 : bef a b → Q (some (.int 1)) t I L) (h0 : ¬ bef a b → Q (some (.int 0)) t I L) : bm_C G l 52 [.int x, .int y] t I L Q := by
  subst hx hy
  have pa := pc_le a
  have pb := pc_le b
  have sub : (nI (pc a) - nI (pc b)).toInt = (pc a : Int) - pc b := pk_sub_toInt (by omega) (by omega)
  have ta : (nI a).toInt = (a : Int) := nI_toInt (by omega)
  have tb : (nI b).toInt = (b : Int) := nI_toInt (by omega)
  refine bm_go (am_ok_all 52 (by decide)) 60 ?_
  refine sp_bitCount a rfl (by omega) ?_
  refine sp_bitCount b rfl (by omega) ?_
  refine And.intro (fun cd => ?_) (fun cd => ?_)
  · rw [sub] at cd
    have cd : (pc a : Int) - pc b = 0 := cd
    refine And.intro (fun c2 => ?_) (fun c2 => ?_)
    · rw [ta, tb] at c2
      exact ⟨Or.inl rfl, h0 (fun w => by unfold bef at w; omega)⟩
    · rw [ta, tb] at c2
      exact ⟨Or.inr rfl, h1 (Or.inr ⟨by omega, by omega⟩)⟩
  · rw [sub] at cd
    have cd : ¬ ((pc a : Int) - pc b = 0) := cd
    refine And.intro (fun c2 => ?_) (fun c2 => ?_)
    · rw [sub] at c2
      have c2 : 0 ≤ (pc a : Int) - pc b := c2
      exact ⟨Or.inl rfl, h0 (fun w => by unfold bef at w; omega)⟩
    · rw [sub] at c2
      have c2 : (pc a : Int) - pc b < 0 := c2
      exact ⟨Or.inr rfl, h1 (Or.inl (by omega))⟩
theorem sp_fewestDark {T : tT} (sh : Nat) (h6 : tN T ≤ 6) (h4 : I 25 4 = nI (al T)) (hF : ∀ s, s ≤ al T → I 30 s = eN (Fm (gap T sh) s)) (h : ∀ b, mnm (fun s => Fm (gap T sh) (al T - s) ≠ none) (al T) b → Q (some (.int (nI b))) t I L) : bm_C G l 197 [.ref 25] t I L Q := by
  have p := Nat.two_pow_pos (tN T)
  have p6 := Nat.pow_le_pow_right (n := 2) (by decide) h6
  have a64 : al T < 64 := by unfold al; omega
  have T20 : (1048576 : Int32).toInt = 1048576 := rfl
  have lp : ∀ d i b x y, al T + 1 - i = d → i ≤ al T + 1 → x = nI b → y = nI i → b ≤ al T → Fm (gap T sh) (al T - b) ≠ none → (∀ j, j < i → Fm (gap T sh) (al T - j) ≠ none → pc b < pc j ∨ (pc b = pc j ∧ b ≤ j)) → bm_W G l 197 7 [some (.ref 25), some (.int x), some (.int y)] [] t I L Q := by
    intro d
    induction d with
    | zero =>
      intro i b x y hd hi ex ey hb hf hm
      subst ex ey
      refine bm_go (am_ok_all 197 (by decide)) 40 ?_
      refine And.intro (fun _ => h b ⟨hb, hf, fun j hj => hm j (by omega)⟩) (fun cd => ?_)
      rw [h4, nI_toInt (by omega), nI_toInt (by omega)] at cd
      omega
    | succ d ih =>
      intro i b x y hd hi ex ey hb hf hm
      subst ex ey
      have ai : I 25 4 &&& (nI i ^^^ (-1)) = nI (al T - i) := by
        rw [h4, km1, n_cm, n_and]
        have := al_sub (tN T) (by omega) i (by omega) (by unfold al at hd; omega)
        unfold al
        rw [this]
      have ob := Fm_ob (g := gap T sh) (fun _ _ _ _ e => gap_lt e) (s := al T - i) (by omega)
      have hF1 := hF (al T - i) (by omega)
      refine bm_go (am_ok_all 197 (by decide)) 60 ?_
      refine And.intro (fun cd => ?_) (fun _ => ?_)
      · rw [h4, nI_toInt (by omega), nI_toInt (by omega)] at cd
        omega
      refine ⟨al T - i, by rw [ai]; exact and63 (by omega), (by omega : al T - i < 64), ?_⟩
      refine And.intro (fun cd => ?_) (fun cd => ?_)
      · rw [T20, hF1] at cd
        have e := (eN_nv ob).mp cd
        refine ih (i + 1) b _ _ (by omega) (by omega) rfl (nI_succ i).symm hb hf (fun j hj hp => ?_)
        by_cases q : j = i
        · subst q; exact absurd e hp
        · exact hm j (by omega) hp
      · rw [T20, hF1] at cd
        have e : Fm (gap T sh) (al T - i) ≠ none := fun e => by have := (eN_nv ob).mpr e; omega
        refine sp_isBefore i b rfl rfl (by omega) (by omega) (fun q => ?_) (fun q => ?_)
        · first | refine And.intro (fun cd => absurd cd (by decide)) (fun _ => ?_) | refine And.intro (fun _ => ?_) (fun cd => absurd cd (by decide)) | refine And.intro (fun cd => ?_) (fun cd => ?_)
          refine ih (i + 1) i _ _ (by omega) (by omega) rfl (nI_succ i).symm (by omega) e (fun j hj hp => ?_)
          by_cases w : j = i
          · subst w; exact Or.inr ⟨rfl, Nat.le_refl _⟩
          · have := hm j (by omega) hp
            unfold bef at q
            omega
        · first | refine And.intro (fun cd => absurd cd (by decide)) (fun _ => ?_) | refine And.intro (fun _ => ?_) (fun cd => absurd cd (by decide)) | refine And.intro (fun cd => ?_) (fun cd => ?_)
          refine ih (i + 1) b _ _ (by omega) (by omega) rfl (nI_succ i).symm hb hf (fun j hj hp => ?_)
          by_cases w : j = i
          · subst w
            unfold bef at q
            omega
          · exact hm j (by omega) hp
  refine bm_go (am_ok_all 197 (by decide)) 40 ?_
  refine lp _ 0 (al T) _ _ rfl (Nat.zero_le _) h4 rfl (Nat.le_refl _) ?_ (fun j hj => by omega)
  rw [Nat.sub_self, Fm_0]
  intro e
  cases e
def brP (T : tT) (sh : Nat) (s : Nat) : Option Nat := if Fm (gap T sh) s = none then none else some (pc (lit T sh s))
theorem sp_brightest {T : tT} (sh : Nat) (h6 : tN T ≤ 6) (hok : tOk T) (h4 : I 25 4 = nI (al T)) (ht : t.2.2 = some 12) (hL : cL T sh 13 I) (hF : ∀ s, s ≤ al T → I 30 s = eN (Fm (gap T sh) s)) (h : Q (some (.int (nI (brt (brP T sh) (al T + 1)).1))) t I L) : bm_C G l 198 [.ref 25] t I L Q := by
  obtain ⟨t1, t2, t3⟩ := t
  have ht : t3 = some 12 := ht
  subst ht
  have p := Nat.two_pow_pos (tN T)
  have p6 := Nat.pow_le_pow_right (n := 2) (by decide) h6
  have a64 : al T < 64 := by unfold al; omega
  have T20 : (1048576 : Int32).toInt = 1048576 := rfl
  have hf0 : pc (lit T sh 0) = 0 := by rw [lit_0]; exact pc_0
  have hP : ∀ i v, brP T sh i = some v → v = pc (lit T sh i) := fun i v e => by
    unfold brP at e
    split at e
    · cases e
    · exact (Option.some.inj e).symm
  have lp : ∀ d i x z y d4, al T + 1 - i = d → i ≤ al T + 1 → x = nI (brt (brP T sh) i).1 → z = nI (brt (brP T sh) i).2 → y = nI i → bm_W G l 198 6 [some (.ref 25), some (.int x), some (.int z), some (.int y), d4] [] (t1, t2, some 12) I L Q := by
    intro d
    induction d with
    | zero =>
      intro i x z y d4 hd hi ex ez ey
      obtain rfl : i = al T + 1 := by omega
      subst ex ez ey
      refine bm_go (am_ok_all 198 (by decide)) 40 ?_
      refine And.intro (fun _ => h) (fun cd => ?_)
      rw [h4, nI_toInt (by omega), nI_toInt (by omega)] at cd
      omega
    | succ d ih =>
      intro i x z y d4 hd hi ex ez ey
      subst ex ez ey
      have ob := Fm_ob (g := gap T sh) (fun _ _ _ _ e => gap_lt e) (s := i) (by omega)
      have hF1 := hF i (by omega)
      have bl := brt_le (brP T sh) i
      have bv : (brt (brP T sh) i).2 = pc (lit T sh (brt (brP T sh) i).1) := brt_v (f := fun i => pc (lit T sh i)) hf0 hP i
      have bv2 := pc_le (lit T sh (brt (brP T sh) i).1)
      have st : brt (brP T sh) (i + 1) = match brP T sh i with
        | none => brt (brP T sh) i
        | some v => if (brt (brP T sh) i).2 < v ∨ (v = (brt (brP T sh) i).2 ∧ pc i < pc (brt (brP T sh) i).1) then (i, v) else brt (brP T sh) i := rfl
      generalize hB : brt (brP T sh) i = B at *
      have te : (nI B.2).toInt = (B.2 : Int) := nI_toInt (by omega)
      have same : brt (brP T sh) (i + 1) = B → ∀ d4, bm_W G l 198 6 [some (.ref 25), some (.int (nI B.1)), some (.int (nI B.2)), some (.int (nI i + 1)), d4] [] (t1, t2, some 12) I L Q := fun e d4 => ih (i + 1) _ _ _ d4 (by omega) (by omega) (by rw [e]) (by rw [e]) (nI_succ i).symm
      refine bm_go (am_ok_all 198 (by decide)) 60 ?_
      refine And.intro (fun cd => ?_) (fun _ => ?_)
      · rw [h4, nI_toInt (by omega), nI_toInt (by omega)] at cd
        omega
      refine ⟨i, and63 (by omega), (by omega : i < 64), ?_⟩
      refine And.intro (fun cd => ?_) (fun cd => ?_)
      · rw [T20, hF1] at cd
        have e := (eN_nv ob).mp cd
        have eP : brP T sh i = none := if_pos e
        rw [eP] at st
        refine And.intro (fun c2 => ?_) (fun c2 => ?_)
        · rw [te] at c2
          exact absurd c2 (by show ¬ ((B.2 : Int) < -1); omega)
        · refine And.intro (fun _ => same st _) (fun c3 => ?_)
          rw [te] at c3
          exact absurd c3 (by show ¬ ((-1 : Int) = (B.2 : Int)); omega)
      · rw [T20, hF1] at cd
        have e : Fm (gap T sh) i ≠ none := fun e => by have := (eN_nv ob).mpr e; omega
        have eP : brP T sh i = some (pc (lit T sh i)) := if_neg e
        rw [eP] at st
        have pl := pc_le (lit T sh i)
        have tv : (nI (pc (lit T sh i))).toInt = (pc (lit T sh i) : Int) := nI_toInt (by omega)
        have new : brt (brP T sh) (i + 1) = (i, pc (lit T sh i)) → ∀ d4, bm_W G l 198 6 [some (.ref 25), some (.int (nI i)), some (.int (nI (pc (lit T sh i)))), some (.int (nI i + 1)), d4] [] (t1, t2, some 12) I L Q := fun e d4 => ih (i + 1) _ _ _ d4 (by omega) (by omega) (by rw [e]) (by rw [e]) (nI_succ i).symm
        refine sp_of 12 (Or.inl rfl) i rfl (by omega) ?_
        refine sp_bitCount (lit T sh i) (hL i (by omega)) (w24 (lit_24 (Or.inl hok) sh i)) ?_
        refine And.intro (fun c2 => ?_) (fun c2 => ?_)
        · rw [te, tv] at c2
          exact new (by rw [st]; exact if_pos (Or.inl (by omega))) _
        · rw [te, tv] at c2
          refine And.intro (fun c3 => ?_) (fun c3 => ?_)
          · rw [te, tv] at c3
            exact same (by rw [st]; exact if_neg (fun w => by omega)) _
          · rw [te, tv] at c3
            refine sp_isBefore i B.1 rfl rfl (by omega) (by omega) (fun q => ?_) (fun q => ?_)
            · first | refine And.intro (fun cd => absurd cd (by decide)) (fun _ => ?_) | refine And.intro (fun _ => ?_) (fun cd => absurd cd (by decide)) | refine And.intro (fun cd => ?_) (fun cd => ?_)
              unfold bef at q
              exact new (by rw [st]; exact if_pos (Or.inr ⟨by omega, by omega⟩)) _
            · first | refine And.intro (fun cd => absurd cd (by decide)) (fun _ => ?_) | refine And.intro (fun _ => ?_) (fun cd => absurd cd (by decide)) | refine And.intro (fun cd => ?_) (fun cd => ?_)
              unfold bef at q
              exact same (by rw [st]; exact if_neg (fun w => by omega)) _
  refine bm_go (am_ok_all 198 (by decide)) 40 ?_
  exact lp _ 0 _ _ _ _ rfl (Nat.zero_le _) rfl rfl rfl
end PD

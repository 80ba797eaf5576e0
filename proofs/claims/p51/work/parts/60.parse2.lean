/-! reading a text as a town: the class -/
theorem T35 : (35 : Int32).toInt = 35 := rfl
theorem T46 : (46 : Int32).toInt = 46 := rfl
theorem T68 : (68 : Int32).toInt = 68 := rfl
theorem T103 : (103 : Int32).toInt = 103 := rfl
section PB
variable {G : am_G} {l : Launch} {t2 : Option Nat × Option Nat} {I : am_I} {L : am_J} {Q : bm_P}
theorem sp_readSize (k n : Nat) (c : Nat → Int) (hk : k < 4) (hn : n ≤ 80) (ht : txC k n c I) (h9 : I 3 9 = nI 0) (h1 : ∀ p w h I', pS n c = (p, some (w, h)) → p ≤ n → frN [3] I I' → I' 3 9 = nI p → I' 3 0 = nI w → I' 3 1 = nI h → Q (some (.int 1)) (tK2 k t2) I' L) (h0 : ∀ p I', pS n c = (p, none) → p ≤ n → frN [3] I I' → I' 3 9 = nI p → Q (some (.int 0)) (tK2 k t2) I' L) : bm_C G l 206 [.ref 3] (tK2 k t2) I L Q := by
  have sl := (sk_le n c 0).2 (by omega)
  refine bm_go (am_ok_all 206 (by decide)) 60 ?_
  refine sp_skip k n c 0 hk hn (by omega) ht h9 ?_
  refine sp_next k n c (sk n c 0) hk hn (by omega) (ht.u (by decide)) u_eq (fun z hz => ?_)
  refine And.intro (fun cd => ?_) (fun cd => ?_)
  · rw [T103, hz] at cd
    have hlt := sg_lt (n := n) (c := c) (p := sk n c 0) (by omega)
    refine sp_figure k n c (sk n c 0 + 1) 2 6 hk hn (by omega) ((ht.u (by decide)).u (by decide)) (by exact (nI_succ _).symm) rfl rfl (by decide) (by decide) (fun w ew hw1 hw2 hw3 => ?_) (fun ew => ?_)
    · refine And.intro (fun _ => ?_) (fun cd => ?_)
      · refine sp_figure k n c (sk n c 0 + 1 + 1) 1 4 hk hn (by omega) ((((ht.u (by decide)).u (by decide)).u (by decide)).u (by decide)) (by rfl) rfl rfl (by decide) (by decide) (fun hh eh hh1 hh2 hh3 => ?_) (fun eh => ?_)
        · refine And.intro (fun cd => ?_) (fun _ => ?_)
          · have cd : (nI hh).toInt ≤ 0 := cd
            rw [nI_toInt (by omega)] at cd
            omega
          · refine ⟨Or.inr rfl, h1 (sk n c 0 + 3) w hh _ ?_ (by omega) ((((((frN.refl _ _).u (by decide)).u (by decide)).u (by decide)).u (by decide)).u (by decide) |>.u (by decide)) (by rfl) (by rfl) (by rfl)⟩
            unfold pS
            rw [if_pos cd, ew]
            show (match fgO n c 1 4 (sk n c 0 + 2) with
              | none => (sk n c 0 + 2, none)
              | some h => (sk n c 0 + 3, some (w, h))) = _
            rw [show sk n c 0 + 2 = sk n c 0 + 1 + 1 from rfl, eh]
        · refine And.intro (fun _ => ?_) (fun cd => absurd cd (by show ¬ (0 : Int) < (-1 : Int32).toInt; decide))
          refine ⟨Or.inl rfl, h0 (sk n c 0 + 2) _ ?_ (by omega) ((((((frN.refl _ _).u (by decide)).u (by decide)).u (by decide)).u (by decide)).u (by decide)) (by rfl)⟩
          unfold pS
          rw [if_pos cd, ew]
          show (match fgO n c 1 4 (sk n c 0 + 2) with
              | none => (sk n c 0 + 2, none)
              | some h => (sk n c 0 + 3, some (w, h))) = _
          rw [show sk n c 0 + 2 = sk n c 0 + 1 + 1 from rfl, eh]
      · have cd : (nI w).toInt < 0 := cd
        rw [nI_toInt (by omega)] at cd
        omega
    · refine And.intro (fun cd => absurd cd (by show ¬ (0 : Int) ≤ (-1 : Int32).toInt; decide)) (fun _ => ?_)
      refine ⟨Or.inl rfl, h0 (sk n c 0 + 1) _ ?_ (by omega) ((((frN.refl _ _).u (by decide)).u (by decide)).u (by decide)) (by exact (nI_succ _).symm)⟩
      unfold pS
      rw [if_pos cd, ew]
  · rw [T103, hz] at cd
    refine ⟨Or.inl rfl, h0 (sk n c 0) _ ?_ sl ((frN.refl _ _).u (by decide)) rfl⟩
    unfold pS
    rw [if_neg cd]
theorem eM_68 {D : Option Nat} (h : ∀ j, D = some j → j < 1000) : (eM D).toInt = (-9 : Int32).toInt ↔ D = none := em_ne h
/-- a cell's sign at its place -/
theorem sp_readCell {x : Int32} (k n : Nat) (c : Nat → Int) (q i S : Nat) (D : Option Nat) (hk : k < 4) (hn : n ≤ 80) (hq : q ≤ n) (ht : txC k n c I) (h9 : I 3 9 = nI q) (hx : x = nI i) (hi : i < 24) (hS : I 3 2 = nI S) (hD : I 3 3 = eM D) (hDl : ∀ j, D = some j → j < 1000)
    (hd : sgC n c q = 68 → D = none → ∀ I', frN [3] I I' → I' 3 9 = nI (q + 1) → I' 3 2 = nI (S ||| 1 <<< i) → I' 3 3 = nI i → I' 3 0 = I 3 0 → I' 3 1 = I 3 1 → q + 1 ≤ n → Q (some (.int 1)) (tK2 k t2) I' L)
    (hs : sgC n c q = 46 → ∀ I', frN [3] I I' → I' 3 9 = nI (q + 1) → I' 3 2 = nI (S ||| 1 <<< i) → I' 3 3 = eM D → I' 3 0 = I 3 0 → I' 3 1 = I 3 1 → q + 1 ≤ n → Q (some (.int 1)) (tK2 k t2) I' L)
    (hw : sgC n c q = 35 → ∀ I', frN [3] I I' → I' 3 9 = nI (q + 1) → I' 3 2 = nI S → I' 3 3 = eM D → I' 3 0 = I 3 0 → I' 3 1 = I 3 1 → q + 1 ≤ n → Q (some (.int 1)) (tK2 k t2) I' L)
    (h0 : ¬ (sgC n c q = 68 ∧ D = none) → ¬ sgC n c q = 46 → ¬ sgC n c q = 35 → Q (some (.int 0)) (tK2 k t2) I L) : bm_C G l 208 [.ref 3, .int x] (tK2 k t2) I L Q := by
  subst hx
  have e1 : I 3 2 ||| (1 : Int32) <<< (nI i &&& 31) = nI (S ||| 1 <<< i) := by rw [hS, shl1 (by omega), n_or]
  have e9 : I 3 9 + 1 = nI (q + 1) := by rw [h9, nI_succ]
  refine bm_go (am_ok_all 208 (by decide)) 60 ?_
  refine sp_next k n c q hk hn (by omega) ht h9 (fun z hz => ?_)
  have bad : ¬ (sgC n c q = 68 ∧ D = none) → bm_W G l 208 28 [some (.ref 3), some (.int (nI i)), some (.int z)] [] (tK2 k t2) I L Q := by
    intro nd
    refine bm_go (am_ok_all 208 (by decide)) 60 ?_
    refine And.intro (fun cd => ?_) (fun cd => ?_)
    · rw [T46, hz] at cd
      have hlt := sg_lt (n := n) (c := c) (p := q) (by omega)
      refine And.intro (fun c2 => ?_) (fun _ => ?_)
      · rw [T35, hz] at c2
        omega
      · exact ⟨Or.inr rfl, hs cd _ (((frN.refl _ _).u (by decide)).u (by decide)) (by exact e9) (by exact e1) (by exact hD) (by rfl) (by rfl) (by omega)⟩
    · rw [T46, hz] at cd
      refine And.intro (fun c2 => ?_) (fun c2 => ?_)
      · rw [T35, hz] at c2
        have hlt := sg_lt (n := n) (c := c) (p := q) (by omega)
        refine And.intro (fun _ => ?_) (fun c3 => absurd (by rw [T35, hz]; exact c2) c3)
        exact ⟨Or.inr rfl, hw c2 _ ((frN.refl _ _).u (by decide)) (by exact e9) (by exact hS) (by exact hD) (by rfl) (by rfl) (by omega)⟩
      · rw [T35, hz] at c2
        exact ⟨Or.inl rfl, h0 nd cd c2⟩
  by_cases c68 : sgC n c q = 68
  · by_cases cD : D = none
    · refine And.intro (fun cd => absurd (by rw [T68, hz]; exact c68) cd) (fun _ => ?_)
      refine And.intro (fun cd => ?_) (fun _ => ?_)
      · rw [hD] at cd
        exact absurd ((eM_68 hDl).mpr cD) cd
      · have hlt := sg_lt (n := n) (c := c) (p := q) (by omega)
        refine And.intro (fun c2 => ?_) (fun _ => ?_)
        · rw [T35, hz] at c2
          omega
        · exact ⟨Or.inr rfl, hd c68 cD _ ((((frN.refl _ _).u (by decide)).u (by decide)).u (by decide)) (by exact e9) (by exact e1) (by rfl) (by rfl) (by rfl) (by omega)⟩
    · have b := bad (fun q => cD q.2)
      unfold bm_W at b
      refine And.intro (fun cd => absurd (by rw [T68, hz]; exact c68) cd) (fun _ => ?_)
      refine And.intro (fun _ => ?_) (fun cd => ?_)
      · refine And.intro (fun cd => ?_) (fun cd => ?_)
        · rw [T46, hz] at cd
          omega
        · refine And.intro (fun c2 => ?_) (fun c2 => ?_)
          · rw [T35, hz] at c2
            omega
          · exact ⟨Or.inl rfl, h0 (fun q => cD q.2) (by omega) (by omega)⟩
      · rw [hD] at cd
        exact absurd ((eM_68 hDl).mp cd) cD
  · refine And.intro (fun _ => ?_) (fun cd => ?_)
    · refine And.intro (fun cd => ?_) (fun cd => ?_)
      · rw [T46, hz] at cd
        have hlt := sg_lt (n := n) (c := c) (p := q) (by omega)
        refine And.intro (fun c2 => ?_) (fun _ => ?_)
        · rw [T35, hz] at c2
          omega
        · exact ⟨Or.inr rfl, hs cd _ (((frN.refl _ _).u (by decide)).u (by decide)) (by exact e9) (by exact e1) (by exact hD) (by rfl) (by rfl) (by omega)⟩
      · rw [T46, hz] at cd
        refine And.intro (fun c2 => ?_) (fun c2 => ?_)
        · rw [T35, hz] at c2
          have hlt := sg_lt (n := n) (c := c) (p := q) (by omega)
          refine And.intro (fun _ => ?_) (fun c3 => absurd (by rw [T35, hz]; exact c2) c3)
          exact ⟨Or.inr rfl, hw c2 _ ((frN.refl _ _).u (by decide)) (by exact e9) (by exact hS) (by exact hD) (by rfl) (by rfl) (by omega)⟩
        · rw [T35, hz] at c2
          exact ⟨Or.inl rfl, h0 (fun q => c68 q.1) cd c2⟩
    · rw [T68, hz] at cd
      exact absurd cd c68
theorem sp_readCells (k n : Nat) (c : Nat → Int) (p w h : Nat) (hk : k < 4) (hn : n ≤ 80) (hp : p ≤ n) (ht : txC k n c I) (h9 : I 3 9 = nI p) (hw : I 3 0 = nI w) (hh : I 3 1 = nI h) (hw6 : w ≤ 6) (hh4 : h ≤ 4)
    (h1 : ∀ q S D I', cP n c (w * h) 0 p 0 none = (q, some (S, some D)) → q ≤ n → frN [3] I I' → I' 3 9 = nI q → I' 3 2 = nI S → I' 3 3 = nI D → I' 3 0 = nI w → I' 3 1 = nI h → Q (some (.int 1)) (tK2 k t2) I' L)
    (h0 : ∀ q o I', cP n c (w * h) 0 p 0 none = (q, o) → (o = none ∨ ∃ S, o = some (S, none)) → q ≤ n → frN [3] I I' → I' 3 9 = nI q → Q (some (.int 0)) (tK2 k t2) I' L) : bm_C G l 207 [.ref 3] (tK2 k t2) I L Q := by
  have hwh : w * h ≤ 24 := Nat.mul_le_mul hw6 hh4
  generalize hres : cP n c (w * h) 0 p 0 none = res at *
  have lp : ∀ d i y q S D (I1 : am_I), w * h - i = d → i ≤ w * h → y = nI i → q ≤ n → frN [3] I I1 → I1 3 9 = nI q → I1 3 2 = nI S → I1 3 3 = eM D → (∀ j, D = some j → j < 1000) → I1 3 0 = nI w → I1 3 1 = nI h → cP n c d i q S D = res → bm_W G l 207 13 [some (.ref 3), some (.int y)] [] (tK2 k t2) I1 L Q := by
    intro d
    induction d with
    | zero =>
      intro i y q S D I1 hd hi hy hq f1 e9 e2 e3 hD e0 e1 er
      obtain rfl : i = w * h := by omega
      subst hy
      have er : (q, some (S, D)) = res := er
      refine bm_go (am_ok_all 207 (by decide)) 60 ?_
      refine And.intro (fun _ => ?_) (fun cd => ?_)
      · cases D with
        | none =>
          refine And.intro (fun _ => ?_) (fun cd => ?_)
          · exact ⟨Or.inl rfl, h0 q _ I1 er.symm (Or.inr ⟨S, rfl⟩) hq f1 e9⟩
          · rw [e3] at cd
            exact absurd rfl cd
        | some D =>
          refine And.intro (fun cd => ?_) (fun _ => ?_)
          · rw [e3] at cd
            have := (eM_68 hD).mp cd
            cases this
          · exact ⟨Or.inr rfl, h1 q S D I1 er.symm hq f1 e9 e2 e3 e0 e1⟩
      · rw [e0, e1, pk_mul] at cd
        omega
    | succ d ih =>
      intro i y q S D I1 hd hi hy hq f1 e9 e2 e3 hD e0 e1 er
      subst hy
      have ht1 : txC k n c I1 := by
        unfold txC at ht ⊢
        rw [f1 _ (by simp; omega), f1 _ (by simp; omega)]
        exact ht
      have sl := (sk_le n c q).2 hq
      have er : (if sgC n c (sk n c q) = 68 ∧ D = none then cP n c d (i + 1) (sk n c q + 1) (S ||| 1 <<< i) (some i)
    else if sgC n c (sk n c q) = 46 then cP n c d (i + 1) (sk n c q + 1) (S ||| 1 <<< i) D
    else if sgC n c (sk n c q) = 35 then cP n c d (i + 1) (sk n c q + 1) S D
    else (sk n c q, none)) = res := er
      refine bm_go (am_ok_all 207 (by decide)) 60 ?_
      refine And.intro (fun cd => ?_) (fun cd => ?_)
      · rw [e0, e1, pk_mul, nI_toInt (by omega), nI_toInt (by omega)] at cd
        omega
      · refine sp_skip k n c q hk hn hq ht1 e9 ?_
        have fs : frN [3] I (am_u I1 3 9 (nI (sk n c q))) := f1.u (by decide)
        refine sp_readCell k n c (sk n c q) i S D hk hn sl (ht1.u (by decide)) u_eq rfl (by omega) e2 e3 hD (fun c1 c2 I2 f2 g9 g2 g3 g0 g1 gn => ?_) (fun c1 I2 f2 g9 g2 g3 g0 g1 gn => ?_) (fun c1 I2 f2 g9 g2 g3 g0 g1 gn => ?_) (fun c1 c2 c3 => ?_)
        · rw [if_pos ⟨c1, c2⟩] at er
          first | refine And.intro (fun cd => absurd cd (by decide)) (fun _ => ?_) | refine And.intro (fun _ => ?_) (fun cd => absurd cd (by decide)) | refine And.intro (fun cd => ?_) (fun cd => ?_)
          exact ih (i + 1) _ _ _ (some i) I2 (by omega) (by omega) (nI_succ i).symm gn (fs.trans f2) g9 g2 g3 (fun j e => by cases e; omega) (by rw [g0]; exact e0) (by rw [g1]; exact e1) er
        · rw [if_neg (by omega), if_pos c1] at er
          first | refine And.intro (fun cd => absurd cd (by decide)) (fun _ => ?_) | refine And.intro (fun _ => ?_) (fun cd => absurd cd (by decide)) | refine And.intro (fun cd => ?_) (fun cd => ?_)
          exact ih (i + 1) _ _ _ D I2 (by omega) (by omega) (nI_succ i).symm gn (fs.trans f2) g9 g2 g3 hD (by rw [g0]; exact e0) (by rw [g1]; exact e1) er
        · rw [if_neg (by omega), if_neg (by omega), if_pos c1] at er
          first | refine And.intro (fun cd => absurd cd (by decide)) (fun _ => ?_) | refine And.intro (fun _ => ?_) (fun cd => absurd cd (by decide)) | refine And.intro (fun cd => ?_) (fun cd => ?_)
          exact ih (i + 1) _ _ _ D I2 (by omega) (by omega) (nI_succ i).symm gn (fs.trans f2) g9 g2 g3 hD (by rw [g0]; exact e0) (by rw [g1]; exact e1) er
        · rw [if_neg c1, if_neg c2, if_neg c3] at er
          first | refine And.intro (fun cd => absurd cd (by decide)) (fun _ => ?_) | refine And.intro (fun _ => ?_) (fun cd => absurd cd (by decide)) | refine And.intro (fun cd => ?_) (fun cd => ?_)
          exact ⟨Or.inl rfl, h0 (sk n c q) none _ er.symm (Or.inl rfl) sl fs u_eq⟩
  refine bm_go (am_ok_all 207 (by decide)) 60 ?_
  refine lp (w * h) 0 _ p 0 none _ rfl (Nat.zero_le _) rfl hp (((frN.refl _ _).u (by decide)).u (by decide)) h9 rfl rfl (fun j e => by cases e) hw hh hres
end PB

/-! reading a text as a town: the class, lamps -/
section PB
variable {G : am_G} {l : Launch} {t : am_T} {t2 : Option Nat × Option Nat} {I : am_I} {L : am_J} {Q : bm_P}
theorem kd_lt {x : Int} {v : Nat} (h : kdO x = some v) : v < 6 ∧ x ≠ 1000 ∧ x ≠ 0 := by
  unfold kdO at h
  split at h
  · cases h; omega
  · split at h
    · cases h; omega
    · split at h
      · cases h; omega
      · split at h
        · cases h; omega
        · split at h
          · cases h; omega
          · split at h
            · cases h; omega
            · cases h
theorem sp_kindOf {x : Int32} (h1 : ∀ v, kdO x.toInt = some v → Q (some (.int (nI v))) t I L) (h0 : kdO x.toInt = none → Q (some (.int (-1))) t I L) : bm_C G l 212 [.int x] t I L Q := by
  refine bm_go (am_ok_all 212 (by decide)) 40 ?_
  refine And.intro (fun cd => h1 5 (by rw [cd]; rfl)) (fun c98 => ?_)
  refine And.intro (fun cd => h1 2 (by rw [cd]; rfl)) (fun c99 => ?_)
  refine And.intro (fun cd => h0 (by rw [cd]; rfl)) (fun c100 => ?_)
  refine And.intro (fun cd => h0 (by rw [cd]; rfl)) (fun c101 => ?_)
  refine And.intro (fun cd => h1 1 (by rw [cd]; rfl)) (fun c102 => ?_)
  refine And.intro (fun cd => h0 (by rw [cd]; rfl)) (fun c103 => ?_)
  refine And.intro (fun cd => h1 3 (by rw [cd]; rfl)) (fun c104 => ?_)
  refine And.intro (fun cd => h0 (by rw [cd]; rfl)) (fun c105 => ?_)
  refine And.intro (fun cd => h0 (by rw [cd]; rfl)) (fun c106 => ?_)
  refine And.intro (fun cd => h0 (by rw [cd]; rfl)) (fun c107 => ?_)
  refine And.intro (fun cd => h1 0 (by rw [cd]; rfl)) (fun c108 => ?_)
  refine And.intro (fun cd => h0 (by rw [cd]; rfl)) (fun c109 => ?_)
  refine And.intro (fun cd => h0 (by rw [cd]; rfl)) (fun c110 => ?_)
  refine And.intro (fun cd => h1 4 (by rw [cd]; rfl)) (fun c111 => ?_)
  refine h0 ?_
  have c98 : ¬ x.toInt = 98 := c98
  have c99 : ¬ x.toInt = 99 := c99
  have c102 : ¬ x.toInt = 102 := c102
  have c104 : ¬ x.toInt = 104 := c104
  have c108 : ¬ x.toInt = 108 := c108
  have c111 : ¬ x.toInt = 111 := c111
  unfold kdO
  rw [if_neg c108, if_neg c102, if_neg c99, if_neg c104, if_neg c111, if_neg c98]
theorem sp_readRow {x : Int32} (k n : Nat) (c : Nat → Int) (p w h S tk X : Nat) (hk : k < 4) (hn : n ≤ 80) (hp : p ≤ n) (ht : txC k n c I) (h9 : I 3 9 = nI p) (hw : I 3 0 = nI w) (hh : I 3 1 = nI h) (hS : I 3 2 = nI S) (ht9 : I 3 10 = nI tk) (hx : x = nI X) (hw6 : w ≤ 6) (hX : X < w) (hh4 : h ≤ 4) (hh1 : 1 ≤ h) (hS32 : S < 2 ^ 24) (htk : tk < 2 ^ 24)
    (h1 : ∀ y, fgO n c 0 (h - 1) p = some y → S.testBit (w * y + X) = true → tk.testBit (w * y + X) = false → p < n → y < h → Q (some (.int (nI (w * y + X)))) (tK2 k t2) (am_u I 3 9 (nI (p + 1))) L)
    (h0 : (fgO n c 0 (h - 1) p = none ∨ ∃ y, fgO n c 0 (h - 1) p = some y ∧ ¬ (S.testBit (w * y + X) = true ∧ tk.testBit (w * y + X) = false)) → Q (some (.int (-1))) (tK2 k t2) I L) : bm_C G l 211 [.ref 3, .int x] (tK2 k t2) I L Q := by
  have e48 : (48 : Int32).toInt = 48 := rfl
  subst hx
  have hht : (I 3 1).toInt = (h : Int) := by rw [hh]; exact nI_toInt (by omega)
  refine bm_go (am_ok_all 211 (by decide)) 60 ?_
  refine sp_next k n c p hk hn (by omega) ht h9 (fun z hz => ?_)
  have hzr : -128 ≤ z.toInt ∧ z.toInt ≤ 1000 := by
    rw [hz]
    unfold sgC
    split
    · rename_i q
      have := ht.2 p q
      omega
    · omega
  have hs : (z - 48).toInt = z.toInt - 48 := by
    rw [Int32.toInt_sub, e48]
    exact Int.bmod_eq_of_le (by omega) (by omega)
  have bad : ¬ (48 ≤ sgC n c p ∧ sgC n c p ≤ 48 + ((h - 1 : Nat) : Int)) → Q (some (.int (-1))) (tK2 k t2) I L := fun q => h0 (Or.inl (by
    unfold fgO
    rw [if_neg (by omega)]))
  refine And.intro (fun cd => bad (by omega)) (fun cd => ?_)
  refine And.intro (fun c2 => bad (by omega)) (fun c2 => ?_)
  obtain ⟨y, ey⟩ : ∃ y : Nat, z.toInt - 48 = (y : Int) := ⟨(z.toInt - 48).toNat, by omega⟩
  have yh : y < h := by omega
  have fy : fgO n c 0 (h - 1) p = some y := by
    unfold fgO
    rw [if_pos (by omega)]
    congr 1
    omega
  have hlt := sg_lt (n := n) (c := c) (p := p) (by omega)
  have ez : z - 48 = nI y := Int32.toInt_inj.mp (by rw [hs, nI_toInt (by omega)]; omega)
  have wy : w * y + X < 32 := by
    have : w * y ≤ 6 * 3 := Nat.mul_le_mul hw6 (by omega)
    omega
  have ix : I 3 0 * (z - 48) + nI X = nI (w * y + X) := by rw [hw, ez, pk_mul, nI_add]
  have iS : I 3 2 &&& (I 3 10 ^^^ (-1)) = nI (S &&& cm tk) := by rw [hS, ht9, km1, n_cm, n_and]
  have tb : (S &&& cm tk).testBit (w * y + X) = (S.testBit (w * y + X) && !tk.testBit (w * y + X)) := tb_and_cm (w24 hS32)
  refine sp_isIn (S &&& cm tk) (w * y + X) iS ix (and_lt _ (w24 hS32)) wy (fun e => ?_) (fun e => ?_)
  · rw [tb] at e
    simp only [Bool.and_eq_true, Bool.not_eq_true'] at e
    first | refine And.intro (fun cd => absurd cd (by decide)) (fun _ => ?_) | refine And.intro (fun _ => ?_) (fun cd => absurd cd (by decide)) | refine And.intro (fun cd => ?_) (fun cd => ?_)
    have := h1 y fy e.1 e.2 hlt yh
    rw [← ix, nI_succ, ← h9] at this
    exact this
  · rw [tb] at e
    first | refine And.intro (fun cd => absurd cd (by decide)) (fun _ => ?_) | refine And.intro (fun _ => ?_) (fun cd => absurd cd (by decide)) | refine And.intro (fun cd => ?_) (fun cd => ?_)
    refine h0 (Or.inr ⟨y, fy, fun q => ?_⟩)
    rw [q.1, q.2] at e
    cases e
/-- one lamp: kind, cell and reach come to the plan's rows -/
theorem sp_readLamp {x : Int32} (k n : Nat) (c : Nat → Int) (q w h S tk j : Nat) (hk : k < 4) (hn : n ≤ 80) (hq : q < n) (ht : txC k n c I) (h9 : I 3 9 = nI q) (hw : I 3 0 = nI w) (hh : I 3 1 = nI h) (hS : I 3 2 = nI S) (ht9 : I 3 10 = nI tk) (hx : x = nI j) (hj : j < 6) (hw6 : w ≤ 6) (hw1 : 1 ≤ w) (hh4 : h ≤ 4) (hh1 : 1 ≤ h) (hS32 : S < 2 ^ 24) (htk : tk < 2 ^ 24)
    (h1 : ∀ p kd cl r I', l1 n c w h S tk q = (p, some (kd, cl, r)) → p ≤ n → cl < 24 → frN [3, 4, 5, 6] I I' → I' 3 9 = nI p → I' 3 10 = nI (tk ||| 1 <<< cl) → (∀ i, i ≠ 9 → i ≠ 10 → I' 3 i = I 3 i) → I' 4 j = nI kd → I' 5 j = nI cl → I' 6 j = nI r → (∀ i, i ≠ j → I' 4 i = I 4 i ∧ I' 5 i = I 5 i ∧ I' 6 i = I 6 i) → Q (some (.int 1)) (tK2 k t2) I' L)
    (h0 : ∀ p I', l1 n c w h S tk q = (p, none) → p ≤ n → frN [3, 4, 5, 6] I I' → I' 3 9 = nI p → Q (some (.int 0)) (tK2 k t2) I' L) : bm_C G l 210 [.ref 3, .int x] (tK2 k t2) I L Q := by
  subst hx
  have j7 := and7 (k := j) (by omega)
  have j8 : j < 8 := by omega
  refine bm_go (am_ok_all 210 (by decide)) 90 ?_
  refine sp_next k n c q hk hn (by omega) ht h9 (fun z hz => ?_)
  refine sp_kindOf (fun kd ekd => ?_) (fun ekd => ?_)
  · rw [hz] at ekd
    obtain ⟨kd6, -, -⟩ := kd_lt ekd
    refine ⟨j, j7, j8, j, j7, j8, ?_⟩
    refine And.intro (fun _ => ?_) (fun cd => ?_)
    · have fw : am_u (am_u I 4 j (nI kd)) 3 9 (am_u I 4 j (nI kd) 3 9 + 1) 3 0 - 1 = nI (w - 1) := by
        show I 3 0 - 1 = _
        rw [hw, k1, pk_sub hw1]
      refine sp_figure k n c (q + 1) 0 (w - 1) hk hn (by omega) ((ht.u (by decide)).u (by decide)) (by show I 3 9 + 1 = _; rw [h9, nI_succ]) rfl fw (by decide) (by omega) (fun X eX x1 x2 x3 => ?_) (fun eX => ?_)
      · refine And.intro (fun _ => ?_) (fun cd => ?_)
        · refine sp_readRow k n c (q + 1 + 1) w h S tk X hk hn (by omega) (((ht.u (by decide)).u (by decide)).u (by decide)) rfl hw hh hS ht9 rfl hw6 (by omega) hh4 hh1 hS32 htk (fun y ey y1 y2 y3 y4 => ?_) (fun bad => ?_)
          · have cl24 : w * y + X < 24 := by
              have : w * y ≤ w * 3 := Nat.mul_le_mul_left w (by omega)
              omega
            refine And.intro (fun _ => ?_) (fun cd => ?_)
            · refine ⟨j, j7, j8, ?_⟩
              refine sp_figure k n c (q + 1 + 1 + 1) 1 5 hk hn (by omega) ((((((ht.u (by decide)).u (by decide)).u (by decide)).u (by decide)).u (by decide)).u (by decide)) rfl rfl rfl (by decide) (by decide) (fun r er r1 r2 r3 => ?_) (fun er => ?_)
              · refine ⟨j, j7, j8, j, j7, j8, ?_⟩
                have e6 : ∀ (J : am_I), am_u J 6 j (nI r) 6 j = nI r := fun J => u_eq
                refine And.intro (fun cd => ?_) (fun _ => ?_)
                · rw [e6, nI_toInt (by omega)] at cd
                  omega
                · refine ⟨Or.inr rfl, h1 (q + 4) kd (w * y + X) r _ ?_ (by omega) cl24 (((((((((frN.refl _ _).u (by decide)).u (by decide)).u (by decide)).u (by decide)).u (by decide)).u (by decide)).u (by decide)).u (by decide)) (by rfl) ?_ ?_ ?_ ?_ ?_ ?_⟩
                  · unfold l1
                    rw [ekd]
                    simp only [eX, show q + 2 = q + 1 + 1 from rfl, show q + 3 = q + 1 + 1 + 1 from rfl, ey, y1, y2, er]
                    rfl
                  · show I 3 10 ||| (1 : Int32) <<< (nI (w * y + X) &&& 31) = _
                    rw [ht9, shl1 (by omega), n_or]
                  · intro i i1 i2
                    rw [u_ne (by decide), u_nj i1, u_nj i2, u_ne (by decide), u_nj i1, u_nj i1, u_nj i1, u_ne (by decide)]
                  · rw [u_ne (by decide), u_ne (by decide), u_ne (by decide), u_ne (by decide), u_ne (by decide), u_ne (by decide), u_ne (by decide), u_eq]
                  · rw [u_ne (by decide), u_ne (by decide), u_ne (by decide), u_eq]
                  · exact u_eq
                  · intro i hi
                    refine ⟨?_, ?_, ?_⟩
                    · rw [u_ne (by decide), u_ne (by decide), u_ne (by decide), u_ne (by decide), u_ne (by decide), u_ne (by decide), u_ne (by decide), u_nj hi]
                    · rw [u_ne (by decide), u_ne (by decide), u_ne (by decide), u_nj hi, u_ne (by decide), u_ne (by decide), u_ne (by decide), u_ne (by decide)]
                    · rw [u_nj hi, u_ne (by decide), u_ne (by decide), u_ne (by decide), u_ne (by decide), u_ne (by decide), u_ne (by decide), u_ne (by decide)]
              · refine ⟨j, j7, j8, j, j7, j8, ?_⟩
                have e6 : ∀ (J : am_I), am_u J 6 j (-1) 6 j = -1 := fun J => u_eq
                refine And.intro (fun _ => ?_) (fun cd => ?_)
                · refine ⟨Or.inl rfl, h0 (q + 3) _ ?_ (by omega) ((((((((frN.refl _ _).u (by decide)).u (by decide)).u (by decide)).u (by decide)).u (by decide)).u (by decide)).u (by decide)) (by rfl)⟩
                  unfold l1
                  rw [ekd]
                  simp only [eX, show q + 2 = q + 1 + 1 from rfl, show q + 3 = q + 1 + 1 + 1 from rfl, ey, y1, y2, er]
                  rfl
                · rw [e6] at cd
                  exact absurd cd (by decide)
            · rw [nI_toInt (by omega)] at cd
              omega
          · refine And.intro (fun cd => absurd cd (by decide)) (fun _ => ?_)
            refine ⟨Or.inl rfl, h0 (q + 2) _ ?_ (by omega) ((((frN.refl _ _).u (by decide)).u (by decide)).u (by decide)) (by rfl)⟩
            unfold l1
            rw [ekd]
            rcases bad with eb | ⟨y, ey, hne⟩
            · simp only [eX, show q + 2 = q + 1 + 1 from rfl, eb]
            · simp only [eX, show q + 2 = q + 1 + 1 from rfl, ey]
              rw [if_neg hne]
        · rw [nI_toInt (by omega)] at cd
          omega
      · refine And.intro (fun cd => absurd cd (by decide)) (fun _ => ?_)
        refine ⟨Or.inl rfl, h0 (q + 1) _ ?_ (by omega) (((frN.refl _ _).u (by decide)).u (by decide)) (by show I 3 9 + 1 = _; rw [h9, nI_succ])⟩
        unfold l1
        rw [ekd]
        simp only [eX]
    · have cd : (am_u I 4 j (nI kd) 4 j).toInt < 0 := cd
      rw [u_eq, nI_toInt (by omega)] at cd
      omega
  · rw [hz] at ekd
    refine ⟨j, j7, j8, j, j7, j8, ?_⟩
    refine And.intro (fun cd => ?_) (fun _ => ?_)
    · have cd : 0 ≤ (am_u I 4 j (-1) 4 j).toInt := cd
      rw [u_eq] at cd
      exact absurd cd (by decide)
    · refine ⟨Or.inl rfl, h0 q _ ?_ (by omega) ((frN.refl _ _).u (by decide)) (by exact h9)⟩
      unfold l1
      rw [ekd]
end PB

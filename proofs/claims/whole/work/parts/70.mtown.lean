/-! the reference lays a town down -/
theorem bO_of {n S : Nat} (h : S < 2 ^ n) : bO n (fun j => S.testBit j) = S := by
  refine tb_ext (bO_lt n _) h (fun i hi => ?_)
  rw [tb_bO]
  simp [hi]
def exT : List Nat := [61, 65, 66, 67, 68, 70]
def frT (I I' : am_I) : Prop := (∀ x, x ∉ exT → I' x = I x) ∧ ∀ j, j < 7 → I' 61 j = I 61 j
theorem frT.u {I I' : am_I} (h : frT I I') {a j : Nat} {v : Int32} (ha : a ∈ exT) (hj : a = 61 → 7 ≤ j) : frT I (am_u I' a j v) := by
  refine ⟨fun x hx => ?_, fun i hi => ?_⟩
  · rw [u_ne (fun e => hx (by rw [e]; exact ha))]; exact h.1 x hx
  · rw [show am_u I' a j v 61 i = I' 61 i from if_neg (fun q => by have := hj q.1.symm; omega)]; exact h.2 i hi
theorem frT.trans {I I' I'' : am_I} (h : frT I I') (g : frT I' I'') : frT I I'' := ⟨fun x a => (g.1 x a).trans (h.1 x a), fun j a => (g.2 j a).trans (h.2 j a)⟩
theorem frQ.t {I I' : am_I} (h : frQ I I') : frT I I' := ⟨fun x hx => h.1 x (fun e => hx (by rw [e]; decide)) (fun e => hx (by rw [e]; decide)), fun j hj => h.2 j (Or.inl hj)⟩
theorem fr61.t {js : List Nat} {I I' : am_I} (h : fr61 js I I') (hj : ∀ j, j < 7 → j ∉ js) : frT I I' := ⟨fun x hx => h.1 x (fun e => hx (by rw [e]; decide)), fun j hi => h.2 j (hj j hi)⟩
section PT
variable {G : am_G} {l : Launch} {t : am_T} {I : am_I} {L : am_J} {Q : bm_P}
theorem sm_town {x : Int32} (k n : Nat) (c : Nat → Int) (hk : k < 4) (hx : x = nI k) (hn : n ≤ 80) (h63 : I 63 (6 + k) = nI n) (h64 : ∀ p, p < n → (I 64 (rb (6 + k) + p)).toInt = c p ∧ -128 ≤ c p ∧ c p ≤ 127)
    (h1 : ∀ q T I', pP n c = (q, some T) → frT I I' → mT T I' → I' 61 19 = 0 → I' 61 42 = 0 → (∀ k, k < 3 → I' 70 k = -9) → I' 61 23 = nI (tD T) → I' 61 24 = 0 → I' 61 25 = -9 → I' 61 26 = 0 → I' 61 27 = 0 → I' 61 29 = nI (tD T) → I' 61 30 = 0 → I' 61 31 = -9 → I' 61 32 = 0 → Q (some (.int (nI (tN T)))) t I' L)
    (h0 : ∀ q I', pP n c = (q, none) → frQ I I' → Q (some (.int (-4))) t I' L) : bm_C G l 91 [.ref 61, .int x] t I L Q := by
  have hk6 := nI_toInt (n := k) (by omega)
  have ik : (6 + x).toInt = ((6 + k : Nat) : Int) := by rw [hx, show (6 : Int32) = nI 6 from rfl, nI_add, nI_toInt (by omega)]
  refine bm_go (am_ok_all 91 (by decide)) 90 ?_
  refine sm_isText (fun a b => ?_) (fun a => by rw [hx] at a; omega)
  first | refine And.intro (fun cd => absurd cd (by decide)) (fun _ => ?_) | refine And.intro (fun _ => ?_) (fun cd => absurd cd (by decide)) | refine And.intro (fun cd => ?_) (fun cd => ?_)
  refine ⟨6 + k, ik, (by omega : 6 + k < 10), ?_⟩
  refine And.intro (fun _ => ?_) (fun c => ?_)
  rotate_left
  · have c : (I 63 (6 + k)).toInt < 0 := c
    rw [h63, nI_toInt (by omega)] at c
    omega
  refine sm_faultOf k n c hk hx hn h63 h64 (fun q T I1 e g rd => ?_) (fun q I1 e hq g => ?_)
  rotate_left
  · refine And.intro (fun cd => ?_) (fun _ => ?_)
    · rw [nI_toInt (by omega)] at cd
      have cd : (q : Int) = -9 := cd
      omega
    · exact h0 q I1 e g
  have hT := pP_ok e
  have hG := hT.1
  have c24 := hG.c24
  obtain ⟨w2, w6, g1, g4, gS⟩ := hT.1
  obtain ⟨r0, r1, r2, rc, rl⟩ := rd
  have n6 := hT.2.2.2.1
  refine And.intro (fun _ => ?_) (fun cd => absurd cd (by decide))
  refine ⟨0, rfl, (by omega : 0 < 52), 1, rfl, (by omega : 1 < 52), 2, rfl, (by omega : 2 < 52), ?_⟩
  -- the last loop
  have lpC : ∀ d i y (I2 : am_I), 3 - i = d → i ≤ 3 → y = nI i → frT I I2 → mT T I2 → I2 61 19 = 0 → I2 61 42 = 0 → (∀ k, k < i → I2 70 k = -9) → bm_W G l 91 301 [some (.ref 61), some (.int x), some (.int y)] [] t I2 L Q := by
    intro d
    induction d with
    | zero =>
      intro i y I2 hd hi hy f2 hm m1 m2 m3
      obtain rfl : i = 3 := by omega
      subst hy
      refine bm_go (am_ok_all 91 (by decide)) 60 ?_
      refine And.intro (fun _ => ?_) (fun cd => absurd cd (by decide))
      refine sm_begins (fun I3 f3 b1 b2 b3 b4 b5 b6 b7 b8 b9 => ?_)
      have e15 : I2 61 15 = nI (tD T) := hm.2.2.2.2.1
      have hm3 : mT T I3 := hm.f61 f3 (by intro j a b; simp; omega)
      rw [e15] at b1 b6
      show Q (some (.int (I3 61 14))) t I3 L
      rw [hm3.2.2.2.1]
      exact h1 q T I3 e (f2.trans (f3.t (by intro j a; simp; omega))) hm3 (by rw [f3.2 19 (by decide)]; exact m1) (by rw [f3.2 42 (by decide)]; exact m2) (fun k hk => by rw [f3.1 70 (by decide)]; exact m3 k hk) b1 b2 b3 b4 b5 b6 b7 b8 b9
    | succ d ih =>
      intro i y I2 hd hi hy f2 hm m1 m2 m3
      subst hy
      refine bm_go (am_ok_all 91 (by decide)) 60 ?_
      refine And.intro (fun cd => ?_) (fun _ => ?_)
      · rw [T3, nI_toInt (by omega)] at cd
        omega
      refine ⟨i, nI_toInt (by omega), (by omega : i < 3), ?_⟩
      refine ih (i + 1) _ _ (by omega) (by omega) (nI_succ i).symm (f2.u (by decide) (fun e => by cases e)) (by exact hm) (by exact m1) (by exact m2) (fun k hk => ?_)
      by_cases q2 : k = i
      · subst q2
        exact u_eq
      · rw [u_nj q2]
        exact m3 k (by omega)
  have lpB : ∀ d i y (I2 : am_I), tN T - i = d → i ≤ tN T → y = nI i → frT I I2 → (I2 61 11 = nI (tW T) ∧ I2 61 12 = nI (tH T) ∧ I2 61 13 = nI (tC T) ∧ I2 61 14 = nI (tN T) ∧ I2 61 15 = nI (tD T) ∧ I2 61 16 = nI (tS T) ∧ I2 61 17 = nI (lA T) ∧ I2 61 18 = nI (rB T)) → (I2 65 = I1 65) → (∀ k, k < i → I2 66 k = nI (tK T k) ∧ I2 67 k = nI (tP T k) ∧ I2 68 k = nI (tR T k)) → bm_W G l 91 224 [some (.ref 61), some (.int x), some (.int y)] [] t I2 L Q := by
    intro d
    induction d with
    | zero =>
      intro i y I2 hd hi hy f2 hm e65 hl
      obtain rfl : i = tN T := by omega
      subst hy
      refine bm_go (am_ok_all 91 (by decide)) 60 ?_
      refine And.intro (fun _ => ?_) (fun cd => ?_)
      · refine lpC 3 0 _ _ rfl (by decide) rfl ((f2.u (by decide) (by decide)).u (by decide) (by decide)) ?_ rfl rfl (fun k hk => by omega)
        obtain ⟨a1, a2, a3, a4, a5, a6, a7, a8⟩ := hm
        exact ⟨a1, a2, a3, a4, a5, a6, a7, a8, hl⟩
      · rw [hm.2.2.2.1] at cd
        omega
    | succ d ih =>
      intro i y I2 hd hi hy f2 hm e65 hl
      subst hy
      have ii : (nI i).toInt = (i : Int) := nI_toInt (by omega)
      have ix : ∀ b : Nat, b ≤ 30 → (Int32.ofNat b + 3 * nI i).toInt = ((b + 3 * i : Nat) : Int) := by
        intro b hb
        rw [show (3 : Int32) = nI 3 from rfl, pk_mul, show Int32.ofNat b = nI b from rfl, nI_add, nI_toInt (by omega)]
      obtain ⟨l1, l2, l3⟩ := rl i (by omega)
      refine bm_go (am_ok_all 91 (by decide)) 60 ?_
      refine And.intro (fun cd => ?_) (fun _ => ?_)
      · rw [hm.2.2.2.1, nI_toInt (by omega), ii] at cd
        omega
      refine ⟨28 + 3 * i, ix 28 (by decide), (by omega : 28 + 3 * i < 52), i, ii, (by omega : i < 6), 29 + 3 * i, ix 29 (by decide), (by omega : 29 + 3 * i < 52), i, ii, (by omega : i < 6), 30 + 3 * i, ix 30 (by decide), (by omega : 30 + 3 * i < 52), i, ii, (by omega : i < 6), ?_⟩
      refine ih (i + 1) _ _ (by omega) (by omega) (nI_succ i).symm (((f2.u (by decide) (fun e => by cases e)).u (by decide) (fun e => by cases e)).u (by decide) (fun e => by cases e)) (by exact hm) (by rw [u_ne (by decide), u_ne (by decide), u_ne (by decide)]; exact e65) (fun k hk => ?_)
      by_cases q2 : k = i
      · subst q2
        refine ⟨?_, ?_, ?_⟩
        · rw [u_ne (by decide), u_ne (by decide), u_eq, e65]; exact l1
        · rw [u_ne (by decide), u_eq, u_ne (by decide), e65]; exact l2
        · rw [u_eq, u_ne (by decide), u_ne (by decide), e65]; exact l3
      · obtain ⟨b1, b2, b3⟩ := hl k (by omega)
        refine ⟨?_, ?_, ?_⟩
        · rw [u_ne (by decide), u_ne (by decide), u_nj q2]; exact b1
        · rw [u_ne (by decide), u_nj q2, u_ne (by decide)]; exact b2
        · rw [u_nj q2, u_ne (by decide), u_ne (by decide)]; exact b3
  have lpA : ∀ d i y (I2 : am_I), tC T - i = d → i ≤ tC T → y = nI i → frT I I2 → I2 61 11 = nI (tW T) → I2 61 12 = nI (tH T) → I2 61 13 = nI (tC T) → I2 61 14 = nI (tN T) → (tD T < i → I2 61 15 = nI (tD T)) → I2 61 16 = nI (bO i (fun j => (tS T).testBit j)) → I2 61 17 = nI (bO i (fun j => decide (j % tW T = 0))) → I2 61 18 = nI (bO i (fun j => decide (j % tW T + 1 = tW T))) → (I2 65 = I1 65) → bm_W G l 91 100 [some (.ref 61), some (.int x), some (.int y)] [] t I2 L Q := by
    intro d
    induction d with
    | zero =>
      intro i y I2 hd hi hy f2 e11 e12 e13 e14 e15 e16 e17 e18 e65
      obtain rfl : i = tC T := by omega
      subst hy
      refine bm_go (am_ok_all 91 (by decide)) 60 ?_
      refine And.intro (fun _ => ?_) (fun cd => ?_)
      · refine lpB _ 0 _ _ rfl (Nat.zero_le _) rfl f2 ⟨e11, e12, e13, e14, e15 hT.2.1, ?_, e17, e18⟩ e65 (fun k hk => by omega)
        rw [e16, bO_of gS]
      · rw [e13] at cd
        omega
    | succ d ih =>
      intro i y I2 hd hi hy f2 e11 e12 e13 e14 e15 e16 e17 e18 e65
      subst hy
      have ii : (nI i).toInt = (i : Int) := nI_toInt (by omega)
      have w0 : ¬ (I2 61 11).toInt = 0 := by rw [e11, nI_toInt (by omega)]; omega
      have i3 : (3 + nI i).toInt = ((3 + i : Nat) : Int) := by rw [show (3 : Int32) = nI 3 from rfl, nI_add, nI_toInt (by omega)]
      have er : nI i - nI i / I2 61 11 * I2 61 11 = nI (i % tW T) := by
        rw [e11]
        exact (mdiv (by omega) (by omega) (by omega)).2
      have ml : i % tW T < tW T := Nat.mod_lt _ (by omega)
      have rci : I2 65 (3 + i) = nI (clK (tS T) (some (tD T)) i) := by rw [e65]; exact rc i (by omega)
      have clt : clK (tS T) (some (tD T)) i < 3 := by
        unfold clK
        by_cases q1 : some (tD T) = some i
        · rw [if_pos q1]; omega
        · rw [if_neg q1]
          by_cases q2 : (tS T).testBit i = true
          · rw [if_pos q2]; omega
          · rw [if_neg q2]; omega
      have fin : ∀ (a b c d' : Int32), a = nI (if decide (i % tW T = 0) then 1 <<< i else 0) → b = nI (if decide (i % tW T + 1 = tW T) then 1 <<< i else 0) → c = nI (if (tS T).testBit i then 1 <<< i else 0) → (tD T < i + 1 → d' = nI (tD T)) → bm_W G l 91 100 [some (.ref 61), some (.int x), some (.int (nI i + 1))] [] t (am_u (am_u (am_u (am_u I2 61 17 (I2 61 17 ||| a)) 61 18 (I2 61 18 ||| b)) 61 16 (I2 61 16 ||| c)) 61 15 d') L Q := by
        intro a b c d' ha hb hc hd'
        refine ih (i + 1) _ _ (by omega) (by omega) (nI_succ i).symm ((((f2.u (by decide) (by decide)).u (by decide) (by decide)).u (by decide) (by decide)).u (by decide) (by decide)) (by exact e11) (by exact e12) (by exact e13) (by exact e14) (by exact hd') ?_ ?_ ?_ (by rw [u_ne (by decide), u_ne (by decide), u_ne (by decide), u_ne (by decide)]; exact e65)
        · show I2 61 16 ||| c = _
          rw [hc, e16, n_or]
          rfl
        · show I2 61 17 ||| a = _
          rw [ha, e17, n_or]
          rfl
        · show I2 61 18 ||| b = _
          rw [hb, e18, n_or]
          rfl
      have s1 : (1 : Int32) <<< (nI i &&& 31) = nI (1 <<< i) := by rw [k1, n_shl _ (by omega)]
      have hA0 : ¬ (nI i - nI i / I2 61 11 * I2 61 11).toInt = 0 → (0 : Int32) = nI (if decide (i % tW T = 0) then 1 <<< i else 0) := by
        intro cd
        rw [er, nI_toInt (by omega)] at cd
        rw [if_neg (by simp; omega)]
        rfl
      have hA1 : (nI i - nI i / I2 61 11 * I2 61 11).toInt = 0 → (1 : Int32) <<< (nI i &&& 31) = nI (if decide (i % tW T = 0) then 1 <<< i else 0) := by
        intro cd
        rw [er, nI_toInt (by omega)] at cd
        rw [if_pos (by simp; omega)]
        exact s1
      have ew : (I2 61 11 - 1).toInt = (tW T : Int) - 1 := by rw [e11, k1, pk_sub (by omega), nI_toInt (by omega)]; omega
      have hB0 : ¬ (nI i - nI i / I2 61 11 * I2 61 11).toInt = (I2 61 11 - 1).toInt → (0 : Int32) = nI (if decide (i % tW T + 1 = tW T) then 1 <<< i else 0) := by
        intro cd
        rw [er, nI_toInt (by omega), ew] at cd
        rw [if_neg (by simp; omega)]
        rfl
      have hB1 : (nI i - nI i / I2 61 11 * I2 61 11).toInt = (I2 61 11 - 1).toInt → (1 : Int32) <<< (nI i &&& 31) = nI (if decide (i % tW T + 1 = tW T) then 1 <<< i else 0) := by
        intro cd
        rw [er, nI_toInt (by omega), ew] at cd
        rw [if_pos (by simp; omega)]
        exact s1
      have hC0 : ¬ (I2 65 (3 + i)).toInt = (1 : Int32).toInt → (1 : Int32) <<< (nI i &&& 31) = nI (if (tS T).testBit i then 1 <<< i else 0) := by
        intro cd
        rw [rci, nI_toInt (by omega), T1] at cd
        have : (tS T).testBit i = true := by
          unfold clK at cd
          split at cd
          · rename_i q2
            cases q2
            exact hT.2.2.1
          · split at cd
            · assumption
            · exact absurd rfl cd
        rw [if_pos this]
        exact s1
      have hC1 : (I2 65 (3 + i)).toInt = (1 : Int32).toInt → (0 : Int32) = nI (if (tS T).testBit i then 1 <<< i else 0) := by
        intro cd
        rw [rci, nI_toInt (by omega), T1] at cd
        have : ¬ (tS T).testBit i = true := by
          intro q3
          unfold clK at cd
          split at cd
          · cases cd
          · exact absurd cd (by decide)
        rw [if_neg this]
        rfl
      have hD0 : ¬ (I2 65 (3 + i)).toInt = (2 : Int32).toInt → tD T < i + 1 → I2 61 15 = nI (tD T) := by
        intro cd hlt
        rw [rci, nI_toInt (by omega), T2] at cd
        refine e15 ?_
        by_cases q2 : tD T = i
        · unfold clK at cd
          rw [if_pos (by rw [q2])] at cd
          exact absurd rfl cd
        · omega
      have hD1 : (I2 65 (3 + i)).toInt = (2 : Int32).toInt → tD T < i + 1 → nI i = nI (tD T) := by
        intro cd _
        rw [rci, nI_toInt (by omega), T2] at cd
        unfold clK at cd
        split at cd
        · rename_i q2
          cases q2
          rfl
        · split at cd <;> cases cd
      refine bm_go (am_ok_all 91 (by decide)) 120 ?_
      refine And.intro (fun cd => ?_) (fun _ => ?_)
      · rw [e13, nI_toInt (by omega), ii] at cd
        omega
      refine ⟨w0, And.intro (fun cA => ?_) (fun cA => ?_)⟩ <;> refine ⟨w0, And.intro (fun cB => ?_) (fun cB => ?_)⟩ <;> refine ⟨3 + i, i3, (by omega : 3 + i < 52), And.intro (fun cC => ?_) (fun cC => ?_)⟩ <;> refine ⟨3 + i, i3, (by omega : 3 + i < 52), And.intro (fun cD => ?_) (fun cD => ?_)⟩ <;> exact fin _ _ _ _ (by first | exact hA0 cA | exact hA1 cA) (by first | exact hB0 cB | exact hB1 cB) (by first | exact hC0 cC | exact hC1 cC) (by first | exact hD0 cD | exact hD1 cD)
  refine lpA _ 0 _ _ rfl (Nat.zero_le _) rfl ((((((((g.t.u (by decide) (by decide)).u (by decide) (by decide)).u (by decide) (by decide)).u (by decide) (by decide)).u (by decide) (by decide)).u (by decide) (by decide)).u (by decide) (by decide))) ?_ ?_ ?_ ?_ (fun q => by omega) rfl rfl rfl (by rw [u_ne (by decide), u_ne (by decide), u_ne (by decide), u_ne (by decide), u_ne (by decide), u_ne (by decide), u_ne (by decide)])
  · exact r0
  · exact r1
  · show I1 65 0 * I1 65 1 = _
    rw [r0, r1, pk_mul]
    rfl
  · exact r2
end PT

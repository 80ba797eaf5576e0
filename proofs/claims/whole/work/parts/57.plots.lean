/-! pair: lots -/
/-- which of what may be done a number tells -/
def chO (m i : Nat) : Nat := (fstN 5 (fun w => m.testBit w && (pcn w m == i))).getD 0
/-- clearing the lowest one, i times -/
def clr (m : Nat) : Nat → Nat
  | 0 => m
  | i + 1 => clr m i &&& (clr m i - 1)
theorem chO_1 : ∀ m, m < 32 → ∀ i, i < 5 → i < pcn 32 m → (m.testBit (chO m i) = true ∧ chO m i < 5 ∧ pcn (chO m i) m = i) := by decide +kernel
theorem chO_2b : ∀ m, m < 32 → ∀ i, i < 5 → i < pcn 32 m → ((List.range 5).all fun w => !(decide (w < chO m i)) || (decide (pcn w m ≤ i) && (!(m.testBit w) || decide (pcn w m < i)))) = true := by decide +kernel
theorem chO_2 (m : Nat) (hm : m < 32) (i : Nat) (hi : i < 5) (hp : i < pcn 32 m) (w : Nat) (hw : w < 5) (hc : w < chO m i) : pcn w m ≤ i ∧ (m.testBit w = false ∨ pcn w m < i) := by
  have := List.all_eq_true.mp (chO_2b m hm i hi hp) w (List.mem_range.mpr hw)
  simp only [Bool.or_eq_true, Bool.and_eq_true, Bool.not_eq_true', decide_eq_true_eq, decide_eq_false_iff_not] at this
  rcases this with q | q
  · exact absurd hc q
  · exact q
theorem chO_3 : ∀ m, m < 32 → ∀ i, i < 5 → i < pcn 32 m → (un ((nI (clr m i) &&& -(nI (clr m i))) - 1) < 32 ∧ pcn 32 (un ((nI (clr m i) &&& -(nI (clr m i))) - 1)) = chO m i) := by decide +kernel
theorem clr_le : ∀ m, m < 32 → ∀ i, i < 6 → clr m i < 32 := by decide +kernel
theorem clr_pos : ∀ m, m < 32 → ∀ i, i < 5 → i < pcn 32 m → 0 < clr m i := by decide +kernel
theorem pc5 : ∀ m, m < 32 → pcn 32 m ≤ 5 ∧ (pcn 32 m = 0 ↔ m = 0) := by decide +kernel
/-- a round by lots: where one stands, the number -/
def wr (T : tT) (sh : Nat) (s : sT) (x : Nat) : Nat → sT × Nat
  | 0 => (s, x)
  | k + 1 => (do1 T sh (wr T sh s x k).1 (chO (mayN T sh (wr T sh s x k).1) ((wr T sh s x k).2 * 48271 % 2147483647 % pc (mayN T sh (wr T sh s x k).1))), (wr T sh s x k).2 * 48271 % 2147483647)
def wrM (T : tT) (sh : Nat) (s : sT) (x n m : Nat) : Prop := m ≤ n ∧ (∀ i, i < m → mayN T sh (wr T sh s x i).1 ≠ 0) ∧ (m < n → mayN T sh (wr T sh s x m).1 = 0)
theorem wrM_u {T : tT} {sh : Nat} {s : sT} {x n m k : Nat} (h : wrM T sh s x n m) (g : wrM T sh s x n k) : m = k := by
  obtain ⟨h1, h2, h3⟩ := h
  obtain ⟨g1, g2, g3⟩ := g
  rcases Nat.lt_trichotomy m k with c | c | c
  · exact absurd (h3 (by omega)) (g2 m c)
  · exact c
  · exact absurd (g3 (by omega)) (h2 k c)
theorem wr_ok {T : tT} (hT : tOk T) (sh : Nat) {s : sT} (hs : sOk T s) (x : Nat) : ∀ i, sOk T (wr T sh s x i).1
  | 0 => hs
  | i + 1 => do1_ok hT (wr_ok hT sh hs x i) _
theorem wr_lt {T : tT} (sh : Nat) (s : sT) {x : Nat} (hx : x < 2147483647) : ∀ i, (wr T sh s x i).2 < 2147483647
  | 0 => hx
  | i + 1 => Nat.mod_lt _ (by decide)
theorem mayN_lt (T : tT) (sh : Nat) (s : sT) : mayN T sh s < 32 := bO_lt 5 _
theorem may_of {T : tT} {sh : Nat} {s : sT} {w : Nat} (hw : w < 5) (h : (mayN T sh s).testBit w = true) : may1 T sh s w = true := by
  unfold mayN at h
  rw [tb_bO] at h
  simpa [hw] using h
section PL
variable {G : am_G} {l : Launch} {t : am_T} {I : am_I} {L : am_J} {Q : bm_P}
theorem sp_choice {x y : Int32} (m i : Nat) (hx : x = nI m) (hm : m < 32) (hy : y = nI i) (hi : i < pc m) (h : Q (some (.int (nI (chO m i)))) t I L) : bm_C G l 230 [.int x, .int y] t I L Q := by
  subst hx hy
  have hi : i < pcn 32 m := hi
  have h5 := (pc5 m hm).1
  obtain ⟨c7, c8⟩ := chO_3 m hm i (by omega) hi
  have lp : ∀ d j z v, i - j = d → j ≤ i → z = nI j → v = nI (clr m j) → bm_W G l 230 4 [some (.int (nI m)), some (.int (nI i)), some (.int v), some (.int z)] [] t I L Q := by
    intro d
    induction d with
    | zero =>
      intro j z v hd hj hz hv
      obtain rfl : j = i := by omega
      subst hz hv
      refine bm_go (am_ok_all 230 (by decide)) 40 ?_
      refine And.intro (fun _ => ?_) (fun cd => ?_)
      · refine sp_bitCount _ (n_un _).symm (by omega) ?_
        rw [show pc (un ((nI (clr m j) &&& -(nI (clr m j))) - 1)) = chO m j from c8]
        exact h
      · omega
    | succ d ih =>
      intro j z v hd hj hz hv
      subst hz hv
      have cl := clr_le m hm j (by omega)
      have cp := clr_pos m hm j (by omega) (by omega)
      refine bm_go (am_ok_all 230 (by decide)) 40 ?_
      refine And.intro (fun cd => ?_) (fun cd => ?_)
      · rw [nI_toInt (by omega), nI_toInt (by omega)] at cd
        omega
      · refine ih (j + 1) _ _ (by omega) (by omega) (nI_succ j).symm ?_
        rw [k1, pk_sub (by omega), n_and]
        rfl
  refine bm_go (am_ok_all 230 (by decide)) 40 ?_
  exact lp i 0 _ _ rfl (Nat.zero_le _) rfl rfl
theorem lot_eq {x : Nat} (hx : x < 2147483647) : lN x * 48271 - lN x * 48271 / 2147483647 * 2147483647 = lN (x * 48271 % 2147483647) := by
  rw [show (48271 : Int64) = lN 48271 from rfl, show (2147483647 : Int64) = lN 2147483647 from rfl, lN_mul, pk_lRem (by omega) (by decide) (by decide)]
theorem lot_eq2 {x c : Nat} (hx : x < 2147483647) (hc : 0 < c) (hc2 : c < 100) : lN x - lN x / (nI c).toInt64 * (nI c).toInt64 = lN (x % c) := by
  rw [nI_l (by omega), pk_lRem (by omega) hc (by omega)]
theorem nz64 {c : Nat} (hc : 0 < c) (hc2 : c < 100) : ¬ (nI c).toInt64 = 0 := ne64 (by rw [nI_toInt (by omega)]; omega)
theorem sp_wander {T : tT} {s : sT} {x y : Int32} (sh n sd : Nat) (hx : x = nI n) (hn : n ≤ 200) (hy : y = nI sd) (hsd : sd < 2147483647) (hT : tOk T) (hc : cT T I) (hL : cL T sh 13 I) (hs : sC s 20 I) (ks : sOk T s) (h : ∀ m I', wrM T sh s sd n m → frN [20] I I' → sC (wr T sh s sd m).1 20 I' → Q (some (.int (nI m))) t I' L) : bm_C G l 229 [.ref 20, .ref 7, .ref 12, .int x, .int y] t I L Q := by
  subst hx hy
  have lp : ∀ d j z v d8 d9 (I1 : am_I), n - j = d → j ≤ n → z = nI j → v = lN (wr T sh s sd j).2 → frN [20] I I1 → sC (wr T sh s sd j).1 20 I1 → (∀ i, i < j → mayN T sh (wr T sh s sd i).1 ≠ 0) → bm_W G l 229 8 [some (.ref 20), some (.ref 7), some (.ref 12), some (.int (nI n)), some (.int (nI sd)), some (.long v), none, some (.int z), d8, d9] [] t I1 L Q := by
    intro d
    induction d with
    | zero =>
      intro j z v d8 d9 I1 hd hj hz hv f1 s1 hm
      obtain rfl : j = n := by omega
      subst hz hv
      refine bm_go (am_ok_all 229 (by decide)) 40 ?_
      refine And.intro (fun _ => h j I1 ⟨Nat.le_refl _, hm, fun q => by omega⟩ f1 s1) (fun cd => by omega)
    | succ d ih =>
      intro j z v d8 d9 I1 hd hj hz hv f1 s1 hm
      subst hz hv
      have ag1 := f1.agH (by decide) (by decide)
      have kj := wr_ok hT sh ks sd j
      have lj := wr_lt (T := T) sh s hsd j
      have m32 := mayN_lt T sh (wr T sh s sd j).1
      obtain ⟨p5, p0⟩ := pc5 _ m32
      have p5 : pc (mayN T sh (wr T sh s sd j).1) ≤ 5 := p5
      have p0 : pc (mayN T sh (wr T sh s sd j).1) = 0 ↔ mayN T sh (wr T sh s sd j).1 = 0 := p0
      refine bm_go (am_ok_all 229 (by decide)) 60 ?_
      refine And.intro (fun cd => ?_) (fun cd => ?_)
      · rw [nI_toInt (by omega), nI_toInt (by omega)] at cd
        omega
      · refine sp_allowed_20 (s := (wr T sh s sd j).1) sh hT (hc.agH ag1) (hL.agH ag1) s1 kj ?_
        refine sp_bitCount _ rfl (by omega) ?_
        refine And.intro (fun c2 => ?_) (fun c2 => ?_)
        · rw [nI_toInt (by omega)] at c2
          have c2 : pc (mayN T sh (wr T sh s sd j).1) ≠ 0 := by omega
          have c3 : mayN T sh (wr T sh s sd j).1 ≠ 0 := fun q => c2 (p0.mpr q)
          refine ⟨by decide, ?_⟩
          rw [lot_eq lj]
          have hlt : (wr T sh s sd j).2 * 48271 % 2147483647 < 2147483647 := Nat.mod_lt _ (by decide)
          refine ⟨nz64 (by omega) (by omega), ?_⟩
          rw [lot_eq2 (c := pc (mayN T sh (wr T sh s sd j).1)) hlt (by omega) (by omega)]
          have hmod : (wr T sh s sd j).2 * 48271 % 2147483647 % pc (mayN T sh (wr T sh s sd j).1) < pc (mayN T sh (wr T sh s sd j).1) := Nat.mod_lt _ (by omega)
          refine sp_choice _ _ rfl m32 (lN_i _) hmod ?_
          obtain ⟨q1, q2, -⟩ := chO_1 _ m32 _ (by omega) hmod
          refine sp_carry_20 (s := (wr T sh s sd j).1) sh _ rfl hT (hc.agH ag1) (hL.agH ag1) s1 kj (may_gOk q2 (may_of q2 q1)) (fun I2 f2 s2 => ?_)
          refine ih (j + 1) _ _ _ _ I2 (by omega) (by omega) (nI_succ j).symm rfl (f1.trans f2) s2 (fun i hi => ?_)
          by_cases q : i = j
          · subst q; exact c3
          · exact hm i (by omega)
        · rw [nI_toInt (by omega)] at c2
          have c3 := p0.mp (by omega)
          exact h j I1 ⟨by omega, hm, fun _ => c3⟩ f1 s1
  refine bm_go (am_ok_all 229 (by decide)) 40 ?_
  refine lp n 0 _ _ _ _ I rfl (Nat.zero_le _) rfl ?_ (frN.refl _ _) hs (fun i hi => by omega)
  rw [nI_l (by omega)]
  rfl
theorem sm_lots {T : tT} {s : sT} {x y : Int32} (sh n sd : Nat) (hx : x = nI n) (hn1 : 1 ≤ n) (hn : n ≤ 200) (hy : y = nI sd) (hsd1 : 1 ≤ sd) (hsd : sd < 2147483647) (hT : tOk T) (hm : mT T I) (hsh : I 61 19 = nI sh) (hs2 : sh < 2 ^ tN T) (hs : sM s 23 I) (h : ∀ m I', wrM T sh (tD T, 0, -9, false) sd n m → fr61 [0] I I' → I' 61 0 = nI m → Q (some (.int (nI (pc (wr T sh (tD T, 0, -9, false) sd m).1.2.1)))) t I' L) : bm_C G l 157 [.ref 61, .int x, .int y] t I L Q := by
  subst hx hy
  have n6 := hT.2.2.2.1
  have p6 := Nat.pow_le_pow_right (n := 2) (by decide) n6
  have m13 : ¬ (I 61 13).toInt = 0 := by
    rcases cz hm.2.2.1 (Or.inl hT) with ⟨_, he⟩ | ⟨c0, _⟩
    · exact (nE hT he).elim
    · exact c0
  have hz : I 61 26 = 0 ∨ I 61 26 = 1 := by
    rw [show I 61 26 = bI s.2.2.2 from hs.2.2.2]
    cases s.2.2.2
    · exact Or.inl rfl
    · exact Or.inr rfl
  have k0 : sOk T (tD T, 0, -9, false) := ⟨hT.2.1, hT.2.2.1, Nat.two_pow_pos _, fun h => by cases h⟩
  generalize hb : ((tD T, 0, -9, false) : sT) = b at *
  have fin : ∀ m v (d10 : Int32) d11 d12 (I1 : am_I), wrM T sh b sd n m → fr61 [23, 24, 25, 26] I I1 → sM (wr T sh b sd m).1 23 I1 → bm_W G l 157 185 [some (.ref 61), some (.int (nI n)), some (.int (nI sd)), some (.int (I 61 23)), some (.int (I 61 24)), some (.int (I 61 25)), some (.int (I 61 26)), some (.long v), none, some (.int (nI m)), some (.int d10), d11, d12] [] t I1 L Q := by
    intro m v d10 d11 d12 I1 hcm f1 s1
    have k1 := wr_ok hT sh k0 sd m
    refine bm_go (am_ok_all 157 (by decide)) 60 ?_
    refine sm_size (wr T sh b sd m).1.2.1 s1.2.1 (by have := k1.2.2.1; omega) ?_
    refine ⟨hz, ?_⟩
    refine sm_tells ?_
    refine h m _ hcm ⟨fun y hy => ?_, fun j hj => ?_⟩ rfl
    · rw [u_ne hy, u_ne hy, u_ne hy, u_ne hy, u_ne hy]
      exact f1.1 y hy
    · have h0 : j ≠ 0 := by simpa using hj
      rw [u_nj h0]
      by_cases q6 : j = 26
      · subst q6; rfl
      rw [u_nj q6]
      by_cases q5 : j = 25
      · subst q5; rfl
      rw [u_nj q5]
      by_cases q4 : j = 24
      · subst q4; rfl
      rw [u_nj q4]
      by_cases q3 : j = 23
      · subst q3; rfl
      rw [u_nj q3]
      exact f1.2 j (by simp; omega)
  have pick : ∀ (mm i : Nat) (z : Int32) (v : Int64) (I1 : am_I), mm < 32 → i < pc mm → (∀ w (d11 : Int32), w = nI (chO mm i) → bm_W G l 157 167 [some (.ref 61), some (.int (nI n)), some (.int (nI sd)), some (.int (I 61 23)), some (.int (I 61 24)), some (.int (I 61 25)), some (.int (I 61 26)), some (.long v), none, some (.int z), some (.int (nI mm)), some (.int d11), some (.int w)] [] t I1 L Q) →
      ∀ d w y u, chO mm i - w = d → w ≤ chO mm i → y = nI w → u = nI (i - pcn w mm) → bm_W G l 157 134 [some (.ref 61), some (.int (nI n)), some (.int (nI sd)), some (.int (I 61 23)), some (.int (I 61 24)), some (.int (I 61 25)), some (.int (I 61 26)), some (.long v), none, some (.int z), some (.int (nI mm)), some (.int u), some (.int y)] [] t I1 L Q := by
    intro mm i z v I1 hmm hi kont d
    have hi : i < pcn 32 mm := hi
    have h5 := (pc5 mm hmm).1
    obtain ⟨c1, c2, c3⟩ := chO_1 mm hmm i (by omega) hi
    have c4 : ∀ w, w < chO mm i → pcn w mm ≤ i ∧ (mm.testBit w = true → pcn w mm < i) := fun w hw => by
      obtain ⟨q1, q2⟩ := chO_2 mm hmm i (by omega) hi w (by omega) hw
      refine ⟨q1, fun q => ?_⟩
      rcases q2 with q2 | q2
      · rw [q] at q2; cases q2
      · exact q2
    have psplit : ∀ w, pcn (w + 1) mm = pcn w mm + (if mm.testBit w then 1 else 0) := by
      intro w
      have e := pcn_split w 1 (mm % 2 ^ w) (mm / 2 ^ w) (Nat.mod_lt _ (Nat.two_pow_pos w))
      rw [Nat.mod_add_div] at e
      rw [e]
      have e2 : ∀ (n a : Nat), pcn n (a % 2 ^ n) = pcn n a := by
        intro n
        induction n with
        | zero => intro a; rfl
        | succ n ih =>
          intro a
          rw [pcn_s, pcn_s, ← ih (a / 2)]
          have q1 : a % 2 ^ (n + 1) % 2 = a % 2 := Nat.mod_mod_of_dvd _ (Nat.dvd_of_mod_eq_zero (by rw [Nat.pow_succ]; exact Nat.mul_mod_left _ _))
          have q2 : a % 2 ^ (n + 1) / 2 = a / 2 % 2 ^ n := by
            rw [Nat.pow_succ, Nat.mul_comm, Nat.mod_mul_right_div_self]
          rw [q1, q2]
      rw [e2]
      congr 1
      rw [pcn_s, show pcn 0 (mm / 2 ^ w / 2) = 0 from rfl, Nat.add_zero, Nat.testBit, Nat.shiftRight_eq_div_pow, Nat.and_comm, Nat.and_one_is_mod]
      by_cases q : mm / 2 ^ w % 2 = 0
      · rw [q]; rfl
      · have : mm / 2 ^ w % 2 = 1 := by omega
        rw [this]; rfl
    induction d with
    | zero =>
      intro w y u hd hw hy hu
      obtain rfl : w = chO mm i := by omega
      rw [c3, Nat.sub_self] at hu
      subst hy hu
      have bit := n_bit (s := mm) (j := chO mm i) (by omega) (by omega)
      rw [c1] at bit
      refine bm_go (am_ok_all 157 (by decide)) 7 ?_
      refine And.intro (fun cd => ?_) (fun cd => ?_)
      · rw [bit] at cd
        exact absurd cd (by decide)
      · refine And.intro (fun _ => kont _ _ rfl) (fun cd => absurd cd (by decide))
    | succ d ih =>
      intro w y u hd hw hy hu
      subst hy hu
      have hw2 : w < chO mm i := by omega
      obtain ⟨g1, g2⟩ := c4 w hw2
      have bit := n_bit (s := mm) (j := w) (by omega) (by omega)
      have ps := psplit w
      have nxt : nI (i - pcn w mm) - (nI mm >>> (nI w &&& 31) &&& 1) = nI (i - pcn (w + 1) mm) := by
        rw [bit, ps]
        cases e : mm.testBit w with
        | true =>
          have := g2 e
          show nI (i - pcn w mm) - nI 1 = nI (i - (pcn w mm + 1))
          rw [pk_sub (by omega)]
          congr 1
        | false =>
          show nI (i - pcn w mm) - nI 0 = nI (i - (pcn w mm + 0))
          rw [pk_sub (by omega)]
          rfl
      cases e : mm.testBit w with
      | true =>
        rw [e] at bit
        have g3 := g2 e
        refine bm_go (am_ok_all 157 (by decide)) 60 ?_
        refine And.intro (fun cd => ?_) (fun cd => ?_)
        · rw [bit] at cd
          exact absurd cd (by decide)
        · refine And.intro (fun cd => ?_) (fun _ => ?_)
          · rw [nI_toInt (by omega)] at cd
            omega
          · exact ih (w + 1) _ _ (by omega) (by omega) (nI_succ w).symm nxt
      | false =>
        rw [e] at bit
        refine bm_go (am_ok_all 157 (by decide)) 60 ?_
        refine And.intro (fun _ => ?_) (fun cd => ?_)
        · exact ih (w + 1) _ _ (by omega) (by omega) (nI_succ w).symm nxt
        · rw [bit] at cd
          exact absurd rfl cd
  have lp : ∀ d j z v u d11 d12 (I1 : am_I), n - j = d → j ≤ n → z = nI j → v = lN (wr T sh b sd j).2 → u = nI (mayN T sh (wr T sh b sd j).1) → fr61 [23, 24, 25, 26] I I1 → sM (wr T sh b sd j).1 23 I1 → (∀ i, i < j → mayN T sh (wr T sh b sd i).1 ≠ 0) → bm_W G l 157 96 [some (.ref 61), some (.int (nI n)), some (.int (nI sd)), some (.int (I 61 23)), some (.int (I 61 24)), some (.int (I 61 25)), some (.int (I 61 26)), some (.long v), none, some (.int z), some (.int u), d11, d12] [] t I1 L Q := by
    intro d
    induction d with
    | zero =>
      intro j z v u d11 d12 I1 hd hj hz2 hv hu f1 s1 hmm
      obtain rfl : j = n := by omega
      subst hz2
      refine bm_go (am_ok_all 157 (by decide)) 2 ?_
      refine And.intro (fun _ => fin j v _ _ _ I1 ⟨Nat.le_refl _, hmm, fun q => by omega⟩ f1 s1) (fun cd => by omega)
    | succ d ih =>
      intro j z v u d11 d12 I1 hd hj hz2 hv hu f1 s1 hmm
      subst hz2 hv hu
      have hm1 : mT T I1 := hm.f61 f1 (fun j h1 h2 => by simp; omega)
      have sh1 : I1 61 19 = nI sh := by rw [f1.2 19 (by decide)]; exact hsh
      have kj := wr_ok hT sh k0 sd j
      have lj := wr_lt (T := T) sh b hsd j
      have m32 := mayN_lt T sh (wr T sh b sd j).1
      obtain ⟨p5, p0⟩ := pc5 _ m32
      have p5 : pc (mayN T sh (wr T sh b sd j).1) ≤ 5 := p5
      have p0 : pc (mayN T sh (wr T sh b sd j).1) = 0 ↔ mayN T sh (wr T sh b sd j).1 = 0 := p0
      by_cases c3 : mayN T sh (wr T sh b sd j).1 = 0
      · refine bm_go (am_ok_all 157 (by decide)) 4 ?_
        refine And.intro (fun cd => ?_) (fun cd => ?_)
        · rw [nI_toInt (by omega), nI_toInt (by omega)] at cd
          omega
        · refine And.intro (fun _ => fin j _ _ _ _ I1 ⟨by omega, hmm, fun _ => c3⟩ f1 s1) (fun cd => ?_)
          rw [c3] at cd
          exact absurd rfl cd
      · have c2 : pc (mayN T sh (wr T sh b sd j).1) ≠ 0 := fun q => c3 (p0.mp q)
        refine bm_go (am_ok_all 157 (by decide)) 60 ?_
        refine And.intro (fun cd => ?_) (fun cd => ?_)
        · rw [nI_toInt (by omega), nI_toInt (by omega)] at cd
          omega
        · refine And.intro (fun cd => ?_) (fun cd => ?_)
          · rw [nI_toInt (by omega)] at cd
            omega
          · refine ⟨by decide, ?_⟩
            rw [lot_eq lj]
            have hlt : (wr T sh b sd j).2 * 48271 % 2147483647 < 2147483647 := Nat.mod_lt _ (by decide)
            refine sm_size _ rfl (by omega) ?_
            refine ⟨nz64 (by omega) (by omega), ?_⟩
            rw [lot_eq2 (c := pc (mayN T sh (wr T sh b sd j).1)) hlt (by omega) (by omega)]
            have hmod : (wr T sh b sd j).2 * 48271 % 2147483647 % pc (mayN T sh (wr T sh b sd j).1) < pc (mayN T sh (wr T sh b sd j).1) := Nat.mod_lt _ (by omega)
            obtain ⟨q1, q2, -⟩ := chO_1 _ m32 _ (by omega) hmod
            refine pick _ _ _ _ I1 m32 hmod (fun w d11 hw => ?_) _ 0 _ _ rfl (Nat.zero_le _) rfl (lN_i _)
            subst hw
            refine bm_go (am_ok_all 157 (by decide)) 60 ?_
            refine sm_does (s := (wr T sh b sd j).1) sh _ rfl hT hm1 sh1 hs2 s1 kj (may_gOk q2 (may_of q2 q1)) (fun I2 f2 s2 => ?_)
            have f12 := f1.trans f2
            refine sm_mays (s := (wr T sh b sd (j + 1)).1) sh hT (hm.f61 f12 (fun j h1 h2 => by simp; omega)) (by rw [f12.2 19 (by decide)]; exact hsh) hs2 s2 (wr_ok hT sh k0 sd (j + 1)) ?_
            refine ih (j + 1) _ _ _ _ _ I2 (by omega) (by omega) (nI_succ j).symm rfl rfl f12 s2 (fun i hi => ?_)
            by_cases q : i = j
            · subst q; exact c3
            · exact hmm i (by omega)
  have hnt : (nI n).toInt = (n : Int) := nI_toInt (by omega)
  have hst : (nI sd).toInt = (sd : Int) := nI_toInt (by omega)
  refine bm_go (am_ok_all 157 (by decide)) 60 ?_
  refine sm_in (n : Int) 1 200 ((i64 _).trans hnt) rfl rfl (fun y1 y2 => ?_) (fun y1 => by omega)
  first | refine And.intro (fun cd => absurd cd (by decide)) (fun _ => ?_) | refine And.intro (fun _ => ?_) (fun cd => absurd cd (by decide)) | refine And.intro (fun cd => ?_) (fun cd => ?_)
  refine sm_in (sd : Int) 1 2147483646 ((i64 _).trans hst) rfl rfl (fun y1 y2 => ?_) (fun y1 => by omega)
  first | refine And.intro (fun cd => absurd cd (by decide)) (fun _ => ?_) | refine And.intro (fun _ => ?_) (fun cd => absurd cd (by decide)) | refine And.intro (fun cd => ?_) (fun cd => ?_)
  refine And.intro (fun _ => ?_) (fun cd => absurd cd m13)
  refine ⟨Or.inl rfl, ?_⟩
  have f0 : fr61 [23, 24, 25, 26] I (am_u (am_u (am_u (am_u I 61 23 (I 61 15)) 61 24 0) 61 25 (-9)) 61 26 0) := (((((fr61.refl _ _).u (by decide)).u (by decide)).u (by decide)).u (by decide))
  have s0 : sM b 23 (am_u (am_u (am_u (am_u I 61 23 (I 61 15)) 61 24 0) 61 25 (-9)) 61 26 0) := by
    rw [← hb]
    exact ⟨hm.2.2.2.2.1, rfl, rfl, rfl⟩
  refine sm_mays (s := b) sh hT (hm.f61 f0 (fun j h1 h2 => by simp; omega)) (by rw [f0.2 19 (by decide)]; exact hsh) hs2 s0 k0 ?_
  refine lp n 0 _ _ _ _ _ _ rfl (Nat.zero_le _) rfl ?_ rfl f0 s0 (fun i hi => by omega)
  rw [nI_l (by omega)]
  rfl
theorem pair_lots {x y : Int32} (h : Inv t I L) : bm_C G l 41 [.ref 0, .int x, .int y] t I L (pI G l 157 [.ref 61, .int x, .int y]) := by
  obtain ⟨T, sh, hc, hm, hs, a1, a2, hL, a4, hK, hS, hO, hG⟩ := h.2.2
  have hT := InvX.ok hG
  have n6 := hT.n6
  have p6 := Nat.pow_le_pow_right (n := 2) (by decide) n6
  have bad : (x.toInt < 1 ∨ 200 < x.toInt ∨ y.toInt < 1 ∨ 2147483646 < y.toInt) → bm_C G l 157 [.ref 61, .int x, .int y] t I L (fun v' t I L => v' = some (.int (-1)) ∧ Inv t I L) := by
    intro q
    refine bm_go (am_ok_all 157 (by decide)) 60 ?_
    refine sm_in x.toInt 1 200 (i64 x) rfl rfl (fun y1 y2 => ?_) (fun y1 => ?_)
    · first | refine And.intro (fun cd => absurd cd (by decide)) (fun _ => ?_) | refine And.intro (fun _ => ?_) (fun cd => absurd cd (by decide)) | refine And.intro (fun cd => ?_) (fun cd => ?_)
      refine sm_in y.toInt 1 2147483646 (i64 y) rfl rfl (fun y3 y4 => by omega) (fun y3 => ?_)
      first | refine And.intro (fun cd => absurd cd (by decide)) (fun _ => ?_) | refine And.intro (fun _ => ?_) (fun cd => absurd cd (by decide)) | refine And.intro (fun cd => ?_) (fun cd => ?_)
      exact ⟨rfl, h⟩
    · first | refine And.intro (fun cd => absurd cd (by decide)) (fun _ => ?_) | refine And.intro (fun _ => ?_) (fun cd => absurd cd (by decide)) | refine And.intro (fun cd => ?_) (fun cd => ?_)
      exact ⟨rfl, h⟩
  refine bm_go (am_ok_all 41 (by decide)) 60 ?_
  refine And.intro (fun cd => ⟨_, rfl, bad (by rw [T1] at cd; omega)⟩) (fun c1 => ?_)
  refine And.intro (fun cd => ⟨_, rfl, bad (by rw [T200] at cd; omega)⟩) (fun c2 => ?_)
  refine And.intro (fun cd => ⟨_, rfl, bad (by rw [T1] at cd; omega)⟩) (fun c3 => ?_)
  refine And.intro (fun c4 => ?_) (fun cd => ⟨_, rfl, bad (by rw [TP] at cd; omega)⟩)
  rw [T1] at c1 c3
  rw [T200] at c2
  rw [TP] at c4
  have hx := of_nn (y := x) (by omega)
  have hy := of_nn (y := y) (by omega)
  have hxr : x.toInt = (x.toInt.toNat : Int) := by omega
  have hyr : y.toInt = (y.toInt.toNat : Int) := by omega
  generalize x.toInt.toNat = n at hx hxr
  generalize y.toInt.toNat = sd at hy hyr
  rcases cz hc.2.1 hT with ⟨c0, he⟩ | ⟨c0, hok⟩
  · refine And.intro (fun cd => absurd c0 cd) (fun _ => ?_)
    refine ⟨_, rfl, ?_⟩
    refine bm_go (am_ok_all 157 (by decide)) 60 ?_
    refine sm_in x.toInt 1 200 (i64 x) rfl rfl (fun y1 y2 => ?_) (fun y1 => by omega)
    first | refine And.intro (fun cd => absurd cd (by decide)) (fun _ => ?_) | refine And.intro (fun _ => ?_) (fun cd => absurd cd (by decide)) | refine And.intro (fun cd => ?_) (fun cd => ?_)
    refine sm_in y.toInt 1 2147483646 (i64 y) rfl rfl (fun y1 y2 => ?_) (fun y1 => by omega)
    first | refine And.intro (fun cd => absurd cd (by decide)) (fun _ => ?_) | refine And.intro (fun _ => ?_) (fun cd => absurd cd (by decide)) | refine And.intro (fun cd => ?_) (fun cd => ?_)
    refine And.intro (fun cd => ?_) (fun _ => ⟨rfl, h⟩)
    rw [hm.2.2.1, ← hc.2.1] at cd
    exact absurd c0 cd
  · obtain ⟨nn, b, d, p, a, n1, b1, n2, n3, -⟩ := hGk hok hG
    refine And.intro (fun _ => ?_) (fun cd => absurd cd c0)
    refine sp_beginAt_20 (tD T) hc.2.2.1 (fun I1 f1 s1 => ?_)
    have ag1 := f1.agH (by decide) (by decide)
    have k0 : sOk T (tD T, 0, -9, false) := ⟨hok.2.1, hok.2.2.1, Nat.two_pow_pos _, fun h => by cases h⟩
    refine sp_wander (s := (tD T, 0, -9, false)) sh n sd hx (by omega) hy (by omega) hok (hc.agH ag1) (hL.agH ag1) s1 k0 (fun m I2 w2 f2 s2 => ?_)
    have k2 := wr_ok hok sh k0 sd m
    refine sp_bitCount _ s2.2.1 (by have := k2.2.2.1; omega) ?_
    refine sp_besides ?_
    refine ⟨_, rfl, ?_⟩
    have f12 : frN [20] I I2 := f1.trans f2
    have f3 : frN [20, 36] I (am_u I2 36 0 (nI m)) := (f12.mono (by decide)).u (by decide)
    have r61 : (am_u I2 36 0 (nI m)) 61 = I 61 := f3 61 (by decide)
    have hm3 : mT T (am_u I2 36 0 (nI m)) := by
      unfold mT at hm ⊢
      rw [r61, f3 66 (by decide), f3 67 (by decide), f3 68 (by decide)]
      exact hm
    refine sm_lots (s := nn) sh n sd hx (by omega) (by omega) hy (by omega) (by omega) hok hm3 (by rw [r61]; exact a2) hs (n3.agH r61) (fun m2 I4 c4 f4 e4 => ?_)
    obtain rfl := wrM_u w2 c4
    refine ⟨rfl, ?_⟩
    have hI4 : I4 = am_u (am_u I2 36 0 (nI m)) 61 0 (nI m) := by
      funext y j
      by_cases q : y = 61
      · subst q
        by_cases q2 : j = 0
        · subst q2
          rw [u_eq]
          exact e4
        · rw [u_nj q2]
          exact f4.2 j (by simpa using q2)
      · rw [u_ne q]
        exact congrFun (f4.1 y q) j
    rw [hI4]
    have hag := f12.ag (by decide) (by decide) (by decide) (by decide)
    have h2 : Inv t I2 L := ⟨h.1.fr (fun x y1 y2 => f12 x (by simp; omega)) (f12 63 (by decide)) (f12 64 (by decide)), h.2.1.fr ⟨by rw [f12 36 (by decide)], by rw [f12 36 (by decide)]⟩ (f12 37 (by decide)) ⟨by rw [f12 61 (by decide)], by rw [f12 61 (by decide)]⟩ (f12 62 (by decide)), h.2.2.fr hag⟩
    exact h2.tell _
end PL

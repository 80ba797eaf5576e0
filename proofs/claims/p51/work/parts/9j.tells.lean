/-! the class tells the first row of fewest steps -/
theorem eN_inj {a b : Option Nat} (ha : ob a) (hb : ob b) : ((eN a).toInt = (eN b).toInt) ↔ a = b := by
  rw [eN_i ha, eN_i hb]
  cases a with
  | none =>
    cases b with
    | none => exact ⟨fun _ => rfl, fun _ => rfl⟩
    | some y =>
      have := hb y rfl
      exact ⟨fun e => by have e : (1048576 : Int) = (y : Int) := e; omega, fun e => by cases e⟩
  | some x =>
    have := ha x rfl
    cases b with
    | none => exact ⟨fun e => by have e : (x : Int) = (1048576 : Int) := e; omega, fun e => by cases e⟩
    | some y => exact ⟨fun e => by have e : (x : Int) = (y : Int) := e; rw [show x = y by omega], fun e => by cases e; rfl⟩
theorem gd_cons {g : Nat → Nat → Nat → Option Nat} {n a d s l : Nat} (h : (gd g n a d s l).length ≠ 0) : s < a ∧ ∃ d', d = d' + 1 ∧ gd g n a d s l = nxt g n a s l :: gd g n a d' (s + 2 ^ nxt g n a s l) (nxt g n a s l) := by
  cases d with
  | zero => exact absurd rfl h
  | succ d =>
    by_cases q : a ≤ s
    · have e : gd g n a (d + 1) s l = [] := if_pos q
      rw [e] at h
      exact absurd rfl h
    · exact ⟨by omega, d, rfl, if_neg q⟩
section PT
variable {G : am_G} {l : Launch} {t : am_T} {I : am_I} {L : am_J} {Q : bm_P}
theorem sp_tellShortest_0 {T : tT} (sh v : Nat) (h6 : tN T ≤ 6) (h3 : I 25 3 = nI (tN T)) (h4 : I 25 4 = nI (al T)) (tb : tabs T sh I) (hv : Bo (gap T sh) (tN T) (al T) 0 7 = some v) (hlen : (gd (gap T sh) (tN T) (al T) 64 0 7).length = tN T) (h : ∀ I', frN [38, 39] I I' → I' 38 1 = nI (tN T) → (∀ j, j < tN T → I' 39 j = nI (rwF (gd (gap T sh) (tN T) (al T) 64 0 7) j)) → Q none t I' L) : bm_C G l 190 [.ref 25, .ref 38] t I L Q := by
  have p := Nat.two_pow_pos (tN T)
  have p6 := Nat.pow_le_pow_right (n := 2) (by decide) h6
  have a64 : al T < 64 := by unfold al; omega
  generalize hR : gd (gap T sh) (tN T) (al T) 64 0 7 = R at *
  have lp : ∀ (suf : List Nat) (d i s la w : Nat) (y2 y3 y4 : Int32) (d5 : Option Value) (I1 : am_I), suf = gd (gap T sh) (tN T) (al T) d s la → i + suf.length = tN T → (∀ j, j < suf.length → rwF R (i + j) = rwF suf j) → s ≤ al T → la < 8 → Bo (gap T sh) (tN T) (al T) s la = some w → y2 = nI s → y3 = nI la → y4 = nI i → frN [38, 39] I I1 → I1 38 1 = nI (tN T) → (∀ j, j < i → I1 39 j = nI (rwF R j)) → bm_W G l 190 17 [some (.ref 25), some (.ref 38), some (.int y2), some (.int y3), some (.int y4), d5] [] t I1 L Q := by
    intro suf
    induction suf with
    | nil =>
      intro d i s la w y2 y3 y4 d5 I1 hsuf hi hj hs hl hb e2 e3 e4 f1 sz g1
      subst e2 e3 e4
      have hi : i = tN T := by simpa using hi
      subst hi
      refine bm_go (am_ok_all 190 (by decide)) 60 ?_
      refine And.intro (fun _ => h I1 f1 sz g1) (fun cd => ?_)
      rw [f1 25 (by decide), h3] at cd
      omega
    | cons kk suf ih =>
      intro d i s la w y2 y3 y4 d5 I1 hsuf hi hj hs hl hb e2 e3 e4 f1 sz g1
      subst e2 e3 e4
      have hi : i + (suf.length + 1) = tN T := hi
      obtain ⟨sa, d', ed, ec⟩ := gd_cons (g := gap T sh) (n := tN T) (a := al T) (d := d) (s := s) (l := la) (by rw [← hsuf]; exact Nat.succ_ne_zero _)
      rw [ec] at hsuf
      have ek : kk = nxt (gap T sh) (tN T) (al T) s la := by injection hsuf
      have es : suf = gd (gap T sh) (tN T) (al T) d' (s + 2 ^ kk) kk := by rw [ek]; injection hsuf
      obtain ⟨n1, n2, n3⟩ := nxt_spec sa hb
      rw [← ek] at n1 n2 n3
      have c : s.testBit kk = false := by
        cases q : s.testBit kk with
        | false => rfl
        | true =>
          unfold sB at n2
          rw [q] at n2
          cases n2
      have sb := n2
      unfold sB at sb
      rw [if_neg (by rw [c]; decide)] at sb
      obtain ⟨x, z, q1, q2, q3⟩ := oadd_some sb
      obtain ⟨u1, u2⟩ := up_al h6 hs n1 c
      obtain ⟨b1, b2, b3⟩ := bit_up s (by omega) kk (by omega) c
      have eset : nI s ||| (1 : Int32) <<< (nI kk &&& 31) = nI (s + 2 ^ kk) := by rw [k1, n_shl _ (by omega), n_or, b1]
      have tb1 : tabs T sh I1 := by
        unfold tabs at tb ⊢
        rw [f1 27 (by decide), f1 28 (by decide), f1 29 (by decide), f1 30 (by decide)]
        exact tb
      have e3' : I1 25 3 = nI (tN T) := by rw [f1 25 (by decide)]; exact h3
      have obB : ob (Bo (gap T sh) (tN T) (al T) s la) := fun v e => by
        have := Bo_lt (g := gap T sh) (fun s l k v e => gap_lt e) (tN T) (al T) _ s la v rfl e
        omega
      have obS : ∀ k, ob (sB (gap T sh) (tN T) (al T) s la k) := fun k v e => by
        unfold sB at e
        split at e
        · cases e
        · obtain ⟨x, y, e1, e2, rfl⟩ := oadd_some e
          have := gap_lt e1
          have := Bo_lt (g := gap T sh) (fun s l k v e => gap_lt e) (tN T) (al T) _ _ k y rfl e2
          have := Nat.two_pow_pos k
          omega
      have fin : ∀ y5, y5 = nI kk → ∀ (d5 : Option Value), bm_W G l 190 29 [some (.ref 25), some (.ref 38), some (.int (nI s)), some (.int (nI la)), some (.int (nI i)), some (.int y5)] [] t I1 L Q → True := fun _ _ _ _ => trivial
      have last : bm_C G l 234 [.ref 38, .int (nI i), .int (nI kk)] t I1 L (fun v t I' L => bm_W G l 190 17 [some (.ref 25), some (.ref 38), some (.int (nI s ||| (1 : Int32) <<< (nI kk &&& 31))), some (.int (nI kk)), some (.int (nI i + 1)), some (.int (nI kk))] (am_bk v []) t I' L Q) := by
        have ti : (nI i).toInt.toNat = i := by rw [nI_toInt (by omega)]; exact Int.toNat_natCast i
        have szi : (I1 38 1).toInt = (tN T : Int) := by rw [sz]; exact nI_toInt (by omega)
        refine sp_change 0 (by decide) (by show (I1 38 1).toInt ≤ (60 : Int); omega) (fun q0 q1 => ?_) (fun q0 => ?_)
        · refine ih d' (i + 1) (s + 2 ^ kk) kk z _ _ _ _ _ es (by omega) (fun j hj2 => ?_) u1 (by omega) q2 eset rfl (nI_succ i).symm (f1.u (by decide)) ?_ (fun j hj2 => ?_)
          · have := hj (j + 1) (Nat.succ_lt_succ hj2)
            rw [show i + 1 + j = i + (j + 1) by omega]
            exact this
          · exact sz
          · show am_u I1 39 (nI i).toInt.toNat (nI kk) 39 j = _
            rw [ti]
            by_cases q : j = i
            · subst q
              rw [u_eq]
              have := hj 0 (Nat.succ_pos _)
              rw [Nat.add_zero] at this
              rw [this]
              rfl
            · rw [u_nj q]
              exact g1 j (by omega)
        · exfalso
          have q0 : (nI i).toInt < 0 ∨ (I1 38 1).toInt ≤ (nI i).toInt := q0
          rw [szi, nI_toInt (by omega)] at q0
          omega
      have lpK : ∀ d k y5, kk - k = d → k ≤ kk → y5 = nI k → bm_W G l 190 29 [some (.ref 25), some (.ref 38), some (.int (nI s)), some (.int (nI la)), some (.int (nI i)), some (.int y5)] [] t I1 L Q := by
        intro d
        induction d with
        | zero =>
          intro k y5 hd hk e5
          obtain rfl : k = kk := by omega
          subst e5
          refine bm_go (am_ok_all 190 (by decide)) 90 ?_
          refine And.intro (fun _ => last) (fun _ => ?_)
          refine sp_stepsBy sh s la k h6 rfl rfl rfl sa hl n1 tb1.1 (fun s' _ h2 l hl => tb1.2.2.1 s' l h2 hl) ?_
          refine sp_key s la rfl rfl (by omega) hl ?_
          refine ⟨8 * s + la, nI_toInt (by omega), (by omega : 8 * s + la < 512), ?_⟩
          refine And.intro (fun _ => last) (fun cd => ?_)
          rw [tb1.2.2.1 s la hs hl] at cd
          exact absurd ((eN_inj (obS k) obB).mpr (by rw [n2, hb])) cd
        | succ d ih2 =>
          intro k y5 hd hk e5
          subst e5
          refine bm_go (am_ok_all 190 (by decide)) 90 ?_
          refine And.intro (fun cd => ?_) (fun _ => ?_)
          · rw [e3', k1, pk_sub (by omega), nI_toInt (by omega), nI_toInt (by omega)] at cd
            omega
          refine sp_stepsBy sh s la k h6 rfl rfl rfl sa hl (by omega) tb1.1 (fun s' _ h2 l hl => tb1.2.2.1 s' l h2 hl) ?_
          refine sp_key s la rfl rfl (by omega) hl ?_
          refine ⟨8 * s + la, nI_toInt (by omega), (by omega : 8 * s + la < 512), ?_⟩
          refine And.intro (fun cd => ?_) (fun cd => ?_)
          · rw [tb1.2.2.1 s la hs hl] at cd
            have := (eN_inj (obS k) obB).mp cd
            rw [hb] at this
            exact absurd this (n3 k (by omega))
          · exact ih2 (k + 1) _ (by omega) (by omega) (nI_succ k).symm
      refine bm_go (am_ok_all 190 (by decide)) 60 ?_
      refine And.intro (fun cd => ?_) (fun _ => ?_)
      · rw [e3', nI_toInt (by omega), nI_toInt (by omega)] at cd
        omega
      exact lpK _ 0 _ rfl (Nat.zero_le _) rfl
  refine bm_go (am_ok_all 190 (by decide)) 60 ?_
  refine sp_renew 0 (by decide) (by show (I 25 3).toInt ≤ (60 : Int); rw [h3, nI_toInt (by omega)]; omega) ?_
  refine lp R 64 0 0 7 v _ _ _ _ _ hR.symm (by omega) (fun j _ => by rw [Nat.zero_add]) (Nat.zero_le _) (by decide) hv rfl rfl rfl (((frN.refl _ _).u (by decide)).f (by decide)) ?_ (fun j hj => by omega)
  rw [f_ne (by decide)]
  show am_u I 38 1 (I 25 3) 38 1 = _
  rw [u_eq, h3]
theorem sp_tellShortest_1 {T : tT} (sh v : Nat) (h6 : tN T ≤ 6) (h3 : I 25 3 = nI (tN T)) (h4 : I 25 4 = nI (al T)) (tb : tabs T sh I) (hv : Bo (gap T sh) (tN T) (al T) 0 7 = some v) (hlen : (gd (gap T sh) (tN T) (al T) 64 0 7).length = tN T) (h : ∀ I', frN [40, 41] I I' → I' 40 1 = nI (tN T) → (∀ j, j < tN T → I' 41 j = nI (rwF (gd (gap T sh) (tN T) (al T) 64 0 7) j)) → Q none t I' L) : bm_C G l 190 [.ref 25, .ref 40] t I L Q := by
  have p := Nat.two_pow_pos (tN T)
  have p6 := Nat.pow_le_pow_right (n := 2) (by decide) h6
  have a64 : al T < 64 := by unfold al; omega
  generalize hR : gd (gap T sh) (tN T) (al T) 64 0 7 = R at *
  have lp : ∀ (suf : List Nat) (d i s la w : Nat) (y2 y3 y4 : Int32) (d5 : Option Value) (I1 : am_I), suf = gd (gap T sh) (tN T) (al T) d s la → i + suf.length = tN T → (∀ j, j < suf.length → rwF R (i + j) = rwF suf j) → s ≤ al T → la < 8 → Bo (gap T sh) (tN T) (al T) s la = some w → y2 = nI s → y3 = nI la → y4 = nI i → frN [40, 41] I I1 → I1 40 1 = nI (tN T) → (∀ j, j < i → I1 41 j = nI (rwF R j)) → bm_W G l 190 17 [some (.ref 25), some (.ref 40), some (.int y2), some (.int y3), some (.int y4), d5] [] t I1 L Q := by
    intro suf
    induction suf with
    | nil =>
      intro d i s la w y2 y3 y4 d5 I1 hsuf hi hj hs hl hb e2 e3 e4 f1 sz g1
      subst e2 e3 e4
      have hi : i = tN T := by simpa using hi
      subst hi
      refine bm_go (am_ok_all 190 (by decide)) 60 ?_
      refine And.intro (fun _ => h I1 f1 sz g1) (fun cd => ?_)
      rw [f1 25 (by decide), h3] at cd
      omega
    | cons kk suf ih =>
      intro d i s la w y2 y3 y4 d5 I1 hsuf hi hj hs hl hb e2 e3 e4 f1 sz g1
      subst e2 e3 e4
      have hi : i + (suf.length + 1) = tN T := hi
      obtain ⟨sa, d', ed, ec⟩ := gd_cons (g := gap T sh) (n := tN T) (a := al T) (d := d) (s := s) (l := la) (by rw [← hsuf]; exact Nat.succ_ne_zero _)
      rw [ec] at hsuf
      have ek : kk = nxt (gap T sh) (tN T) (al T) s la := by injection hsuf
      have es : suf = gd (gap T sh) (tN T) (al T) d' (s + 2 ^ kk) kk := by rw [ek]; injection hsuf
      obtain ⟨n1, n2, n3⟩ := nxt_spec sa hb
      rw [← ek] at n1 n2 n3
      have c : s.testBit kk = false := by
        cases q : s.testBit kk with
        | false => rfl
        | true =>
          unfold sB at n2
          rw [q] at n2
          cases n2
      have sb := n2
      unfold sB at sb
      rw [if_neg (by rw [c]; decide)] at sb
      obtain ⟨x, z, q1, q2, q3⟩ := oadd_some sb
      obtain ⟨u1, u2⟩ := up_al h6 hs n1 c
      obtain ⟨b1, b2, b3⟩ := bit_up s (by omega) kk (by omega) c
      have eset : nI s ||| (1 : Int32) <<< (nI kk &&& 31) = nI (s + 2 ^ kk) := by rw [k1, n_shl _ (by omega), n_or, b1]
      have tb1 : tabs T sh I1 := by
        unfold tabs at tb ⊢
        rw [f1 27 (by decide), f1 28 (by decide), f1 29 (by decide), f1 30 (by decide)]
        exact tb
      have e3' : I1 25 3 = nI (tN T) := by rw [f1 25 (by decide)]; exact h3
      have obB : ob (Bo (gap T sh) (tN T) (al T) s la) := fun v e => by
        have := Bo_lt (g := gap T sh) (fun s l k v e => gap_lt e) (tN T) (al T) _ s la v rfl e
        omega
      have obS : ∀ k, ob (sB (gap T sh) (tN T) (al T) s la k) := fun k v e => by
        unfold sB at e
        split at e
        · cases e
        · obtain ⟨x, y, e1, e2, rfl⟩ := oadd_some e
          have := gap_lt e1
          have := Bo_lt (g := gap T sh) (fun s l k v e => gap_lt e) (tN T) (al T) _ _ k y rfl e2
          have := Nat.two_pow_pos k
          omega
      have fin : ∀ y5, y5 = nI kk → ∀ (d5 : Option Value), bm_W G l 190 29 [some (.ref 25), some (.ref 40), some (.int (nI s)), some (.int (nI la)), some (.int (nI i)), some (.int y5)] [] t I1 L Q → True := fun _ _ _ _ => trivial
      have last : bm_C G l 234 [.ref 40, .int (nI i), .int (nI kk)] t I1 L (fun v t I' L => bm_W G l 190 17 [some (.ref 25), some (.ref 40), some (.int (nI s ||| (1 : Int32) <<< (nI kk &&& 31))), some (.int (nI kk)), some (.int (nI i + 1)), some (.int (nI kk))] (am_bk v []) t I' L Q) := by
        have ti : (nI i).toInt.toNat = i := by rw [nI_toInt (by omega)]; exact Int.toNat_natCast i
        have szi : (I1 40 1).toInt = (tN T : Int) := by rw [sz]; exact nI_toInt (by omega)
        refine sp_change 1 (by decide) (by show (I1 40 1).toInt ≤ (60 : Int); omega) (fun q0 q1 => ?_) (fun q0 => ?_)
        · refine ih d' (i + 1) (s + 2 ^ kk) kk z _ _ _ _ _ es (by omega) (fun j hj2 => ?_) u1 (by omega) q2 eset rfl (nI_succ i).symm (f1.u (by decide)) ?_ (fun j hj2 => ?_)
          · have := hj (j + 1) (Nat.succ_lt_succ hj2)
            rw [show i + 1 + j = i + (j + 1) by omega]
            exact this
          · exact sz
          · show am_u I1 41 (nI i).toInt.toNat (nI kk) 41 j = _
            rw [ti]
            by_cases q : j = i
            · subst q
              rw [u_eq]
              have := hj 0 (Nat.succ_pos _)
              rw [Nat.add_zero] at this
              rw [this]
              rfl
            · rw [u_nj q]
              exact g1 j (by omega)
        · exfalso
          have q0 : (nI i).toInt < 0 ∨ (I1 40 1).toInt ≤ (nI i).toInt := q0
          rw [szi, nI_toInt (by omega)] at q0
          omega
      have lpK : ∀ d k y5, kk - k = d → k ≤ kk → y5 = nI k → bm_W G l 190 29 [some (.ref 25), some (.ref 40), some (.int (nI s)), some (.int (nI la)), some (.int (nI i)), some (.int y5)] [] t I1 L Q := by
        intro d
        induction d with
        | zero =>
          intro k y5 hd hk e5
          obtain rfl : k = kk := by omega
          subst e5
          refine bm_go (am_ok_all 190 (by decide)) 90 ?_
          refine And.intro (fun _ => last) (fun _ => ?_)
          refine sp_stepsBy sh s la k h6 rfl rfl rfl sa hl n1 tb1.1 (fun s' _ h2 l hl => tb1.2.2.1 s' l h2 hl) ?_
          refine sp_key s la rfl rfl (by omega) hl ?_
          refine ⟨8 * s + la, nI_toInt (by omega), (by omega : 8 * s + la < 512), ?_⟩
          refine And.intro (fun _ => last) (fun cd => ?_)
          rw [tb1.2.2.1 s la hs hl] at cd
          exact absurd ((eN_inj (obS k) obB).mpr (by rw [n2, hb])) cd
        | succ d ih2 =>
          intro k y5 hd hk e5
          subst e5
          refine bm_go (am_ok_all 190 (by decide)) 90 ?_
          refine And.intro (fun cd => ?_) (fun _ => ?_)
          · rw [e3', k1, pk_sub (by omega), nI_toInt (by omega), nI_toInt (by omega)] at cd
            omega
          refine sp_stepsBy sh s la k h6 rfl rfl rfl sa hl (by omega) tb1.1 (fun s' _ h2 l hl => tb1.2.2.1 s' l h2 hl) ?_
          refine sp_key s la rfl rfl (by omega) hl ?_
          refine ⟨8 * s + la, nI_toInt (by omega), (by omega : 8 * s + la < 512), ?_⟩
          refine And.intro (fun cd => ?_) (fun cd => ?_)
          · rw [tb1.2.2.1 s la hs hl] at cd
            have := (eN_inj (obS k) obB).mp cd
            rw [hb] at this
            exact absurd this (n3 k (by omega))
          · exact ih2 (k + 1) _ (by omega) (by omega) (nI_succ k).symm
      refine bm_go (am_ok_all 190 (by decide)) 60 ?_
      refine And.intro (fun cd => ?_) (fun _ => ?_)
      · rw [e3', nI_toInt (by omega), nI_toInt (by omega)] at cd
        omega
      exact lpK _ 0 _ rfl (Nat.zero_le _) rfl
  refine bm_go (am_ok_all 190 (by decide)) 60 ?_
  refine sp_renew 1 (by decide) (by show (I 25 3).toInt ≤ (60 : Int); rw [h3, nI_toInt (by omega)]; omega) ?_
  refine lp R 64 0 0 7 v _ _ _ _ _ hR.symm (by omega) (fun j _ => by rw [Nat.zero_add]) (Nat.zero_le _) (by decide) hv rfl rfl rfl (((frN.refl _ _).u (by decide)).f (by decide)) ?_ (fun j hj => by omega)
  rw [f_ne (by decide)]
  show am_u I 40 1 (I 25 3) 40 1 = _
  rw [u_eq, h3]
theorem sp_tellShortest_2 {T : tT} (sh v : Nat) (h6 : tN T ≤ 6) (h3 : I 25 3 = nI (tN T)) (h4 : I 25 4 = nI (al T)) (tb : tabs T sh I) (hv : Bo (gap T sh) (tN T) (al T) 0 7 = some v) (hlen : (gd (gap T sh) (tN T) (al T) 64 0 7).length = tN T) (h : ∀ I', frN [42, 43] I I' → I' 42 1 = nI (tN T) → (∀ j, j < tN T → I' 43 j = nI (rwF (gd (gap T sh) (tN T) (al T) 64 0 7) j)) → Q none t I' L) : bm_C G l 190 [.ref 25, .ref 42] t I L Q := by
  have p := Nat.two_pow_pos (tN T)
  have p6 := Nat.pow_le_pow_right (n := 2) (by decide) h6
  have a64 : al T < 64 := by unfold al; omega
  generalize hR : gd (gap T sh) (tN T) (al T) 64 0 7 = R at *
  have lp : ∀ (suf : List Nat) (d i s la w : Nat) (y2 y3 y4 : Int32) (d5 : Option Value) (I1 : am_I), suf = gd (gap T sh) (tN T) (al T) d s la → i + suf.length = tN T → (∀ j, j < suf.length → rwF R (i + j) = rwF suf j) → s ≤ al T → la < 8 → Bo (gap T sh) (tN T) (al T) s la = some w → y2 = nI s → y3 = nI la → y4 = nI i → frN [42, 43] I I1 → I1 42 1 = nI (tN T) → (∀ j, j < i → I1 43 j = nI (rwF R j)) → bm_W G l 190 17 [some (.ref 25), some (.ref 42), some (.int y2), some (.int y3), some (.int y4), d5] [] t I1 L Q := by
    intro suf
    induction suf with
    | nil =>
      intro d i s la w y2 y3 y4 d5 I1 hsuf hi hj hs hl hb e2 e3 e4 f1 sz g1
      subst e2 e3 e4
      have hi : i = tN T := by simpa using hi
      subst hi
      refine bm_go (am_ok_all 190 (by decide)) 60 ?_
      refine And.intro (fun _ => h I1 f1 sz g1) (fun cd => ?_)
      rw [f1 25 (by decide), h3] at cd
      omega
    | cons kk suf ih =>
      intro d i s la w y2 y3 y4 d5 I1 hsuf hi hj hs hl hb e2 e3 e4 f1 sz g1
      subst e2 e3 e4
      have hi : i + (suf.length + 1) = tN T := hi
      obtain ⟨sa, d', ed, ec⟩ := gd_cons (g := gap T sh) (n := tN T) (a := al T) (d := d) (s := s) (l := la) (by rw [← hsuf]; exact Nat.succ_ne_zero _)
      rw [ec] at hsuf
      have ek : kk = nxt (gap T sh) (tN T) (al T) s la := by injection hsuf
      have es : suf = gd (gap T sh) (tN T) (al T) d' (s + 2 ^ kk) kk := by rw [ek]; injection hsuf
      obtain ⟨n1, n2, n3⟩ := nxt_spec sa hb
      rw [← ek] at n1 n2 n3
      have c : s.testBit kk = false := by
        cases q : s.testBit kk with
        | false => rfl
        | true =>
          unfold sB at n2
          rw [q] at n2
          cases n2
      have sb := n2
      unfold sB at sb
      rw [if_neg (by rw [c]; decide)] at sb
      obtain ⟨x, z, q1, q2, q3⟩ := oadd_some sb
      obtain ⟨u1, u2⟩ := up_al h6 hs n1 c
      obtain ⟨b1, b2, b3⟩ := bit_up s (by omega) kk (by omega) c
      have eset : nI s ||| (1 : Int32) <<< (nI kk &&& 31) = nI (s + 2 ^ kk) := by rw [k1, n_shl _ (by omega), n_or, b1]
      have tb1 : tabs T sh I1 := by
        unfold tabs at tb ⊢
        rw [f1 27 (by decide), f1 28 (by decide), f1 29 (by decide), f1 30 (by decide)]
        exact tb
      have e3' : I1 25 3 = nI (tN T) := by rw [f1 25 (by decide)]; exact h3
      have obB : ob (Bo (gap T sh) (tN T) (al T) s la) := fun v e => by
        have := Bo_lt (g := gap T sh) (fun s l k v e => gap_lt e) (tN T) (al T) _ s la v rfl e
        omega
      have obS : ∀ k, ob (sB (gap T sh) (tN T) (al T) s la k) := fun k v e => by
        unfold sB at e
        split at e
        · cases e
        · obtain ⟨x, y, e1, e2, rfl⟩ := oadd_some e
          have := gap_lt e1
          have := Bo_lt (g := gap T sh) (fun s l k v e => gap_lt e) (tN T) (al T) _ _ k y rfl e2
          have := Nat.two_pow_pos k
          omega
      have fin : ∀ y5, y5 = nI kk → ∀ (d5 : Option Value), bm_W G l 190 29 [some (.ref 25), some (.ref 42), some (.int (nI s)), some (.int (nI la)), some (.int (nI i)), some (.int y5)] [] t I1 L Q → True := fun _ _ _ _ => trivial
      have last : bm_C G l 234 [.ref 42, .int (nI i), .int (nI kk)] t I1 L (fun v t I' L => bm_W G l 190 17 [some (.ref 25), some (.ref 42), some (.int (nI s ||| (1 : Int32) <<< (nI kk &&& 31))), some (.int (nI kk)), some (.int (nI i + 1)), some (.int (nI kk))] (am_bk v []) t I' L Q) := by
        have ti : (nI i).toInt.toNat = i := by rw [nI_toInt (by omega)]; exact Int.toNat_natCast i
        have szi : (I1 42 1).toInt = (tN T : Int) := by rw [sz]; exact nI_toInt (by omega)
        refine sp_change 2 (by decide) (by show (I1 42 1).toInt ≤ (60 : Int); omega) (fun q0 q1 => ?_) (fun q0 => ?_)
        · refine ih d' (i + 1) (s + 2 ^ kk) kk z _ _ _ _ _ es (by omega) (fun j hj2 => ?_) u1 (by omega) q2 eset rfl (nI_succ i).symm (f1.u (by decide)) ?_ (fun j hj2 => ?_)
          · have := hj (j + 1) (Nat.succ_lt_succ hj2)
            rw [show i + 1 + j = i + (j + 1) by omega]
            exact this
          · exact sz
          · show am_u I1 43 (nI i).toInt.toNat (nI kk) 43 j = _
            rw [ti]
            by_cases q : j = i
            · subst q
              rw [u_eq]
              have := hj 0 (Nat.succ_pos _)
              rw [Nat.add_zero] at this
              rw [this]
              rfl
            · rw [u_nj q]
              exact g1 j (by omega)
        · exfalso
          have q0 : (nI i).toInt < 0 ∨ (I1 42 1).toInt ≤ (nI i).toInt := q0
          rw [szi, nI_toInt (by omega)] at q0
          omega
      have lpK : ∀ d k y5, kk - k = d → k ≤ kk → y5 = nI k → bm_W G l 190 29 [some (.ref 25), some (.ref 42), some (.int (nI s)), some (.int (nI la)), some (.int (nI i)), some (.int y5)] [] t I1 L Q := by
        intro d
        induction d with
        | zero =>
          intro k y5 hd hk e5
          obtain rfl : k = kk := by omega
          subst e5
          refine bm_go (am_ok_all 190 (by decide)) 90 ?_
          refine And.intro (fun _ => last) (fun _ => ?_)
          refine sp_stepsBy sh s la k h6 rfl rfl rfl sa hl n1 tb1.1 (fun s' _ h2 l hl => tb1.2.2.1 s' l h2 hl) ?_
          refine sp_key s la rfl rfl (by omega) hl ?_
          refine ⟨8 * s + la, nI_toInt (by omega), (by omega : 8 * s + la < 512), ?_⟩
          refine And.intro (fun _ => last) (fun cd => ?_)
          rw [tb1.2.2.1 s la hs hl] at cd
          exact absurd ((eN_inj (obS k) obB).mpr (by rw [n2, hb])) cd
        | succ d ih2 =>
          intro k y5 hd hk e5
          subst e5
          refine bm_go (am_ok_all 190 (by decide)) 90 ?_
          refine And.intro (fun cd => ?_) (fun _ => ?_)
          · rw [e3', k1, pk_sub (by omega), nI_toInt (by omega), nI_toInt (by omega)] at cd
            omega
          refine sp_stepsBy sh s la k h6 rfl rfl rfl sa hl (by omega) tb1.1 (fun s' _ h2 l hl => tb1.2.2.1 s' l h2 hl) ?_
          refine sp_key s la rfl rfl (by omega) hl ?_
          refine ⟨8 * s + la, nI_toInt (by omega), (by omega : 8 * s + la < 512), ?_⟩
          refine And.intro (fun cd => ?_) (fun cd => ?_)
          · rw [tb1.2.2.1 s la hs hl] at cd
            have := (eN_inj (obS k) obB).mp cd
            rw [hb] at this
            exact absurd this (n3 k (by omega))
          · exact ih2 (k + 1) _ (by omega) (by omega) (nI_succ k).symm
      refine bm_go (am_ok_all 190 (by decide)) 60 ?_
      refine And.intro (fun cd => ?_) (fun _ => ?_)
      · rw [e3', nI_toInt (by omega), nI_toInt (by omega)] at cd
        omega
      exact lpK _ 0 _ rfl (Nat.zero_le _) rfl
  refine bm_go (am_ok_all 190 (by decide)) 60 ?_
  refine sp_renew 2 (by decide) (by show (I 25 3).toInt ≤ (60 : Int); rw [h3, nI_toInt (by omega)]; omega) ?_
  refine lp R 64 0 0 7 v _ _ _ _ _ hR.symm (by omega) (fun j _ => by rw [Nat.zero_add]) (Nat.zero_le _) (by decide) hv rfl rfl rfl (((frN.refl _ _).u (by decide)).f (by decide)) ?_ (fun j hj => by omega)
  rw [f_ne (by decide)]
  show am_u I 42 1 (I 25 3) 42 1 = _
  rw [u_eq, h3]
theorem sp_tellShortest_3 {T : tT} (sh v : Nat) (h6 : tN T ≤ 6) (h3 : I 25 3 = nI (tN T)) (h4 : I 25 4 = nI (al T)) (tb : tabs T sh I) (hv : Bo (gap T sh) (tN T) (al T) 0 7 = some v) (hlen : (gd (gap T sh) (tN T) (al T) 64 0 7).length = tN T) (h : ∀ I', frN [44, 45] I I' → I' 44 1 = nI (tN T) → (∀ j, j < tN T → I' 45 j = nI (rwF (gd (gap T sh) (tN T) (al T) 64 0 7) j)) → Q none t I' L) : bm_C G l 190 [.ref 25, .ref 44] t I L Q := by
  have p := Nat.two_pow_pos (tN T)
  have p6 := Nat.pow_le_pow_right (n := 2) (by decide) h6
  have a64 : al T < 64 := by unfold al; omega
  generalize hR : gd (gap T sh) (tN T) (al T) 64 0 7 = R at *
  have lp : ∀ (suf : List Nat) (d i s la w : Nat) (y2 y3 y4 : Int32) (d5 : Option Value) (I1 : am_I), suf = gd (gap T sh) (tN T) (al T) d s la → i + suf.length = tN T → (∀ j, j < suf.length → rwF R (i + j) = rwF suf j) → s ≤ al T → la < 8 → Bo (gap T sh) (tN T) (al T) s la = some w → y2 = nI s → y3 = nI la → y4 = nI i → frN [44, 45] I I1 → I1 44 1 = nI (tN T) → (∀ j, j < i → I1 45 j = nI (rwF R j)) → bm_W G l 190 17 [some (.ref 25), some (.ref 44), some (.int y2), some (.int y3), some (.int y4), d5] [] t I1 L Q := by
    intro suf
    induction suf with
    | nil =>
      intro d i s la w y2 y3 y4 d5 I1 hsuf hi hj hs hl hb e2 e3 e4 f1 sz g1
      subst e2 e3 e4
      have hi : i = tN T := by simpa using hi
      subst hi
      refine bm_go (am_ok_all 190 (by decide)) 60 ?_
      refine And.intro (fun _ => h I1 f1 sz g1) (fun cd => ?_)
      rw [f1 25 (by decide), h3] at cd
      omega
    | cons kk suf ih =>
      intro d i s la w y2 y3 y4 d5 I1 hsuf hi hj hs hl hb e2 e3 e4 f1 sz g1
      subst e2 e3 e4
      have hi : i + (suf.length + 1) = tN T := hi
      obtain ⟨sa, d', ed, ec⟩ := gd_cons (g := gap T sh) (n := tN T) (a := al T) (d := d) (s := s) (l := la) (by rw [← hsuf]; exact Nat.succ_ne_zero _)
      rw [ec] at hsuf
      have ek : kk = nxt (gap T sh) (tN T) (al T) s la := by injection hsuf
      have es : suf = gd (gap T sh) (tN T) (al T) d' (s + 2 ^ kk) kk := by rw [ek]; injection hsuf
      obtain ⟨n1, n2, n3⟩ := nxt_spec sa hb
      rw [← ek] at n1 n2 n3
      have c : s.testBit kk = false := by
        cases q : s.testBit kk with
        | false => rfl
        | true =>
          unfold sB at n2
          rw [q] at n2
          cases n2
      have sb := n2
      unfold sB at sb
      rw [if_neg (by rw [c]; decide)] at sb
      obtain ⟨x, z, q1, q2, q3⟩ := oadd_some sb
      obtain ⟨u1, u2⟩ := up_al h6 hs n1 c
      obtain ⟨b1, b2, b3⟩ := bit_up s (by omega) kk (by omega) c
      have eset : nI s ||| (1 : Int32) <<< (nI kk &&& 31) = nI (s + 2 ^ kk) := by rw [k1, n_shl _ (by omega), n_or, b1]
      have tb1 : tabs T sh I1 := by
        unfold tabs at tb ⊢
        rw [f1 27 (by decide), f1 28 (by decide), f1 29 (by decide), f1 30 (by decide)]
        exact tb
      have e3' : I1 25 3 = nI (tN T) := by rw [f1 25 (by decide)]; exact h3
      have obB : ob (Bo (gap T sh) (tN T) (al T) s la) := fun v e => by
        have := Bo_lt (g := gap T sh) (fun s l k v e => gap_lt e) (tN T) (al T) _ s la v rfl e
        omega
      have obS : ∀ k, ob (sB (gap T sh) (tN T) (al T) s la k) := fun k v e => by
        unfold sB at e
        split at e
        · cases e
        · obtain ⟨x, y, e1, e2, rfl⟩ := oadd_some e
          have := gap_lt e1
          have := Bo_lt (g := gap T sh) (fun s l k v e => gap_lt e) (tN T) (al T) _ _ k y rfl e2
          have := Nat.two_pow_pos k
          omega
      have fin : ∀ y5, y5 = nI kk → ∀ (d5 : Option Value), bm_W G l 190 29 [some (.ref 25), some (.ref 44), some (.int (nI s)), some (.int (nI la)), some (.int (nI i)), some (.int y5)] [] t I1 L Q → True := fun _ _ _ _ => trivial
      have last : bm_C G l 234 [.ref 44, .int (nI i), .int (nI kk)] t I1 L (fun v t I' L => bm_W G l 190 17 [some (.ref 25), some (.ref 44), some (.int (nI s ||| (1 : Int32) <<< (nI kk &&& 31))), some (.int (nI kk)), some (.int (nI i + 1)), some (.int (nI kk))] (am_bk v []) t I' L Q) := by
        have ti : (nI i).toInt.toNat = i := by rw [nI_toInt (by omega)]; exact Int.toNat_natCast i
        have szi : (I1 44 1).toInt = (tN T : Int) := by rw [sz]; exact nI_toInt (by omega)
        refine sp_change 3 (by decide) (by show (I1 44 1).toInt ≤ (60 : Int); omega) (fun q0 q1 => ?_) (fun q0 => ?_)
        · refine ih d' (i + 1) (s + 2 ^ kk) kk z _ _ _ _ _ es (by omega) (fun j hj2 => ?_) u1 (by omega) q2 eset rfl (nI_succ i).symm (f1.u (by decide)) ?_ (fun j hj2 => ?_)
          · have := hj (j + 1) (Nat.succ_lt_succ hj2)
            rw [show i + 1 + j = i + (j + 1) by omega]
            exact this
          · exact sz
          · show am_u I1 45 (nI i).toInt.toNat (nI kk) 45 j = _
            rw [ti]
            by_cases q : j = i
            · subst q
              rw [u_eq]
              have := hj 0 (Nat.succ_pos _)
              rw [Nat.add_zero] at this
              rw [this]
              rfl
            · rw [u_nj q]
              exact g1 j (by omega)
        · exfalso
          have q0 : (nI i).toInt < 0 ∨ (I1 44 1).toInt ≤ (nI i).toInt := q0
          rw [szi, nI_toInt (by omega)] at q0
          omega
      have lpK : ∀ d k y5, kk - k = d → k ≤ kk → y5 = nI k → bm_W G l 190 29 [some (.ref 25), some (.ref 44), some (.int (nI s)), some (.int (nI la)), some (.int (nI i)), some (.int y5)] [] t I1 L Q := by
        intro d
        induction d with
        | zero =>
          intro k y5 hd hk e5
          obtain rfl : k = kk := by omega
          subst e5
          refine bm_go (am_ok_all 190 (by decide)) 90 ?_
          refine And.intro (fun _ => last) (fun _ => ?_)
          refine sp_stepsBy sh s la k h6 rfl rfl rfl sa hl n1 tb1.1 (fun s' _ h2 l hl => tb1.2.2.1 s' l h2 hl) ?_
          refine sp_key s la rfl rfl (by omega) hl ?_
          refine ⟨8 * s + la, nI_toInt (by omega), (by omega : 8 * s + la < 512), ?_⟩
          refine And.intro (fun _ => last) (fun cd => ?_)
          rw [tb1.2.2.1 s la hs hl] at cd
          exact absurd ((eN_inj (obS k) obB).mpr (by rw [n2, hb])) cd
        | succ d ih2 =>
          intro k y5 hd hk e5
          subst e5
          refine bm_go (am_ok_all 190 (by decide)) 90 ?_
          refine And.intro (fun cd => ?_) (fun _ => ?_)
          · rw [e3', k1, pk_sub (by omega), nI_toInt (by omega), nI_toInt (by omega)] at cd
            omega
          refine sp_stepsBy sh s la k h6 rfl rfl rfl sa hl (by omega) tb1.1 (fun s' _ h2 l hl => tb1.2.2.1 s' l h2 hl) ?_
          refine sp_key s la rfl rfl (by omega) hl ?_
          refine ⟨8 * s + la, nI_toInt (by omega), (by omega : 8 * s + la < 512), ?_⟩
          refine And.intro (fun cd => ?_) (fun cd => ?_)
          · rw [tb1.2.2.1 s la hs hl] at cd
            have := (eN_inj (obS k) obB).mp cd
            rw [hb] at this
            exact absurd this (n3 k (by omega))
          · exact ih2 (k + 1) _ (by omega) (by omega) (nI_succ k).symm
      refine bm_go (am_ok_all 190 (by decide)) 60 ?_
      refine And.intro (fun cd => ?_) (fun _ => ?_)
      · rw [e3', nI_toInt (by omega), nI_toInt (by omega)] at cd
        omega
      exact lpK _ 0 _ rfl (Nat.zero_le _) rfl
  refine bm_go (am_ok_all 190 (by decide)) 60 ?_
  refine sp_renew 3 (by decide) (by show (I 25 3).toInt ≤ (60 : Int); rw [h3, nI_toInt (by omega)]; omega) ?_
  refine lp R 64 0 0 7 v _ _ _ _ _ hR.symm (by omega) (fun j _ => by rw [Nat.zero_add]) (Nat.zero_le _) (by decide) hv rfl rfl rfl (((frN.refl _ _).u (by decide)).f (by decide)) ?_ (fun j hj => by omega)
  rw [f_ne (by decide)]
  show am_u I 44 1 (I 25 3) 44 1 = _
  rw [u_eq, h3]
theorem sp_tellShortest_4 {T : tT} (sh v : Nat) (h6 : tN T ≤ 6) (h3 : I 25 3 = nI (tN T)) (h4 : I 25 4 = nI (al T)) (tb : tabs T sh I) (hv : Bo (gap T sh) (tN T) (al T) 0 7 = some v) (hlen : (gd (gap T sh) (tN T) (al T) 64 0 7).length = tN T) (h : ∀ I', frN [46, 47] I I' → I' 46 1 = nI (tN T) → (∀ j, j < tN T → I' 47 j = nI (rwF (gd (gap T sh) (tN T) (al T) 64 0 7) j)) → Q none t I' L) : bm_C G l 190 [.ref 25, .ref 46] t I L Q := by
  have p := Nat.two_pow_pos (tN T)
  have p6 := Nat.pow_le_pow_right (n := 2) (by decide) h6
  have a64 : al T < 64 := by unfold al; omega
  generalize hR : gd (gap T sh) (tN T) (al T) 64 0 7 = R at *
  have lp : ∀ (suf : List Nat) (d i s la w : Nat) (y2 y3 y4 : Int32) (d5 : Option Value) (I1 : am_I), suf = gd (gap T sh) (tN T) (al T) d s la → i + suf.length = tN T → (∀ j, j < suf.length → rwF R (i + j) = rwF suf j) → s ≤ al T → la < 8 → Bo (gap T sh) (tN T) (al T) s la = some w → y2 = nI s → y3 = nI la → y4 = nI i → frN [46, 47] I I1 → I1 46 1 = nI (tN T) → (∀ j, j < i → I1 47 j = nI (rwF R j)) → bm_W G l 190 17 [some (.ref 25), some (.ref 46), some (.int y2), some (.int y3), some (.int y4), d5] [] t I1 L Q := by
    intro suf
    induction suf with
    | nil =>
      intro d i s la w y2 y3 y4 d5 I1 hsuf hi hj hs hl hb e2 e3 e4 f1 sz g1
      subst e2 e3 e4
      have hi : i = tN T := by simpa using hi
      subst hi
      refine bm_go (am_ok_all 190 (by decide)) 60 ?_
      refine And.intro (fun _ => h I1 f1 sz g1) (fun cd => ?_)
      rw [f1 25 (by decide), h3] at cd
      omega
    | cons kk suf ih =>
      intro d i s la w y2 y3 y4 d5 I1 hsuf hi hj hs hl hb e2 e3 e4 f1 sz g1
      subst e2 e3 e4
      have hi : i + (suf.length + 1) = tN T := hi
      obtain ⟨sa, d', ed, ec⟩ := gd_cons (g := gap T sh) (n := tN T) (a := al T) (d := d) (s := s) (l := la) (by rw [← hsuf]; exact Nat.succ_ne_zero _)
      rw [ec] at hsuf
      have ek : kk = nxt (gap T sh) (tN T) (al T) s la := by injection hsuf
      have es : suf = gd (gap T sh) (tN T) (al T) d' (s + 2 ^ kk) kk := by rw [ek]; injection hsuf
      obtain ⟨n1, n2, n3⟩ := nxt_spec sa hb
      rw [← ek] at n1 n2 n3
      have c : s.testBit kk = false := by
        cases q : s.testBit kk with
        | false => rfl
        | true =>
          unfold sB at n2
          rw [q] at n2
          cases n2
      have sb := n2
      unfold sB at sb
      rw [if_neg (by rw [c]; decide)] at sb
      obtain ⟨x, z, q1, q2, q3⟩ := oadd_some sb
      obtain ⟨u1, u2⟩ := up_al h6 hs n1 c
      obtain ⟨b1, b2, b3⟩ := bit_up s (by omega) kk (by omega) c
      have eset : nI s ||| (1 : Int32) <<< (nI kk &&& 31) = nI (s + 2 ^ kk) := by rw [k1, n_shl _ (by omega), n_or, b1]
      have tb1 : tabs T sh I1 := by
        unfold tabs at tb ⊢
        rw [f1 27 (by decide), f1 28 (by decide), f1 29 (by decide), f1 30 (by decide)]
        exact tb
      have e3' : I1 25 3 = nI (tN T) := by rw [f1 25 (by decide)]; exact h3
      have obB : ob (Bo (gap T sh) (tN T) (al T) s la) := fun v e => by
        have := Bo_lt (g := gap T sh) (fun s l k v e => gap_lt e) (tN T) (al T) _ s la v rfl e
        omega
      have obS : ∀ k, ob (sB (gap T sh) (tN T) (al T) s la k) := fun k v e => by
        unfold sB at e
        split at e
        · cases e
        · obtain ⟨x, y, e1, e2, rfl⟩ := oadd_some e
          have := gap_lt e1
          have := Bo_lt (g := gap T sh) (fun s l k v e => gap_lt e) (tN T) (al T) _ _ k y rfl e2
          have := Nat.two_pow_pos k
          omega
      have fin : ∀ y5, y5 = nI kk → ∀ (d5 : Option Value), bm_W G l 190 29 [some (.ref 25), some (.ref 46), some (.int (nI s)), some (.int (nI la)), some (.int (nI i)), some (.int y5)] [] t I1 L Q → True := fun _ _ _ _ => trivial
      have last : bm_C G l 234 [.ref 46, .int (nI i), .int (nI kk)] t I1 L (fun v t I' L => bm_W G l 190 17 [some (.ref 25), some (.ref 46), some (.int (nI s ||| (1 : Int32) <<< (nI kk &&& 31))), some (.int (nI kk)), some (.int (nI i + 1)), some (.int (nI kk))] (am_bk v []) t I' L Q) := by
        have ti : (nI i).toInt.toNat = i := by rw [nI_toInt (by omega)]; exact Int.toNat_natCast i
        have szi : (I1 46 1).toInt = (tN T : Int) := by rw [sz]; exact nI_toInt (by omega)
        refine sp_change 4 (by decide) (by show (I1 46 1).toInt ≤ (60 : Int); omega) (fun q0 q1 => ?_) (fun q0 => ?_)
        · refine ih d' (i + 1) (s + 2 ^ kk) kk z _ _ _ _ _ es (by omega) (fun j hj2 => ?_) u1 (by omega) q2 eset rfl (nI_succ i).symm (f1.u (by decide)) ?_ (fun j hj2 => ?_)
          · have := hj (j + 1) (Nat.succ_lt_succ hj2)
            rw [show i + 1 + j = i + (j + 1) by omega]
            exact this
          · exact sz
          · show am_u I1 47 (nI i).toInt.toNat (nI kk) 47 j = _
            rw [ti]
            by_cases q : j = i
            · subst q
              rw [u_eq]
              have := hj 0 (Nat.succ_pos _)
              rw [Nat.add_zero] at this
              rw [this]
              rfl
            · rw [u_nj q]
              exact g1 j (by omega)
        · exfalso
          have q0 : (nI i).toInt < 0 ∨ (I1 46 1).toInt ≤ (nI i).toInt := q0
          rw [szi, nI_toInt (by omega)] at q0
          omega
      have lpK : ∀ d k y5, kk - k = d → k ≤ kk → y5 = nI k → bm_W G l 190 29 [some (.ref 25), some (.ref 46), some (.int (nI s)), some (.int (nI la)), some (.int (nI i)), some (.int y5)] [] t I1 L Q := by
        intro d
        induction d with
        | zero =>
          intro k y5 hd hk e5
          obtain rfl : k = kk := by omega
          subst e5
          refine bm_go (am_ok_all 190 (by decide)) 90 ?_
          refine And.intro (fun _ => last) (fun _ => ?_)
          refine sp_stepsBy sh s la k h6 rfl rfl rfl sa hl n1 tb1.1 (fun s' _ h2 l hl => tb1.2.2.1 s' l h2 hl) ?_
          refine sp_key s la rfl rfl (by omega) hl ?_
          refine ⟨8 * s + la, nI_toInt (by omega), (by omega : 8 * s + la < 512), ?_⟩
          refine And.intro (fun _ => last) (fun cd => ?_)
          rw [tb1.2.2.1 s la hs hl] at cd
          exact absurd ((eN_inj (obS k) obB).mpr (by rw [n2, hb])) cd
        | succ d ih2 =>
          intro k y5 hd hk e5
          subst e5
          refine bm_go (am_ok_all 190 (by decide)) 90 ?_
          refine And.intro (fun cd => ?_) (fun _ => ?_)
          · rw [e3', k1, pk_sub (by omega), nI_toInt (by omega), nI_toInt (by omega)] at cd
            omega
          refine sp_stepsBy sh s la k h6 rfl rfl rfl sa hl (by omega) tb1.1 (fun s' _ h2 l hl => tb1.2.2.1 s' l h2 hl) ?_
          refine sp_key s la rfl rfl (by omega) hl ?_
          refine ⟨8 * s + la, nI_toInt (by omega), (by omega : 8 * s + la < 512), ?_⟩
          refine And.intro (fun cd => ?_) (fun cd => ?_)
          · rw [tb1.2.2.1 s la hs hl] at cd
            have := (eN_inj (obS k) obB).mp cd
            rw [hb] at this
            exact absurd this (n3 k (by omega))
          · exact ih2 (k + 1) _ (by omega) (by omega) (nI_succ k).symm
      refine bm_go (am_ok_all 190 (by decide)) 60 ?_
      refine And.intro (fun cd => ?_) (fun _ => ?_)
      · rw [e3', nI_toInt (by omega), nI_toInt (by omega)] at cd
        omega
      exact lpK _ 0 _ rfl (Nat.zero_le _) rfl
  refine bm_go (am_ok_all 190 (by decide)) 60 ?_
  refine sp_renew 4 (by decide) (by show (I 25 3).toInt ≤ (60 : Int); rw [h3, nI_toInt (by omega)]; omega) ?_
  refine lp R 64 0 0 7 v _ _ _ _ _ hR.symm (by omega) (fun j _ => by rw [Nat.zero_add]) (Nat.zero_le _) (by decide) hv rfl rfl rfl (((frN.refl _ _).u (by decide)).f (by decide)) ?_ (fun j hj => by omega)
  rw [f_ne (by decide)]
  show am_u I 46 1 (I 25 3) 46 1 = _
  rw [u_eq, h3]
theorem sp_tellShortest_5 {T : tT} (sh v : Nat) (h6 : tN T ≤ 6) (h3 : I 25 3 = nI (tN T)) (h4 : I 25 4 = nI (al T)) (tb : tabs T sh I) (hv : Bo (gap T sh) (tN T) (al T) 0 7 = some v) (hlen : (gd (gap T sh) (tN T) (al T) 64 0 7).length = tN T) (h : ∀ I', frN [48, 49] I I' → I' 48 1 = nI (tN T) → (∀ j, j < tN T → I' 49 j = nI (rwF (gd (gap T sh) (tN T) (al T) 64 0 7) j)) → Q none t I' L) : bm_C G l 190 [.ref 25, .ref 48] t I L Q := by
  have p := Nat.two_pow_pos (tN T)
  have p6 := Nat.pow_le_pow_right (n := 2) (by decide) h6
  have a64 : al T < 64 := by unfold al; omega
  generalize hR : gd (gap T sh) (tN T) (al T) 64 0 7 = R at *
  have lp : ∀ (suf : List Nat) (d i s la w : Nat) (y2 y3 y4 : Int32) (d5 : Option Value) (I1 : am_I), suf = gd (gap T sh) (tN T) (al T) d s la → i + suf.length = tN T → (∀ j, j < suf.length → rwF R (i + j) = rwF suf j) → s ≤ al T → la < 8 → Bo (gap T sh) (tN T) (al T) s la = some w → y2 = nI s → y3 = nI la → y4 = nI i → frN [48, 49] I I1 → I1 48 1 = nI (tN T) → (∀ j, j < i → I1 49 j = nI (rwF R j)) → bm_W G l 190 17 [some (.ref 25), some (.ref 48), some (.int y2), some (.int y3), some (.int y4), d5] [] t I1 L Q := by
    intro suf
    induction suf with
    | nil =>
      intro d i s la w y2 y3 y4 d5 I1 hsuf hi hj hs hl hb e2 e3 e4 f1 sz g1
      subst e2 e3 e4
      have hi : i = tN T := by simpa using hi
      subst hi
      refine bm_go (am_ok_all 190 (by decide)) 60 ?_
      refine And.intro (fun _ => h I1 f1 sz g1) (fun cd => ?_)
      rw [f1 25 (by decide), h3] at cd
      omega
    | cons kk suf ih =>
      intro d i s la w y2 y3 y4 d5 I1 hsuf hi hj hs hl hb e2 e3 e4 f1 sz g1
      subst e2 e3 e4
      have hi : i + (suf.length + 1) = tN T := hi
      obtain ⟨sa, d', ed, ec⟩ := gd_cons (g := gap T sh) (n := tN T) (a := al T) (d := d) (s := s) (l := la) (by rw [← hsuf]; exact Nat.succ_ne_zero _)
      rw [ec] at hsuf
      have ek : kk = nxt (gap T sh) (tN T) (al T) s la := by injection hsuf
      have es : suf = gd (gap T sh) (tN T) (al T) d' (s + 2 ^ kk) kk := by rw [ek]; injection hsuf
      obtain ⟨n1, n2, n3⟩ := nxt_spec sa hb
      rw [← ek] at n1 n2 n3
      have c : s.testBit kk = false := by
        cases q : s.testBit kk with
        | false => rfl
        | true =>
          unfold sB at n2
          rw [q] at n2
          cases n2
      have sb := n2
      unfold sB at sb
      rw [if_neg (by rw [c]; decide)] at sb
      obtain ⟨x, z, q1, q2, q3⟩ := oadd_some sb
      obtain ⟨u1, u2⟩ := up_al h6 hs n1 c
      obtain ⟨b1, b2, b3⟩ := bit_up s (by omega) kk (by omega) c
      have eset : nI s ||| (1 : Int32) <<< (nI kk &&& 31) = nI (s + 2 ^ kk) := by rw [k1, n_shl _ (by omega), n_or, b1]
      have tb1 : tabs T sh I1 := by
        unfold tabs at tb ⊢
        rw [f1 27 (by decide), f1 28 (by decide), f1 29 (by decide), f1 30 (by decide)]
        exact tb
      have e3' : I1 25 3 = nI (tN T) := by rw [f1 25 (by decide)]; exact h3
      have obB : ob (Bo (gap T sh) (tN T) (al T) s la) := fun v e => by
        have := Bo_lt (g := gap T sh) (fun s l k v e => gap_lt e) (tN T) (al T) _ s la v rfl e
        omega
      have obS : ∀ k, ob (sB (gap T sh) (tN T) (al T) s la k) := fun k v e => by
        unfold sB at e
        split at e
        · cases e
        · obtain ⟨x, y, e1, e2, rfl⟩ := oadd_some e
          have := gap_lt e1
          have := Bo_lt (g := gap T sh) (fun s l k v e => gap_lt e) (tN T) (al T) _ _ k y rfl e2
          have := Nat.two_pow_pos k
          omega
      have fin : ∀ y5, y5 = nI kk → ∀ (d5 : Option Value), bm_W G l 190 29 [some (.ref 25), some (.ref 48), some (.int (nI s)), some (.int (nI la)), some (.int (nI i)), some (.int y5)] [] t I1 L Q → True := fun _ _ _ _ => trivial
      have last : bm_C G l 234 [.ref 48, .int (nI i), .int (nI kk)] t I1 L (fun v t I' L => bm_W G l 190 17 [some (.ref 25), some (.ref 48), some (.int (nI s ||| (1 : Int32) <<< (nI kk &&& 31))), some (.int (nI kk)), some (.int (nI i + 1)), some (.int (nI kk))] (am_bk v []) t I' L Q) := by
        have ti : (nI i).toInt.toNat = i := by rw [nI_toInt (by omega)]; exact Int.toNat_natCast i
        have szi : (I1 48 1).toInt = (tN T : Int) := by rw [sz]; exact nI_toInt (by omega)
        refine sp_change 5 (by decide) (by show (I1 48 1).toInt ≤ (60 : Int); omega) (fun q0 q1 => ?_) (fun q0 => ?_)
        · refine ih d' (i + 1) (s + 2 ^ kk) kk z _ _ _ _ _ es (by omega) (fun j hj2 => ?_) u1 (by omega) q2 eset rfl (nI_succ i).symm (f1.u (by decide)) ?_ (fun j hj2 => ?_)
          · have := hj (j + 1) (Nat.succ_lt_succ hj2)
            rw [show i + 1 + j = i + (j + 1) by omega]
            exact this
          · exact sz
          · show am_u I1 49 (nI i).toInt.toNat (nI kk) 49 j = _
            rw [ti]
            by_cases q : j = i
            · subst q
              rw [u_eq]
              have := hj 0 (Nat.succ_pos _)
              rw [Nat.add_zero] at this
              rw [this]
              rfl
            · rw [u_nj q]
              exact g1 j (by omega)
        · exfalso
          have q0 : (nI i).toInt < 0 ∨ (I1 48 1).toInt ≤ (nI i).toInt := q0
          rw [szi, nI_toInt (by omega)] at q0
          omega
      have lpK : ∀ d k y5, kk - k = d → k ≤ kk → y5 = nI k → bm_W G l 190 29 [some (.ref 25), some (.ref 48), some (.int (nI s)), some (.int (nI la)), some (.int (nI i)), some (.int y5)] [] t I1 L Q := by
        intro d
        induction d with
        | zero =>
          intro k y5 hd hk e5
          obtain rfl : k = kk := by omega
          subst e5
          refine bm_go (am_ok_all 190 (by decide)) 90 ?_
          refine And.intro (fun _ => last) (fun _ => ?_)
          refine sp_stepsBy sh s la k h6 rfl rfl rfl sa hl n1 tb1.1 (fun s' _ h2 l hl => tb1.2.2.1 s' l h2 hl) ?_
          refine sp_key s la rfl rfl (by omega) hl ?_
          refine ⟨8 * s + la, nI_toInt (by omega), (by omega : 8 * s + la < 512), ?_⟩
          refine And.intro (fun _ => last) (fun cd => ?_)
          rw [tb1.2.2.1 s la hs hl] at cd
          exact absurd ((eN_inj (obS k) obB).mpr (by rw [n2, hb])) cd
        | succ d ih2 =>
          intro k y5 hd hk e5
          subst e5
          refine bm_go (am_ok_all 190 (by decide)) 90 ?_
          refine And.intro (fun cd => ?_) (fun _ => ?_)
          · rw [e3', k1, pk_sub (by omega), nI_toInt (by omega), nI_toInt (by omega)] at cd
            omega
          refine sp_stepsBy sh s la k h6 rfl rfl rfl sa hl (by omega) tb1.1 (fun s' _ h2 l hl => tb1.2.2.1 s' l h2 hl) ?_
          refine sp_key s la rfl rfl (by omega) hl ?_
          refine ⟨8 * s + la, nI_toInt (by omega), (by omega : 8 * s + la < 512), ?_⟩
          refine And.intro (fun cd => ?_) (fun cd => ?_)
          · rw [tb1.2.2.1 s la hs hl] at cd
            have := (eN_inj (obS k) obB).mp cd
            rw [hb] at this
            exact absurd this (n3 k (by omega))
          · exact ih2 (k + 1) _ (by omega) (by omega) (nI_succ k).symm
      refine bm_go (am_ok_all 190 (by decide)) 60 ?_
      refine And.intro (fun cd => ?_) (fun _ => ?_)
      · rw [e3', nI_toInt (by omega), nI_toInt (by omega)] at cd
        omega
      exact lpK _ 0 _ rfl (Nat.zero_le _) rfl
  refine bm_go (am_ok_all 190 (by decide)) 60 ?_
  refine sp_renew 5 (by decide) (by show (I 25 3).toInt ≤ (60 : Int); rw [h3, nI_toInt (by omega)]; omega) ?_
  refine lp R 64 0 0 7 v _ _ _ _ _ hR.symm (by omega) (fun j _ => by rw [Nat.zero_add]) (Nat.zero_le _) (by decide) hv rfl rfl rfl (((frN.refl _ _).u (by decide)).f (by decide)) ?_ (fun j hj => by omega)
  rw [f_ne (by decide)]
  show am_u I 48 1 (I 25 3) 48 1 = _
  rw [u_eq, h3]
end PT

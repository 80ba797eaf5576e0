/-! pair: first, the reference -/
/-- what the reference's loops over rows keep: the table, a row -/
def rowI (T : tT) (sh : Nat) (r : List Nat) (I : am_I) : Prop := I 61 14 = nI (tN T) ∧ tbT T sh I ∧ ∀ i, i < tN T → I 76 i = nI (rwF r i)
section PF
variable {G : am_G} {l : Launch} {t : am_T} {I : am_I} {L : am_J} {Q : bm_P}
/-- the next row, where one stands in all -/
theorem sm_turnsP {T : tT} (sh : Nat) (h6 : tN T ≤ 6) (A : List (List Nat)) (x : List Nat) (B : List (List Nat)) (hP : pQ (al T) 64 0 = A ++ x :: B) (hr : rowI T sh x I) (h0 : B = [] → Q (some (.int 0)) t I L) (h1 : ∀ y B', B = y :: B' → ∀ I', frN [76] I I' → rowI T sh y I' → Q (some (.int 1)) t I' L) : bm_C G l 135 [.ref 61] t I L Q := by
  obtain ⟨e14, tb, rr⟩ := hr
  have at1 := chkT_at (tN T) _ A x B hP (chkT_ok (tN T) (by omega))
  have xm : x ∈ pQ (2 ^ tN T - 1) 64 0 := by
    show x ∈ pQ (al T) 64 0
    rw [hP]
    exact List.mem_append_right _ List.mem_cons_self
  have xl := pQ_len (by omega) xm
  refine sm_turns h6 e14 (rwF x) rr (fun i hi => by have := xl.2 i hi; omega) (fun e => ?_) (fun e I' f' g' => ?_)
  · cases B with
    | nil => exact h0 rfl
    | cons y B' => exact absurd e (at1.2 y B' rfl).1
  · cases B with
    | nil => exact absurd (at1.1 rfl) e
    | cons y B' =>
      refine h1 y B' rfl I' f' ⟨by rw [f' 61 (by decide)]; exact e14, ?_, fun i hi => ?_⟩
      · unfold tbT at tb ⊢
        rw [f' 77 (by decide)]
        exact tb
      · rw [g' i hi, (at1.2 y B' rfl).2 i hi]
theorem sm_stepsP {T : tT} (sh : Nat) (h6 : tN T ≤ 6) {x : List Nat} (hx : x ∈ pQ (al T) 64 0) (hr : rowI T sh x I) (h : Q (some (.int (eM (cst (gap T sh) 0 7 x)))) t I L) : bm_C G l 134 [.ref 61] t I L Q :=
  sm_stepsOf sh h6 hr.1 hr.2.1 x (pQ_len (n := tN T) (by omega) hx).1 (pQ_vr _ _ _ _ hx) hr.2.2 h
theorem cst_ob {T : tT} {sh : Nat} : ∀ (r : List Nat) (s l v : Nat), cst (gap T sh) s l r = some v → v ≤ 25 * r.length
  | [], s, l, v, e => by cases e; exact Nat.zero_le _
  | k :: r, s, l, v, e => by
    obtain ⟨x, y, e1, e2, rfl⟩ := oadd_some (show oadd (gap T sh s l k) (cst (gap T sh) (s + 2 ^ k) k r) = some v from e)
    have := gap_lt e1
    have := cst_ob r _ _ y e2
    show x + y ≤ 25 * (r.length + 1)
    omega
theorem cst_obP {T : tT} {sh : Nat} (h6 : tN T ≤ 6) {x : List Nat} (hx : x ∈ pQ (al T) 64 0) : ob (cst (gap T sh) 0 7 x) := fun v e => by
  have := cst_ob x 0 7 v e
  rw [(pQ_len (n := tN T) (by omega) hx).1] at this
  omega
theorem pair_first (h : Inv t I L) : bm_C G l 28 [.ref 0] t I L (pI G l 139 [.ref 61]) := by
  obtain ⟨T, sh, hc, hm, hs, a1, a2, hL, a4, hK, hS, hO, hG⟩ := h.2.2
  have hT := InvX.ok hG
  have n6 := hT.n6
  have p := Nat.two_pow_pos (tN T)
  have p6 := Nat.pow_le_pow_right (n := 2) (by decide) n6
  have a64 := al_lt hT
  have hG0 := hG
  rcases hG with ⟨hok, hg⟩ | ⟨he, hg⟩
  · have c2 := hok.1.c2
    have c24 := hok.1.c24
    refine bm_go (am_ok_all 28 (by decide)) 60 ?_
    refine And.intro (fun _ => ?_) (fun cd => ?_)
    · refine sp_learn sh hok hc hL hO (fun I1 f1 e1 e3 e4 tb => ?_)
      have g1 := lrn.of f1 e1 e3 e4 tb
      refine sp_lasts sh n6 e3 e4 tb ?_
      refine sp_firsts sh n6 e3 tb ?_
      refine sp_besides ?_
      refine ⟨_, rfl, ?_⟩
      generalize hI0 : am_u I1 36 0 (nI (bO (tN T) (fun k => (Fo (gap T sh) (al T) k).isSome))) = J
      have fJ : frN [36] I1 J := by rw [← hI0]; exact (frN.refl _ _).u (by decide)
      have m1 := g1.hm hm
      have hmJ : mT T J := m1.frN fJ (by decide) (by decide) (by decide) (by decide)
      have a2J : J 61 19 = nI sh := by rw [fJ 61 (by decide)]; exact g1.a2 a2
      refine bm_go (am_ok_all 139 (by decide)) 60 ?_
      refine And.intro (fun _ => ?_) (fun cd => ?_)
      · refine sm_every hT hmJ ?_
        refine sm_goes sh (tD T) 0 (al T) hok hmJ a2J (by omega) hmJ.2.2.2.2.1 rfl rfl hok.2.1 (by omega) (by decide) (fun I4 f4 g4 => ?_)
        rw [gr_gap sh n6] at g4
        have hm4 : mT T I4 := hmJ.frN f4 (by decide) (by decide) (by decide) (by decide)
        have a24 : I4 61 19 = nI sh := by rw [f4 61 (by decide)]; exact a2J
        generalize hE : bO (tN T) (fun k => (Fo (gap T sh) (al T) k).isSome) = E at *
        have El : E < 2 ^ tN T := by rw [← hE]; exact bO_lt _ _
        have fin : ∀ I5 b e4, frN [76, 77] I4 I5 → b = nI (bO (tN T) (fun k => (fby T sh k).isSome)) → bm_W G l 139 95 [some (.ref 61), some (.int b), some (.int (nI E)), some (.int 0), e4] [] (t.1, some 7, some 12) I5 L (fun v' t I L => v' = some (.int (nI (bO (tN T) (fun k => (fby T sh k).isSome)))) ∧ Inv t I L) := by
          intro I5 b e4 f5 hb
          subst hb
          refine bm_go (am_ok_all 139 (by decide)) 60 ?_
          first | refine And.intro (fun cd => absurd cd (by decide)) (fun _ => ?_) | refine And.intro (fun _ => ?_) (fun cd => absurd cd (by decide)) | refine And.intro (fun cd => ?_) (fun cd => ?_)
          refine sm_tells ?_
          refine ⟨rfl, ?_⟩
          refine lrn.told h hc hm hs a1 a2 hL a4 hK hS hG0 g1 ?_ t.1
          rw [hI0]
          exact (f4.mono (by decide)).trans (f5.mono (by decide))
        have lpP : ∀ (m : Nat) (B A : List (List Nat)) (x : List Nat) I5 b e4, B.length = m → pQ (al T) 64 0 = A ++ x :: B → 0 < tN T → frN [76, 77] I4 I5 → rowI T sh x I5 → b = nI (bgn T sh A) → bm_W G l 139 95 [some (.ref 61), some (.int b), some (.int (nI E)), some (.int 1), e4] [] (t.1, some 7, some 12) I5 L (fun v' t I L => v' = some (.int (nI (bO (tN T) (fun k => (fby T sh k).isSome)))) ∧ Inv t I L) := by
          intro m
          induction m using Nat.strongRecOn with
          | ind m ih =>
            intro B A x I5 b e4 hm' hP h0 f5 hr hb
            subst hb
            have xm : x ∈ pQ (al T) 64 0 := by rw [hP]; exact List.mem_append_right _ List.mem_cons_self
            have x0 := (pQ_len (n := tN T) (by omega) xm).2 0 h0
            have r0 := hr.2.2 0 h0
            have bl : bgn T sh A < 2 ^ tN T := bO_lt _ _
            have nb := n_bit (s := bgn T sh A) (j := rwF x 0) (by omega) (by omega)
            rw [← r0] at nb
            have ob := cst_obP (sh := sh) n6 xm
            have hP2 : pQ (al T) 64 0 = (A ++ [x]) ++ B := by rw [hP, List.append_assoc]; rfl
            have any1 : ∀ j, ((A ++ [x]).any (fun r => rwF r 0 == j && (cst (gap T sh) 0 7 r).isSome)) = (A.any (fun r => rwF r 0 == j && (cst (gap T sh) 0 7 r).isSome) || (decide (rwF x 0 = j) && (cst (gap T sh) 0 7 x).isSome)) := fun j => by
              rw [List.any_append]
              simp only [List.any_cons, List.any_nil, Bool.or_false]
              congr 2
            have next0 : ∀ z is, nI (bgn T sh A) ||| z = nI (bgn T sh (A ++ [x])) → B = [] → bm_W G l 139 95 [some (.ref 61), some (.int (nI (bgn T sh A) ||| z)), some (.int (nI E)), some (.int 0), is] [] (t.1, some 7, some 12) I5 L (fun v' t I L => v' = some (.int (nI (bO (tN T) (fun k => (fby T sh k).isSome)))) ∧ Inv t I L) := by
              intro z is ez e
              subst e
              rw [ez]
              refine fin I5 _ is f5 ?_
              rw [← bgn_all sh n6, hP]
            have next1 : ∀ z is, nI (bgn T sh A) ||| z = nI (bgn T sh (A ++ [x])) → ∀ y B', B = y :: B' → ∀ I6, frN [76] I5 I6 → rowI T sh y I6 → bm_W G l 139 95 [some (.ref 61), some (.int (nI (bgn T sh A) ||| z)), some (.int (nI E)), some (.int 1), is] [] (t.1, some 7, some 12) I6 L (fun v' t I L => v' = some (.int (nI (bO (tN T) (fun k => (fby T sh k).isSome)))) ∧ Inv t I L) := by
              intro z is ez y B' e I6 f6 hr6
              subst e
              rw [ez]
              exact ih B'.length (by rw [← hm']; exact Nat.lt_succ_self _) B' (A ++ [x]) y I6 _ is rfl (by rw [hP2]) h0 (f5.trans (f6.mono (by decide))) hr6 rfl
            refine bm_go (am_ok_all 139 (by decide)) 90 ?_
            first | refine And.intro (fun cd => absurd cd (by decide)) (fun _ => ?_) | refine And.intro (fun _ => ?_) (fun cd => absurd cd (by decide)) | refine And.intro (fun cd => ?_) (fun cd => ?_)
            refine ⟨0, rfl, (by omega : 0 < 6), ?_⟩
            have i8 : (1 : Int32) <<< (I5 76 0 &&& 31) = nI (1 <<< rwF x 0) := by rw [r0, k1, n_shl _ (by omega)]
            refine And.intro (fun cd => ?_) (fun cd => ?_)
            · have bt : (bgn T sh A).testBit (rwF x 0) = true := by
                cases e : (bgn T sh A).testBit (rwF x 0) with
                | true => rfl
                | false => rw [nb, e] at cd; exact absurd rfl cd
              first | refine And.intro (fun cd => absurd cd (by decide)) (fun _ => ?_) | refine And.intro (fun _ => ?_) (fun cd => absurd cd (by decide)) | refine And.intro (fun cd => ?_) (fun cd => ?_)
              have ez : nI (bgn T sh A) ||| 0 = nI (bgn T sh (A ++ [x])) := by
                rw [k0, n_or]
                congr 1
                have := or_bO n6 x0 (fun k => A.any (fun r => rwF r 0 == k && (cst (gap T sh) 0 7 r).isSome)) (fun k => (A ++ [x]).any (fun r => rwF r 0 == k && (cst (gap T sh) 0 7 r).isSome)) false (fun j hj => by
                  rw [any1, Bool.and_false, Bool.or_false]
                  by_cases q : rwF x 0 = j
                  · subst q
                    unfold bgn at bt
                    rw [tb_bO, Bool.and_eq_true] at bt
                    rw [bt.2]
                    rfl
                  · simp [q])
                exact this
              exact sm_turnsP sh n6 A x B hP hr (fun e => next0 _ _ ez e) (fun y B' e I6 f6 hr6 => next1 _ _ ez y B' e I6 f6 hr6)
            · have bt : (bgn T sh A).testBit (rwF x 0) = false := by
                cases e : (bgn T sh A).testBit (rwF x 0) with
                | false => rfl
                | true => rw [nb, e] at cd; exact absurd cd (by decide)
              refine sm_stepsP sh n6 xm hr ?_
              refine And.intro (fun c2 => ?_) (fun c2 => ?_)
              · have e := (eM_n ob).mp c2
                first | refine And.intro (fun cd => absurd cd (by decide)) (fun _ => ?_) | refine And.intro (fun _ => ?_) (fun cd => absurd cd (by decide)) | refine And.intro (fun cd => ?_) (fun cd => ?_)
                have ez : nI (bgn T sh A) ||| 0 = nI (bgn T sh (A ++ [x])) := by
                  rw [k0, n_or]
                  congr 1
                  have := or_bO n6 x0 (fun k => A.any (fun r => rwF r 0 == k && (cst (gap T sh) 0 7 r).isSome)) (fun k => (A ++ [x]).any (fun r => rwF r 0 == k && (cst (gap T sh) 0 7 r).isSome)) false (fun j hj => by
                    rw [any1, e]
                    simp)
                  exact this
                exact sm_turnsP sh n6 A x B hP hr (fun e => next0 _ _ ez e) (fun y B' e I6 f6 hr6 => next1 _ _ ez y B' e I6 f6 hr6)
              · have e : (cst (gap T sh) 0 7 x).isSome = true := by
                  cases q : cst (gap T sh) 0 7 x with
                  | none => rw [q] at c2; exact absurd rfl c2
                  | some v => rfl
                first | refine And.intro (fun cd => absurd cd (by decide)) (fun _ => ?_) | refine And.intro (fun _ => ?_) (fun cd => absurd cd (by decide)) | refine And.intro (fun cd => ?_) (fun cd => ?_)
                refine ⟨0, rfl, (by omega : 0 < 6), ?_⟩
                have ez : nI (bgn T sh A) ||| ((1 : Int32) <<< (I5 76 0 &&& 31)) = nI (bgn T sh (A ++ [x])) := by
                  rw [i8, n_or]
                  congr 1
                  have := or_bO n6 x0 (fun k => A.any (fun r => rwF r 0 == k && (cst (gap T sh) 0 7 r).isSome)) (fun k => (A ++ [x]).any (fun r => rwF r 0 == k && (cst (gap T sh) 0 7 r).isSome)) true (fun j hj => by
                    rw [any1, e])
                  exact this
                exact sm_turnsP sh n6 A x B hP hr (fun e => next0 _ _ ez e) (fun y B' e I6 f6 hr6 => next1 _ _ ez y B' e I6 f6 hr6)
        have lpE : ∀ d k y b, tN T - k = d → k ≤ tN T → y = nI k → b = nI (bO k (fun k => (Fo (gap T sh) (al T) k).isSome)) → bm_W G l 139 29 [some (.ref 61), some (.int 0), some (.int b), some (.int y), none] [] (t.1, some 7, some 12) I4 L (fun v' t I L => v' = some (.int (nI (bO (tN T) (fun k => (fby T sh k).isSome)))) ∧ Inv t I L) := by
          intro d
          induction d with
          | zero =>
            intro k y b hd hk hy hb
            obtain rfl : k = tN T := by omega
            rw [hE] at hb
            subst hy hb
            have e14 := hm4.2.2.2.1
            refine bm_go (am_ok_all 139 (by decide)) 60 ?_
            refine And.intro (fun _ => ?_) (fun cd => ?_)
            · refine sm_lays sh hok hm4 a24 (by omega) (fun I5 f5 tb5 => ?_)
              refine sm_firstRow n6 (by rw [f5 61 (by decide)]; exact e14) (fun I6 f6 r6 => ?_)
              have f46 : frN [76, 77] I4 I6 := (f5.mono (by decide)).trans (f6.mono (by decide))
              have zero : (0 < tN T → E = 0) → (0 : Int32) = nI (bO (tN T) (fun k => (fby T sh k).isSome)) := by
                intro w
                by_cases n0 : tN T = 0
                · rw [n0]; rfl
                · have E0 := w (by omega)
                  have fo : ∀ k, k < tN T → Fo (gap T sh) (al T) k = none := by
                    intro k hk
                    have hb := tb_bO (tN T) (fun k => (Fo (gap T sh) (al T) k).isSome) k
                    rw [hE, E0, Nat.zero_testBit, decide_eq_true hk, Bool.true_and] at hb
                    cases q : Fo (gap T sh) (al T) k with
                    | none => rfl
                    | some v => rw [q] at hb; cases hb
                  have a0 : al T ≠ 0 := by
                    have := Nat.pow_le_pow_right (n := 2) (by decide) (show 1 ≤ tN T by omega)
                    unfold al
                    omega
                  have fm : Fm (gap T sh) (al T) = none := by
                    rw [Fm_n n6 (Nat.le_refl _) a0]
                    exact (ominN_none _).mpr fo
                  rw [Fm_rows _ a64] at fm
                  have : bO (tN T) (fun k => (fby T sh k).isSome) = bO (tN T) (fun _ => false) := bO_cong (fun k hk => by
                    cases q : fby T sh k with
                    | none => rfl
                    | some v =>
                      obtain ⟨r, q1, q2, q3⟩ := (fby_rows sh n6 hk).mp (by rw [q]; exact fun w => by cases w)
                      exact absurd ((ominL_none _).mp fm r q1) q3)
                  rw [this]
                  have z : bO (tN T) (fun _ => false) = 0 := tb_ext (bO_lt _ _) (Nat.two_pow_pos _) (fun j hj => by rw [tb_bO]; simp)
                  rw [z]
                  rfl
              refine And.intro (fun cd => ?_) (fun cd => ?_)
              · rw [f46 61 (by decide), e14, nI_toInt (by omega)] at cd
                have cd : (tN T : Int) ≤ 0 := cd
                exact fin I6 _ _ f46 (zero (fun w => by omega))
              · rw [f46 61 (by decide), e14, nI_toInt (by omega)] at cd
                have cd : 0 < (tN T : Int) := cd
                refine And.intro (fun c3 => ?_) (fun c3 => ?_)
                · rw [nI_toInt (by omega)] at c3
                  have c3 : (E : Int) ≤ 0 := c3
                  exact fin I6 _ _ f46 (zero (fun w => by omega))
                · obtain ⟨B, hB⟩ := P_cons (n := tN T) (by omega)
                  refine lpP B.length B [] (List.range (tN T)) I6 _ _ rfl hB (by omega) f46 ⟨by rw [f46 61 (by decide)]; exact e14, ?_, r6⟩ ?_
                  · unfold tbT at tb5 ⊢
                    rw [f6 77 (by decide)]
                    exact tb5
                  · unfold bgn
                    have z : bO (tN T) (fun k => ([] : List (List Nat)).any (fun r => rwF r 0 == k && (cst (gap T sh) 0 7 r).isSome)) = 0 := tb_ext (bO_lt _ _) (Nat.two_pow_pos _) (fun j hj => by rw [tb_bO]; simp)
                    rw [z]
                    rfl
            · rw [e14] at cd
              omega
          | succ d ih =>
            intro k y b hd hk hy hb
            subst hy hb
            have gg := (g4 (al T) k (Nat.le_refl _) (by omega)).2
            have wl := Wo_lt (gap T sh) aw (s := al T) k a64
            have ix : ((6 : Int32) * nI (al T) + nI k).toInt = ((6 * al T + k : Nat) : Int) := by rw [k6, pk_mul, nI_add]; exact nI_toInt (by omega)
            have i8 : (1 : Int32) <<< (nI k &&& 31) = nI (1 <<< k) := by rw [k1, n_shl _ (by omega)]
            refine bm_go (am_ok_all 139 (by decide)) 60 ?_
            refine And.intro (fun cd => ?_) (fun _ => ?_)
            · rw [hm4.2.2.2.1, nI_toInt (by omega), nI_toInt (by omega)] at cd
              omega
            refine sm_every hT hm4 ?_
            refine ⟨6 * al T + k, ix, (by omega : 6 * al T + k < 384), ?_⟩
            refine And.intro (fun cd => ?_) (fun cd => ?_)
            · rw [gg, nI_toInt (by omega)] at cd
              have e : Fo (gap T sh) (al T) k = none := (Wo_Fo _ _ _).mp (by omega)
              refine ih (k + 1) _ _ (by omega) (by omega) (nI_succ k).symm ?_
              rw [bO_s, k0, n_or, e]
              rfl
            · rw [gg, nI_toInt (by omega)] at cd
              refine ih (k + 1) _ _ (by omega) (by omega) (nI_succ k).symm ?_
              rw [bO_s, i8, n_or]
              cases e : Fo (gap T sh) (al T) k with
              | none =>
                have := (Wo_Fo _ _ _).mpr e
                omega
              | some v => rfl
        exact lpE _ 0 _ _ rfl (Nat.zero_le _) rfl rfl
      · rw [hmJ.2.2.1, nI_toInt (by omega)] at cd
        exact absurd cd (by show ¬ ((tC T : Int) = 0); omega)
    · rw [hc.2.1, nI_toInt (by omega)] at cd
      exact absurd cd (by show ¬ ((tC T : Int) = 0); omega)
  · refine bm_go (am_ok_all 28 (by decide)) 60 ?_
    refine And.intro (fun cd => ?_) (fun _ => ?_)
    · rw [hc.2.1, he.c0] at cd
      exact absurd rfl cd
    · refine ⟨_, rfl, ?_⟩
      refine bm_go (am_ok_all 139 (by decide)) 60 ?_
      refine And.intro (fun cd => ?_) (fun _ => ⟨rfl, h⟩)
      rw [hm.2.2.1, he.c0] at cd
      exact absurd rfl cd
end PF

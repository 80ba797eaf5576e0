/-! pair: shortest, the reference -/
theorem eM_eq {a : Option Nat} (h : ob a) {v : Nat} (hv : v < 500000) : (eM a).toInt = (nI v).toInt ↔ a = some v := by
  rw [nI_toInt (by omega), eM_i h]
  cases a with
  | none =>
    constructor
    · intro e
      have e : (-9 : Int) = (v : Int) := e
      omega
    · intro e; cases e
  | some w =>
    constructor
    · intro e
      have e : (w : Int) = (v : Int) := e
      rw [show w = v by omega]
    · intro e
      show (w : Int) = (v : Int)
      rw [Option.some.inj e]
theorem bm_C.mono {G : am_G} {l : Launch} {m : Nat} {As : List Value} {t : am_T} {I : am_I} {L : am_J} {Q Q' : bm_P} (h : bm_C G l m As t I L Q) (hq : ∀ v t I L, Q v t I L → Q' v t I L) : bm_C G l m As t I L Q' :=
  am_WP.mono h (fun v s ⟨t, I, L, e, q⟩ => ⟨t, I, L, e, hq v t I L q⟩)
section PS
variable {G : am_G} {l : Launch} {t : am_T} {I : am_I} {L : am_J} {Q : bm_P}
theorem sm_shortest {T : tT} {x : Int32} (sh k : Nat) (hk : k < 6) (hx : x = nI k) (hok : tOk T) (hm : mT T I) (a2 : I 61 19 = nI sh) (hsh : sh < 2 ^ 31) (h0 : Fm (gap T sh) (al T) = none → ∀ I', frN [74, 75] I I' → Q (some (.int (-9))) t I' L) (h1 : ∀ v, Fm (gap T sh) (al T) = some v → ∀ I', frN [63, 64, 74, 75, 76, 77] I I' → I' 63 k = nI (tN T) → (∀ j, j ≠ k → I' 63 j = I 63 j) → (∀ j, j < tN T → I' 64 (rb k + j) = nI (rwF (gd (gap T sh) (tN T) (al T) 64 0 7) j)) → (∀ p, (p < rb k ∨ rb k + tN T ≤ p) → I' 64 p = I 64 p) → Q (some (.int (nI v))) t I' L) : bm_C G l 137 [.ref 61, .int x] t I L Q := by
  subst hx
  have hT : tOK T := Or.inl hok
  have n6 := hT.n6
  have p := Nat.two_pow_pos (tN T)
  have p6 := Nat.pow_le_pow_right (n := 2) (by decide) n6
  have a64 := al_lt hT
  have c2 := hok.1.c2
  have c24 := hok.1.c24
  have tk : (nI k).toInt = (k : Int) := nI_toInt (by omega)
  have obF := Fm_ob (g := gap T sh) (fun _ _ _ _ e => gap_lt e) a64
  refine bm_go (am_ok_all 137 (by decide)) 60 ?_
  refine sm_isRow (fun q1 q2 => ?_) (fun q => ?_)
  rotate_left
  · exfalso
    rw [tk] at q
    omega
  first | refine And.intro (fun cd => absurd cd (by decide)) (fun _ => ?_) | refine And.intro (fun _ => ?_) (fun cd => absurd cd (by decide)) | refine And.intro (fun cd => ?_) (fun cd => ?_)
  refine And.intro (fun _ => ?_) (fun cd => ?_)
  rotate_left
  · rw [hm.2.2.1, nI_toInt (by omega)] at cd
    exact absurd cd (by show ¬ ((tC T : Int) = 0); omega)
  refine sm_every hT hm ?_
  refine sm_goes sh (tD T) 0 (al T) hok hm a2 hsh hm.2.2.2.2.1 rfl rfl hok.2.1 (by omega) (by decide) (fun I4 f4 g4 => ?_)
  rw [gr_gap sh n6] at g4
  have hm4 : mT T I4 := hm.frN f4 (by decide) (by decide) (by decide) (by decide)
  have a24 : I4 61 19 = nI sh := by rw [f4 61 (by decide)]; exact a2
  refine sm_every hT hm4 ?_
  refine sm_fewestOf (al T) (gap T sh) (fun _ _ _ _ e => gap_lt e) n6 hm4.2.2.2.1 rfl (Nat.le_refl _) (fun l hl => (g4 (al T) l (Nat.le_refl _) hl).1) ?_
  cases eF : Fm (gap T sh) (al T) with
  | none =>
    refine And.intro (fun cd => absurd rfl cd) (fun _ => ?_)
    exact h0 eF I4 f4
  | some v =>
    have vb := obF v eF
    refine And.intro (fun _ => ?_) (fun cd => ?_)
    rotate_left
    · have cd : (nI v).toInt = -9 := cd
      rw [nI_toInt (by omega)] at cd
      omega
    have hBo : Bo (gap T sh) (tN T) (al T) 0 7 = some v := by rw [Fm_Bo _ n6]; exact eF
    have hfind := gd_find (g := gap T sh) (n := tN T) (a := al T) n6 rfl 64 0 7 v (by omega) (Nat.zero_le _) hBo
    generalize hR : gd (gap T sh) (tN T) (al T) 64 0 7 = R at *
    have Rm := List.mem_of_find?_eq_some hfind
    have Rv : cst (gap T sh) 0 7 R = some v := of_decide_eq_true (List.find?_some (p := fun r => decide (cst (gap T sh) 0 7 r = some v)) hfind)
    have lpC : ∀ d i y I5, tN T - i = d → i ≤ tN T → y = nI i → frN [63, 64, 74, 75, 76, 77] I I5 → (∀ i, i < tN T → I5 76 i = nI (rwF R i)) → I5 63 k = nI (tN T) → (∀ j, j ≠ k → I5 63 j = I 63 j) → (∀ j, j < i → I5 64 (rb k + j) = nI (rwF R j)) → (∀ p, (p < rb k ∨ rb k + i ≤ p) → I5 64 p = I 64 p) → bm_W G l 137 86 [some (.ref 61), some (.int (nI k)), some (.int (nI v)), some (.int y)] [] t I5 L Q := by
      intro d
      induction d with
      | zero =>
        intro i y I5 hd hi hy f5 r5 z1 z2 z3 z4
        obtain rfl : i = tN T := by omega
        subst hy
        refine bm_go (am_ok_all 137 (by decide)) 60 ?_
        refine And.intro (fun _ => h1 v eF I5 f5 z1 z2 z3 z4) (fun cd => ?_)
        rw [f5 61 (by decide), hm.2.2.2.1] at cd
        omega
      | succ d ih =>
        intro i y I5 hd hi hy f5 r5 z1 z2 z3 z4
        subst hy
        have rbl : rb k + i < 680 := by unfold rb; rw [if_pos hk]; omega
        have ix : (nI (rb k) + nI i).toInt = ((rb k + i : Nat) : Int) := by rw [nI_add]; exact nI_toInt (by omega)
        refine bm_go (am_ok_all 137 (by decide)) 60 ?_
        refine And.intro (fun cd => ?_) (fun _ => ?_)
        · rw [f5 61 (by decide), hm.2.2.2.1, nI_toInt (by omega), nI_toInt (by omega)] at cd
          omega
        refine sm_base k rfl (by omega) ?_
        refine ⟨i, nI_toInt (by omega), (by omega : i < 6), ?_⟩
        refine ⟨rb k + i, ix, rbl, ?_⟩
        refine ih (i + 1) _ _ (by omega) (by omega) (nI_succ i).symm (f5.u (by decide)) (fun j hj => by rw [u_ne (by decide)]; exact r5 j hj) (by rw [u_ne (by decide)]; exact z1) (fun j hj => by rw [u_ne (by decide)]; exact z2 j hj) (fun j hj => ?_) (fun q hq => ?_)
        · by_cases w : j = i
          · subst w
            rw [u_eq]
            exact r5 j (by omega)
          · rw [u_nj (by omega)]
            exact z3 j (by omega)
        · rw [u_nj (by omega)]
          exact z4 q (by omega)
    have lpP : ∀ (m : Nat) (B A : List (List Nat)) (x : List Nat) I5, B.length = m → pQ (al T) 64 0 = A ++ x :: B → frN [74, 75, 76, 77] I I5 → rowI T sh x I5 → (∀ r, r ∈ A → cst (gap T sh) 0 7 r ≠ some v) → bm_W G l 137 58 [some (.ref 61), some (.int (nI k)), some (.int (nI v)), none] [] t I5 L Q := by
      intro m
      induction m using Nat.strongRecOn with
      | ind m ih =>
        intro B A x I5 hm' hP f5 hr hA
        have xm : x ∈ pQ (al T) 64 0 := by rw [hP]; exact List.mem_append_right _ List.mem_cons_self
        have ob := cst_obP (sh := sh) n6 xm
        have tv : (nI v).toInt = (v : Int) := nI_toInt (by omega)
        refine bm_go (am_ok_all 137 (by decide)) 60 ?_
        refine sm_stepsP sh n6 xm hr ?_
        refine And.intro (fun cd => ?_) (fun cd => ?_)
        · have ex : cst (gap T sh) 0 7 x = some v := (eM_eq ob vb).mp cd
          have fx := find_split (p := fun r => decide (cst (gap T sh) 0 7 r = some v)) A x B (fun r hr => decide_eq_false (hA r hr)) (decide_eq_true ex)
          rw [← hP, hfind] at fx
          have xR : R = x := Option.some.inj fx
          refine ⟨k, tk, (by omega : k < 10), ?_⟩
          have e14 : I5 61 14 = nI (tN T) := hr.1
          refine lpC _ 0 _ _ rfl (Nat.zero_le _) rfl ((f5.mono (by decide)).u (by decide)) (fun i hi => by rw [u_ne (by decide), xR]; exact hr.2.2 i hi) (by rw [u_eq]; exact e14) (fun j hj => by rw [u_nj hj, f5 63 (by decide)]) (fun j hj => by omega) (fun q _ => by rw [u_ne (by decide), f5 64 (by decide)])
        · have ex : cst (gap T sh) 0 7 x ≠ some v := fun e => cd ((eM_eq ob vb).mpr e)
          have hA2 : ∀ r, r ∈ A ++ [x] → cst (gap T sh) 0 7 r ≠ some v := fun r hr => by
            rcases List.mem_append.mp hr with q | q
            · exact hA r q
            · rw [List.mem_singleton] at q
              subst q
              exact ex
          have hP2 : pQ (al T) 64 0 = (A ++ [x]) ++ B := by rw [hP, List.append_assoc]; rfl
          refine sm_turnsP sh n6 A x B hP hr (fun e => ?_) (fun y B' e I6 f6 hr6 => ?_)
          · exfalso
            subst e
            rw [List.append_nil] at hP2
            rw [hP2] at Rm
            exact hA2 R Rm Rv
          · subst e
            exact ih B'.length (by rw [← hm']; exact Nat.lt_succ_self _) B' (A ++ [x]) y I6 rfl (by rw [hP2]) (f5.trans (f6.mono (by decide))) hr6 hA2
    refine sm_lays sh hok hm4 a24 hsh (fun I5 f5 tb5 => ?_)
    refine sm_firstRow n6 (by rw [f5 61 (by decide)]; exact hm4.2.2.2.1) (fun I6 f6 r6 => ?_)
    obtain ⟨B, hB⟩ := P_cons (n := tN T) (by omega)
    refine lpP B.length B [] (List.range (tN T)) I6 rfl hB (((f4.mono (by decide)).trans (f5.mono (by decide))).trans (f6.mono (by decide))) ⟨by rw [f6 61 (by decide), f5 61 (by decide)]; exact hm4.2.2.2.1, ?_, r6⟩ (fun r hr => absurd hr List.not_mem_nil)
    unfold tbT at tb5 ⊢
    rw [f6 77 (by decide)]
    exact tb5
theorem pair_shortest_0 {x : Int32} (h : Inv t I L) (hx : x = nI 0) : bm_C G l 26 [.ref 0, .int x] t I L (pI G l 137 [.ref 61, .int x]) := by
  obtain ⟨T, sh, hc, hm, hs, a1, a2, hL, a4, hK, hS, hO, hG⟩ := h.2.2
  have hT := InvX.ok hG
  have n6 := hT.n6
  have p6 := Nat.pow_le_pow_right (n := 2) (by decide) n6
  have hG0 := hG
  rcases hG with ⟨hok, hg⟩ | ⟨he, hg⟩
  · have hlen : ∀ v, Bo (gap T sh) (tN T) (al T) 0 7 = some v → (gd (gap T sh) (tN T) (al T) 64 0 7).length = tN T := fun v hv => by
      have hfind := gd_find (g := gap T sh) (n := tN T) (a := al T) n6 rfl 64 0 7 v (by have := al_lt hT; omega) (Nat.zero_le _) hv
      exact (pQ_len (n := tN T) (by omega) (List.mem_of_find?_eq_some hfind)).1
    refine sp_shortest_0 sh hok hc hL hO (fun I1 f1 e1 e3 e4 tb hb => ?_) (fun v I1 f1 e1 e3 e4 tb hb z1 z2 => ?_) hlen hx
    · refine ⟨_, rfl, ?_⟩
      rw [Fm_Bo _ n6] at hb
      have g1 := lrn.of f1 e1 e3 e4 tb
      refine sm_shortest sh 0 (by decide) hx hok (g1.hm hm) (g1.a2 a2) (by omega) (fun _ I2 f2 => ?_) (fun v e => by rw [hb] at e; cases e)
      exact ⟨rfl, Inv.lrnT h hc hm hs a1 a2 hL a4 hK hS hG0 (g1.go (f2.mono (by decide))) t.1⟩
    · refine ⟨_, rfl, ?_⟩
      rw [Fm_Bo _ n6] at hb
      have hm1 : mT T I1 := hm.frN f1 (by decide) (by decide) (by decide) (by decide)
      refine sm_shortest sh 0 (by decide) hx hok hm1 (by rw [f1 61 (by decide)]; exact a2) (by omega) (fun e => by rw [hb] at e; cases e) (fun w hw I2 f2 y1 y2 y3 y4 => ?_)
      rw [hb] at hw
      cases hw
      refine ⟨rfl, ?_⟩
      have f : frN (38 :: 39 :: exL ++ [63, 64, 74, 75, 76, 77]) I I2 := (f1.mono (by decide)).trans (f2.mono (by decide))
      refine Inv.ord ?_ (h.2.1.frN f (by decide) (by decide) (by decide) (by decide)) hc hm hs a1 a2 hL a4 hK hS hG0 (f.ago (by decide) (by decide) (by decide)) (Or.inr ⟨by rw [f2 25 (by decide)]; exact e1, rfl, by rw [f2 25 (by decide)]; exact e3, by rw [f2 25 (by decide)]; exact e4, ?_⟩)
      · refine h.1.rowset (k := 0) (n := tN T) (by decide) (by omega) ?_ (fun j hj => ?_) y1 (fun j hj => by rw [y2 j hj, f1 63 (by decide)]) y3 (fun q hq => by rw [y4 q hq, f1 64 (by decide)]) (fun x x1 x2 x3 x4 => ?_)
        · show I2 38 1 = _
          rw [f2 38 (by decide)]
          exact z1
        · show I2 39 j = _
          rw [f2 39 (by decide)]
          exact z2 j hj
        · refine f x (fun q => ?_)
          have x3 : x ≠ 38 := x3
          have x4 : x ≠ 39 := x4
          simp [exL] at q
          omega
      · unfold tabs at tb ⊢
        rw [f2 27 (by decide), f2 28 (by decide), f2 29 (by decide), f2 30 (by decide)]
        exact tb
  · refine bm_go (am_ok_all 26 (by decide)) 60 ?_
    refine sp_picked_r x (fun cd => ?_) (fun k hk hx2 => ?_)
    · exfalso
      rw [hx] at cd
      rcases cd with cd | cd <;> exact absurd cd (by decide)
    · have : k = 0 := (n_eq32 (by decide) (by omega) (hx.symm.trans hx2)).symm
      subst this
      refine And.intro (fun cd => ?_) (fun _ => ?_)
      · rw [hc.2.1, he.c0] at cd
        exact absurd rfl cd
      · refine ⟨_, rfl, ?_⟩
        refine bm_go (am_ok_all 137 (by decide)) 60 ?_
        refine sm_isRow (fun q1 q2 => ?_) (fun q => ?_)
        · first | refine And.intro (fun cd => absurd cd (by decide)) (fun _ => ?_) | refine And.intro (fun _ => ?_) (fun cd => absurd cd (by decide)) | refine And.intro (fun cd => ?_) (fun cd => ?_)
          refine And.intro (fun cd => ?_) (fun _ => ⟨rfl, h⟩)
          rw [hm.2.2.1, he.c0] at cd
          exact absurd rfl cd
        · exfalso
          rw [hx] at q
          rcases q with q | q <;> exact absurd q (by decide)
theorem pair_shortest_1 {x : Int32} (h : Inv t I L) (hx : x = nI 1) : bm_C G l 26 [.ref 0, .int x] t I L (pI G l 137 [.ref 61, .int x]) := by
  obtain ⟨T, sh, hc, hm, hs, a1, a2, hL, a4, hK, hS, hO, hG⟩ := h.2.2
  have hT := InvX.ok hG
  have n6 := hT.n6
  have p6 := Nat.pow_le_pow_right (n := 2) (by decide) n6
  have hG0 := hG
  rcases hG with ⟨hok, hg⟩ | ⟨he, hg⟩
  · have hlen : ∀ v, Bo (gap T sh) (tN T) (al T) 0 7 = some v → (gd (gap T sh) (tN T) (al T) 64 0 7).length = tN T := fun v hv => by
      have hfind := gd_find (g := gap T sh) (n := tN T) (a := al T) n6 rfl 64 0 7 v (by have := al_lt hT; omega) (Nat.zero_le _) hv
      exact (pQ_len (n := tN T) (by omega) (List.mem_of_find?_eq_some hfind)).1
    refine sp_shortest_1 sh hok hc hL hO (fun I1 f1 e1 e3 e4 tb hb => ?_) (fun v I1 f1 e1 e3 e4 tb hb z1 z2 => ?_) hlen hx
    · refine ⟨_, rfl, ?_⟩
      rw [Fm_Bo _ n6] at hb
      have g1 := lrn.of f1 e1 e3 e4 tb
      refine sm_shortest sh 1 (by decide) hx hok (g1.hm hm) (g1.a2 a2) (by omega) (fun _ I2 f2 => ?_) (fun v e => by rw [hb] at e; cases e)
      exact ⟨rfl, Inv.lrnT h hc hm hs a1 a2 hL a4 hK hS hG0 (g1.go (f2.mono (by decide))) t.1⟩
    · refine ⟨_, rfl, ?_⟩
      rw [Fm_Bo _ n6] at hb
      have hm1 : mT T I1 := hm.frN f1 (by decide) (by decide) (by decide) (by decide)
      refine sm_shortest sh 1 (by decide) hx hok hm1 (by rw [f1 61 (by decide)]; exact a2) (by omega) (fun e => by rw [hb] at e; cases e) (fun w hw I2 f2 y1 y2 y3 y4 => ?_)
      rw [hb] at hw
      cases hw
      refine ⟨rfl, ?_⟩
      have f : frN (40 :: 41 :: exL ++ [63, 64, 74, 75, 76, 77]) I I2 := (f1.mono (by decide)).trans (f2.mono (by decide))
      refine Inv.ord ?_ (h.2.1.frN f (by decide) (by decide) (by decide) (by decide)) hc hm hs a1 a2 hL a4 hK hS hG0 (f.ago (by decide) (by decide) (by decide)) (Or.inr ⟨by rw [f2 25 (by decide)]; exact e1, rfl, by rw [f2 25 (by decide)]; exact e3, by rw [f2 25 (by decide)]; exact e4, ?_⟩)
      · refine h.1.rowset (k := 1) (n := tN T) (by decide) (by omega) ?_ (fun j hj => ?_) y1 (fun j hj => by rw [y2 j hj, f1 63 (by decide)]) y3 (fun q hq => by rw [y4 q hq, f1 64 (by decide)]) (fun x x1 x2 x3 x4 => ?_)
        · show I2 40 1 = _
          rw [f2 40 (by decide)]
          exact z1
        · show I2 41 j = _
          rw [f2 41 (by decide)]
          exact z2 j hj
        · refine f x (fun q => ?_)
          have x3 : x ≠ 40 := x3
          have x4 : x ≠ 41 := x4
          simp [exL] at q
          omega
      · unfold tabs at tb ⊢
        rw [f2 27 (by decide), f2 28 (by decide), f2 29 (by decide), f2 30 (by decide)]
        exact tb
  · refine bm_go (am_ok_all 26 (by decide)) 60 ?_
    refine sp_picked_r x (fun cd => ?_) (fun k hk hx2 => ?_)
    · exfalso
      rw [hx] at cd
      rcases cd with cd | cd <;> exact absurd cd (by decide)
    · have : k = 1 := (n_eq32 (by decide) (by omega) (hx.symm.trans hx2)).symm
      subst this
      refine And.intro (fun cd => ?_) (fun _ => ?_)
      · rw [hc.2.1, he.c0] at cd
        exact absurd rfl cd
      · refine ⟨_, rfl, ?_⟩
        refine bm_go (am_ok_all 137 (by decide)) 60 ?_
        refine sm_isRow (fun q1 q2 => ?_) (fun q => ?_)
        · first | refine And.intro (fun cd => absurd cd (by decide)) (fun _ => ?_) | refine And.intro (fun _ => ?_) (fun cd => absurd cd (by decide)) | refine And.intro (fun cd => ?_) (fun cd => ?_)
          refine And.intro (fun cd => ?_) (fun _ => ⟨rfl, h⟩)
          rw [hm.2.2.1, he.c0] at cd
          exact absurd rfl cd
        · exfalso
          rw [hx] at q
          rcases q with q | q <;> exact absurd q (by decide)
theorem pair_shortest_2 {x : Int32} (h : Inv t I L) (hx : x = nI 2) : bm_C G l 26 [.ref 0, .int x] t I L (pI G l 137 [.ref 61, .int x]) := by
  obtain ⟨T, sh, hc, hm, hs, a1, a2, hL, a4, hK, hS, hO, hG⟩ := h.2.2
  have hT := InvX.ok hG
  have n6 := hT.n6
  have p6 := Nat.pow_le_pow_right (n := 2) (by decide) n6
  have hG0 := hG
  rcases hG with ⟨hok, hg⟩ | ⟨he, hg⟩
  · have hlen : ∀ v, Bo (gap T sh) (tN T) (al T) 0 7 = some v → (gd (gap T sh) (tN T) (al T) 64 0 7).length = tN T := fun v hv => by
      have hfind := gd_find (g := gap T sh) (n := tN T) (a := al T) n6 rfl 64 0 7 v (by have := al_lt hT; omega) (Nat.zero_le _) hv
      exact (pQ_len (n := tN T) (by omega) (List.mem_of_find?_eq_some hfind)).1
    refine sp_shortest_2 sh hok hc hL hO (fun I1 f1 e1 e3 e4 tb hb => ?_) (fun v I1 f1 e1 e3 e4 tb hb z1 z2 => ?_) hlen hx
    · refine ⟨_, rfl, ?_⟩
      rw [Fm_Bo _ n6] at hb
      have g1 := lrn.of f1 e1 e3 e4 tb
      refine sm_shortest sh 2 (by decide) hx hok (g1.hm hm) (g1.a2 a2) (by omega) (fun _ I2 f2 => ?_) (fun v e => by rw [hb] at e; cases e)
      exact ⟨rfl, Inv.lrnT h hc hm hs a1 a2 hL a4 hK hS hG0 (g1.go (f2.mono (by decide))) t.1⟩
    · refine ⟨_, rfl, ?_⟩
      rw [Fm_Bo _ n6] at hb
      have hm1 : mT T I1 := hm.frN f1 (by decide) (by decide) (by decide) (by decide)
      refine sm_shortest sh 2 (by decide) hx hok hm1 (by rw [f1 61 (by decide)]; exact a2) (by omega) (fun e => by rw [hb] at e; cases e) (fun w hw I2 f2 y1 y2 y3 y4 => ?_)
      rw [hb] at hw
      cases hw
      refine ⟨rfl, ?_⟩
      have f : frN (42 :: 43 :: exL ++ [63, 64, 74, 75, 76, 77]) I I2 := (f1.mono (by decide)).trans (f2.mono (by decide))
      refine Inv.ord ?_ (h.2.1.frN f (by decide) (by decide) (by decide) (by decide)) hc hm hs a1 a2 hL a4 hK hS hG0 (f.ago (by decide) (by decide) (by decide)) (Or.inr ⟨by rw [f2 25 (by decide)]; exact e1, rfl, by rw [f2 25 (by decide)]; exact e3, by rw [f2 25 (by decide)]; exact e4, ?_⟩)
      · refine h.1.rowset (k := 2) (n := tN T) (by decide) (by omega) ?_ (fun j hj => ?_) y1 (fun j hj => by rw [y2 j hj, f1 63 (by decide)]) y3 (fun q hq => by rw [y4 q hq, f1 64 (by decide)]) (fun x x1 x2 x3 x4 => ?_)
        · show I2 42 1 = _
          rw [f2 42 (by decide)]
          exact z1
        · show I2 43 j = _
          rw [f2 43 (by decide)]
          exact z2 j hj
        · refine f x (fun q => ?_)
          have x3 : x ≠ 42 := x3
          have x4 : x ≠ 43 := x4
          simp [exL] at q
          omega
      · unfold tabs at tb ⊢
        rw [f2 27 (by decide), f2 28 (by decide), f2 29 (by decide), f2 30 (by decide)]
        exact tb
  · refine bm_go (am_ok_all 26 (by decide)) 60 ?_
    refine sp_picked_r x (fun cd => ?_) (fun k hk hx2 => ?_)
    · exfalso
      rw [hx] at cd
      rcases cd with cd | cd <;> exact absurd cd (by decide)
    · have : k = 2 := (n_eq32 (by decide) (by omega) (hx.symm.trans hx2)).symm
      subst this
      refine And.intro (fun cd => ?_) (fun _ => ?_)
      · rw [hc.2.1, he.c0] at cd
        exact absurd rfl cd
      · refine ⟨_, rfl, ?_⟩
        refine bm_go (am_ok_all 137 (by decide)) 60 ?_
        refine sm_isRow (fun q1 q2 => ?_) (fun q => ?_)
        · first | refine And.intro (fun cd => absurd cd (by decide)) (fun _ => ?_) | refine And.intro (fun _ => ?_) (fun cd => absurd cd (by decide)) | refine And.intro (fun cd => ?_) (fun cd => ?_)
          refine And.intro (fun cd => ?_) (fun _ => ⟨rfl, h⟩)
          rw [hm.2.2.1, he.c0] at cd
          exact absurd rfl cd
        · exfalso
          rw [hx] at q
          rcases q with q | q <;> exact absurd q (by decide)
theorem pair_shortest_3 {x : Int32} (h : Inv t I L) (hx : x = nI 3) : bm_C G l 26 [.ref 0, .int x] t I L (pI G l 137 [.ref 61, .int x]) := by
  obtain ⟨T, sh, hc, hm, hs, a1, a2, hL, a4, hK, hS, hO, hG⟩ := h.2.2
  have hT := InvX.ok hG
  have n6 := hT.n6
  have p6 := Nat.pow_le_pow_right (n := 2) (by decide) n6
  have hG0 := hG
  rcases hG with ⟨hok, hg⟩ | ⟨he, hg⟩
  · have hlen : ∀ v, Bo (gap T sh) (tN T) (al T) 0 7 = some v → (gd (gap T sh) (tN T) (al T) 64 0 7).length = tN T := fun v hv => by
      have hfind := gd_find (g := gap T sh) (n := tN T) (a := al T) n6 rfl 64 0 7 v (by have := al_lt hT; omega) (Nat.zero_le _) hv
      exact (pQ_len (n := tN T) (by omega) (List.mem_of_find?_eq_some hfind)).1
    refine sp_shortest_3 sh hok hc hL hO (fun I1 f1 e1 e3 e4 tb hb => ?_) (fun v I1 f1 e1 e3 e4 tb hb z1 z2 => ?_) hlen hx
    · refine ⟨_, rfl, ?_⟩
      rw [Fm_Bo _ n6] at hb
      have g1 := lrn.of f1 e1 e3 e4 tb
      refine sm_shortest sh 3 (by decide) hx hok (g1.hm hm) (g1.a2 a2) (by omega) (fun _ I2 f2 => ?_) (fun v e => by rw [hb] at e; cases e)
      exact ⟨rfl, Inv.lrnT h hc hm hs a1 a2 hL a4 hK hS hG0 (g1.go (f2.mono (by decide))) t.1⟩
    · refine ⟨_, rfl, ?_⟩
      rw [Fm_Bo _ n6] at hb
      have hm1 : mT T I1 := hm.frN f1 (by decide) (by decide) (by decide) (by decide)
      refine sm_shortest sh 3 (by decide) hx hok hm1 (by rw [f1 61 (by decide)]; exact a2) (by omega) (fun e => by rw [hb] at e; cases e) (fun w hw I2 f2 y1 y2 y3 y4 => ?_)
      rw [hb] at hw
      cases hw
      refine ⟨rfl, ?_⟩
      have f : frN (44 :: 45 :: exL ++ [63, 64, 74, 75, 76, 77]) I I2 := (f1.mono (by decide)).trans (f2.mono (by decide))
      refine Inv.ord ?_ (h.2.1.frN f (by decide) (by decide) (by decide) (by decide)) hc hm hs a1 a2 hL a4 hK hS hG0 (f.ago (by decide) (by decide) (by decide)) (Or.inr ⟨by rw [f2 25 (by decide)]; exact e1, rfl, by rw [f2 25 (by decide)]; exact e3, by rw [f2 25 (by decide)]; exact e4, ?_⟩)
      · refine h.1.rowset (k := 3) (n := tN T) (by decide) (by omega) ?_ (fun j hj => ?_) y1 (fun j hj => by rw [y2 j hj, f1 63 (by decide)]) y3 (fun q hq => by rw [y4 q hq, f1 64 (by decide)]) (fun x x1 x2 x3 x4 => ?_)
        · show I2 44 1 = _
          rw [f2 44 (by decide)]
          exact z1
        · show I2 45 j = _
          rw [f2 45 (by decide)]
          exact z2 j hj
        · refine f x (fun q => ?_)
          have x3 : x ≠ 44 := x3
          have x4 : x ≠ 45 := x4
          simp [exL] at q
          omega
      · unfold tabs at tb ⊢
        rw [f2 27 (by decide), f2 28 (by decide), f2 29 (by decide), f2 30 (by decide)]
        exact tb
  · refine bm_go (am_ok_all 26 (by decide)) 60 ?_
    refine sp_picked_r x (fun cd => ?_) (fun k hk hx2 => ?_)
    · exfalso
      rw [hx] at cd
      rcases cd with cd | cd <;> exact absurd cd (by decide)
    · have : k = 3 := (n_eq32 (by decide) (by omega) (hx.symm.trans hx2)).symm
      subst this
      refine And.intro (fun cd => ?_) (fun _ => ?_)
      · rw [hc.2.1, he.c0] at cd
        exact absurd rfl cd
      · refine ⟨_, rfl, ?_⟩
        refine bm_go (am_ok_all 137 (by decide)) 60 ?_
        refine sm_isRow (fun q1 q2 => ?_) (fun q => ?_)
        · first | refine And.intro (fun cd => absurd cd (by decide)) (fun _ => ?_) | refine And.intro (fun _ => ?_) (fun cd => absurd cd (by decide)) | refine And.intro (fun cd => ?_) (fun cd => ?_)
          refine And.intro (fun cd => ?_) (fun _ => ⟨rfl, h⟩)
          rw [hm.2.2.1, he.c0] at cd
          exact absurd rfl cd
        · exfalso
          rw [hx] at q
          rcases q with q | q <;> exact absurd q (by decide)
theorem pair_shortest_4 {x : Int32} (h : Inv t I L) (hx : x = nI 4) : bm_C G l 26 [.ref 0, .int x] t I L (pI G l 137 [.ref 61, .int x]) := by
  obtain ⟨T, sh, hc, hm, hs, a1, a2, hL, a4, hK, hS, hO, hG⟩ := h.2.2
  have hT := InvX.ok hG
  have n6 := hT.n6
  have p6 := Nat.pow_le_pow_right (n := 2) (by decide) n6
  have hG0 := hG
  rcases hG with ⟨hok, hg⟩ | ⟨he, hg⟩
  · have hlen : ∀ v, Bo (gap T sh) (tN T) (al T) 0 7 = some v → (gd (gap T sh) (tN T) (al T) 64 0 7).length = tN T := fun v hv => by
      have hfind := gd_find (g := gap T sh) (n := tN T) (a := al T) n6 rfl 64 0 7 v (by have := al_lt hT; omega) (Nat.zero_le _) hv
      exact (pQ_len (n := tN T) (by omega) (List.mem_of_find?_eq_some hfind)).1
    refine sp_shortest_4 sh hok hc hL hO (fun I1 f1 e1 e3 e4 tb hb => ?_) (fun v I1 f1 e1 e3 e4 tb hb z1 z2 => ?_) hlen hx
    · refine ⟨_, rfl, ?_⟩
      rw [Fm_Bo _ n6] at hb
      have g1 := lrn.of f1 e1 e3 e4 tb
      refine sm_shortest sh 4 (by decide) hx hok (g1.hm hm) (g1.a2 a2) (by omega) (fun _ I2 f2 => ?_) (fun v e => by rw [hb] at e; cases e)
      exact ⟨rfl, Inv.lrnT h hc hm hs a1 a2 hL a4 hK hS hG0 (g1.go (f2.mono (by decide))) t.1⟩
    · refine ⟨_, rfl, ?_⟩
      rw [Fm_Bo _ n6] at hb
      have hm1 : mT T I1 := hm.frN f1 (by decide) (by decide) (by decide) (by decide)
      refine sm_shortest sh 4 (by decide) hx hok hm1 (by rw [f1 61 (by decide)]; exact a2) (by omega) (fun e => by rw [hb] at e; cases e) (fun w hw I2 f2 y1 y2 y3 y4 => ?_)
      rw [hb] at hw
      cases hw
      refine ⟨rfl, ?_⟩
      have f : frN (46 :: 47 :: exL ++ [63, 64, 74, 75, 76, 77]) I I2 := (f1.mono (by decide)).trans (f2.mono (by decide))
      refine Inv.ord ?_ (h.2.1.frN f (by decide) (by decide) (by decide) (by decide)) hc hm hs a1 a2 hL a4 hK hS hG0 (f.ago (by decide) (by decide) (by decide)) (Or.inr ⟨by rw [f2 25 (by decide)]; exact e1, rfl, by rw [f2 25 (by decide)]; exact e3, by rw [f2 25 (by decide)]; exact e4, ?_⟩)
      · refine h.1.rowset (k := 4) (n := tN T) (by decide) (by omega) ?_ (fun j hj => ?_) y1 (fun j hj => by rw [y2 j hj, f1 63 (by decide)]) y3 (fun q hq => by rw [y4 q hq, f1 64 (by decide)]) (fun x x1 x2 x3 x4 => ?_)
        · show I2 46 1 = _
          rw [f2 46 (by decide)]
          exact z1
        · show I2 47 j = _
          rw [f2 47 (by decide)]
          exact z2 j hj
        · refine f x (fun q => ?_)
          have x3 : x ≠ 46 := x3
          have x4 : x ≠ 47 := x4
          simp [exL] at q
          omega
      · unfold tabs at tb ⊢
        rw [f2 27 (by decide), f2 28 (by decide), f2 29 (by decide), f2 30 (by decide)]
        exact tb
  · refine bm_go (am_ok_all 26 (by decide)) 60 ?_
    refine sp_picked_r x (fun cd => ?_) (fun k hk hx2 => ?_)
    · exfalso
      rw [hx] at cd
      rcases cd with cd | cd <;> exact absurd cd (by decide)
    · have : k = 4 := (n_eq32 (by decide) (by omega) (hx.symm.trans hx2)).symm
      subst this
      refine And.intro (fun cd => ?_) (fun _ => ?_)
      · rw [hc.2.1, he.c0] at cd
        exact absurd rfl cd
      · refine ⟨_, rfl, ?_⟩
        refine bm_go (am_ok_all 137 (by decide)) 60 ?_
        refine sm_isRow (fun q1 q2 => ?_) (fun q => ?_)
        · first | refine And.intro (fun cd => absurd cd (by decide)) (fun _ => ?_) | refine And.intro (fun _ => ?_) (fun cd => absurd cd (by decide)) | refine And.intro (fun cd => ?_) (fun cd => ?_)
          refine And.intro (fun cd => ?_) (fun _ => ⟨rfl, h⟩)
          rw [hm.2.2.1, he.c0] at cd
          exact absurd rfl cd
        · exfalso
          rw [hx] at q
          rcases q with q | q <;> exact absurd q (by decide)
theorem pair_shortest_5 {x : Int32} (h : Inv t I L) (hx : x = nI 5) : bm_C G l 26 [.ref 0, .int x] t I L (pI G l 137 [.ref 61, .int x]) := by
  obtain ⟨T, sh, hc, hm, hs, a1, a2, hL, a4, hK, hS, hO, hG⟩ := h.2.2
  have hT := InvX.ok hG
  have n6 := hT.n6
  have p6 := Nat.pow_le_pow_right (n := 2) (by decide) n6
  have hG0 := hG
  rcases hG with ⟨hok, hg⟩ | ⟨he, hg⟩
  · have hlen : ∀ v, Bo (gap T sh) (tN T) (al T) 0 7 = some v → (gd (gap T sh) (tN T) (al T) 64 0 7).length = tN T := fun v hv => by
      have hfind := gd_find (g := gap T sh) (n := tN T) (a := al T) n6 rfl 64 0 7 v (by have := al_lt hT; omega) (Nat.zero_le _) hv
      exact (pQ_len (n := tN T) (by omega) (List.mem_of_find?_eq_some hfind)).1
    refine sp_shortest_5 sh hok hc hL hO (fun I1 f1 e1 e3 e4 tb hb => ?_) (fun v I1 f1 e1 e3 e4 tb hb z1 z2 => ?_) hlen hx
    · refine ⟨_, rfl, ?_⟩
      rw [Fm_Bo _ n6] at hb
      have g1 := lrn.of f1 e1 e3 e4 tb
      refine sm_shortest sh 5 (by decide) hx hok (g1.hm hm) (g1.a2 a2) (by omega) (fun _ I2 f2 => ?_) (fun v e => by rw [hb] at e; cases e)
      exact ⟨rfl, Inv.lrnT h hc hm hs a1 a2 hL a4 hK hS hG0 (g1.go (f2.mono (by decide))) t.1⟩
    · refine ⟨_, rfl, ?_⟩
      rw [Fm_Bo _ n6] at hb
      have hm1 : mT T I1 := hm.frN f1 (by decide) (by decide) (by decide) (by decide)
      refine sm_shortest sh 5 (by decide) hx hok hm1 (by rw [f1 61 (by decide)]; exact a2) (by omega) (fun e => by rw [hb] at e; cases e) (fun w hw I2 f2 y1 y2 y3 y4 => ?_)
      rw [hb] at hw
      cases hw
      refine ⟨rfl, ?_⟩
      have f : frN (48 :: 49 :: exL ++ [63, 64, 74, 75, 76, 77]) I I2 := (f1.mono (by decide)).trans (f2.mono (by decide))
      refine Inv.ord ?_ (h.2.1.frN f (by decide) (by decide) (by decide) (by decide)) hc hm hs a1 a2 hL a4 hK hS hG0 (f.ago (by decide) (by decide) (by decide)) (Or.inr ⟨by rw [f2 25 (by decide)]; exact e1, rfl, by rw [f2 25 (by decide)]; exact e3, by rw [f2 25 (by decide)]; exact e4, ?_⟩)
      · refine h.1.rowset (k := 5) (n := tN T) (by decide) (by omega) ?_ (fun j hj => ?_) y1 (fun j hj => by rw [y2 j hj, f1 63 (by decide)]) y3 (fun q hq => by rw [y4 q hq, f1 64 (by decide)]) (fun x x1 x2 x3 x4 => ?_)
        · show I2 48 1 = _
          rw [f2 48 (by decide)]
          exact z1
        · show I2 49 j = _
          rw [f2 49 (by decide)]
          exact z2 j hj
        · refine f x (fun q => ?_)
          have x3 : x ≠ 48 := x3
          have x4 : x ≠ 49 := x4
          simp [exL] at q
          omega
      · unfold tabs at tb ⊢
        rw [f2 27 (by decide), f2 28 (by decide), f2 29 (by decide), f2 30 (by decide)]
        exact tb
  · refine bm_go (am_ok_all 26 (by decide)) 60 ?_
    refine sp_picked_r x (fun cd => ?_) (fun k hk hx2 => ?_)
    · exfalso
      rw [hx] at cd
      rcases cd with cd | cd <;> exact absurd cd (by decide)
    · have : k = 5 := (n_eq32 (by decide) (by omega) (hx.symm.trans hx2)).symm
      subst this
      refine And.intro (fun cd => ?_) (fun _ => ?_)
      · rw [hc.2.1, he.c0] at cd
        exact absurd rfl cd
      · refine ⟨_, rfl, ?_⟩
        refine bm_go (am_ok_all 137 (by decide)) 60 ?_
        refine sm_isRow (fun q1 q2 => ?_) (fun q => ?_)
        · first | refine And.intro (fun cd => absurd cd (by decide)) (fun _ => ?_) | refine And.intro (fun _ => ?_) (fun cd => absurd cd (by decide)) | refine And.intro (fun cd => ?_) (fun cd => ?_)
          refine And.intro (fun cd => ?_) (fun _ => ⟨rfl, h⟩)
          rw [hm.2.2.1, he.c0] at cd
          exact absurd rfl cd
        · exfalso
          rw [hx] at q
          rcases q with q | q <;> exact absurd q (by decide)
theorem pair_shortest {x : Int32} (h : Inv t I L) : bm_C G l 26 [.ref 0, .int x] t I L (pI G l 137 [.ref 61, .int x]) := by
  by_cases bad : x.toInt < 0 ∨ 6 ≤ x.toInt
  · refine bm_go (am_ok_all 26 (by decide)) 60 ?_
    refine sp_picked_r x (fun cd => ?_) (fun k hk hx => ?_)
    · refine ⟨_, rfl, ?_⟩
      refine bm_go (am_ok_all 137 (by decide)) 60 ?_
      refine sm_isRow (fun q1 q2 => by omega) (fun q => ?_)
      first | refine And.intro (fun cd => absurd cd (by decide)) (fun _ => ?_) | refine And.intro (fun _ => ?_) (fun cd => absurd cd (by decide)) | refine And.intro (fun cd => ?_) (fun cd => ?_)
      exact ⟨rfl, h⟩
    · exfalso
      have := xn hx hk (by decide)
      omega
  · have hxk : ∃ k, k < 6 ∧ x = nI k := ⟨x.toInt.toNat, by omega, of_nn (by omega)⟩
    obtain ⟨k, hk, hx⟩ := hxk
    match k, hk, hx with
    | 0, _, hx => exact pair_shortest_0 h hx
    | 1, _, hx => exact pair_shortest_1 h hx
    | 2, _, hx => exact pair_shortest_2 h hx
    | 3, _, hx => exact pair_shortest_3 h hx
    | 4, _, hx => exact pair_shortest_4 h hx
    | 5, _, hx => exact pair_shortest_5 h hx
end PS

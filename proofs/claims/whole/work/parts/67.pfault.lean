/-! pair: fault -/
def frQ (I I' : am_I) : Prop := (∀ x, x ≠ 61 → x ≠ 65 → I' x = I x) ∧ ∀ j, j < 7 ∨ 10 ≤ j → I' 61 j = I 61 j
theorem frR.q {I I' I'' : am_I} (h : frQ I I') (g : frR I' I'') : frQ I I'' := ⟨fun x a b => (g.1 x a b).trans (h.1 x a b), fun j a => (g.2 j (by omega) (by omega)).trans (h.2 j a)⟩
theorem frQ.u {I I' : am_I} (h : frQ I I') {a j : Nat} {v : Int32} (ha : a = 65 ∨ (a = 61 ∧ 7 ≤ j ∧ j < 10)) : frQ I (am_u I' a j v) := by
  refine ⟨fun x h1 h2 => ?_, fun i h1 => ?_⟩
  · rw [u_ne (by omega)]; exact h.1 x h1 h2
  · rw [show am_u I' a j v 61 i = I' 61 i from if_neg (fun q => by omega)]; exact h.2 i h1
theorem frQ.refl (I : am_I) : frQ I I := ⟨fun _ _ _ => rfl, fun _ _ => rfl⟩
/-- what the reference has read -/
def rdT (T : tT) (I : am_I) : Prop := I 65 0 = nI (tW T) ∧ I 65 1 = nI (tH T) ∧ I 65 2 = nI (tN T) ∧ (∀ i, i < tC T → I 65 (3 + i) = nI (clK (tS T) (some (tD T)) i)) ∧ ∀ j, j < tN T → I 65 (28 + 3 * j) = nI (tK T j) ∧ I 65 (29 + 3 * j) = nI (tP T j) ∧ I 65 (30 + 3 * j) = nI (tR T j)
section PM
variable {G : am_G} {l : Launch} {t : am_T} {I : am_I} {L : am_J} {Q : bm_P}
theorem sm_faultOf {x : Int32} (k n : Nat) (c : Nat → Int) (hk : k < 4) (hx : x = nI k) (hn : n ≤ 80) (h63 : I 63 (6 + k) = nI n) (h64 : ∀ p, p < n → (I 64 (rb (6 + k) + p)).toInt = c p ∧ -128 ≤ c p ∧ c p ≤ 127)
    (h1 : ∀ q T I', pP n c = (q, some T) → frQ I I' → rdT T I' → Q (some (.int (-9))) t I' L)
    (h0 : ∀ q I', pP n c = (q, none) → q ≤ n → frQ I I' → Q (some (.int (nI q))) t I' L) : bm_C G l 89 [.ref 61, .int x] t I L Q := by
  subst hx
  have tx : ∀ {I1 : am_I}, frQ I I1 → I1 61 7 = nI (6 + k) → txM k n c I1 := by
    intro I1 f e
    refine ⟨e, ?_, ?_⟩
    · rw [f.1 63 (by decide) (by decide)]; exact h63
    · rw [f.1 64 (by decide) (by decide)]; exact h64
  have f0 : frQ I (am_u (am_u (am_u I 61 7 (6 + nI k)) 61 8 0) 65 2 0) := (((frQ.refl I).u (by decide)).u (by decide)).u (by decide)
  have e70 : am_u (am_u (am_u I 61 7 (6 + nI k)) 61 8 0) 65 2 0 61 7 = nI (6 + k) := by
    show (6 : Int32) + nI k = _
    rw [show (6 : Int32) = nI 6 from rfl, nI_add]
  have ex : ∀ q (I1 : am_I), pP n c = (q, none) → q ≤ n → frQ I I1 → I1 61 8 = nI q → I1 61 9 = 1 → bm_W G l 89 24 [some (.ref 61), some (.int (nI k))] [] t I1 L Q := by
    intro q I1 hp hq f1 e8 e9
    have w9 : (I1 61 9).toInt = 1 := by rw [e9]; rfl
    refine bm_go (am_ok_all 89 (by decide)) 60 ?_
    refine And.intro (fun _ => ?_) (fun cd => by omega)
    refine And.intro (fun _ => ?_) (fun cd => by omega)
    refine And.intro (fun cd => by omega) (fun _ => ?_)
    show Q (some (.int (I1 61 8))) t I1 L
    rw [e8]
    exact h0 q I1 hp hq f1
  refine bm_go (am_ok_all 89 (by decide)) 60 ?_
  refine ⟨2, rfl, (by omega : 2 < 52), ?_⟩
  refine sm_readCells k n c hk hn (tx f0 e70) rfl (fun p q w h S D I1 es ec hq f1 e8 e9 e0 e1 e2 el => ?_) (fun q I1 eo hq f1 e8 e9 => ?_)
  · obtain ⟨g1, g2, g3, g4⟩ := pS_ok es
    obtain ⟨c1, c2⟩ := cP_ok _ _ _ _ _ _ _ _ (by decide) (fun j ej => by cases ej) ec
    rw [Nat.zero_add] at c1 c2
    obtain ⟨c2, c3⟩ := c2 D rfl
    have wh : w * h ≤ 24 := Nat.mul_le_mul g2 g4
    have fa := frR.q f0 f1
    generalize hres : lP n c w h S 7 0 q (fun _ => 0) (fun _ => 0) (fun _ => 0) = res
    have pe1 : ∀ r m K P R, (r, some (m, K, P, R)) = res → pP n c = (r, some ((w, h, S, D, m), K, P, R)) := by
      intro r m K P R e
      have e := hres.trans e.symm
      unfold pP
      simp only [es, ec, e]
    have pe0 : ∀ r, (r, none) = res → pP n c = (r, none) := by
      intro r e
      have e := hres.trans e.symm
      unfold pP
      simp only [es, ec, e]
    have lp : ∀ d m q K P R (I2 : am_I), 7 - m = d → m ≤ 6 → q ≤ n → frR I1 I2 → I2 61 8 = nI q → I2 61 9 = 0 → I2 65 2 = nI m → (∀ j, j < 28 → j ≠ 2 → I2 65 j = I1 65 j) → (∀ j, j < m → I2 65 (28 + 3 * j) = nI (K j) ∧ I2 65 (29 + 3 * j) = nI (P j) ∧ I2 65 (30 + 3 * j) = nI (R j)) → lOk w h S m K P R → lP n c w h S d m q K P R = res → bm_W G l 89 24 [some (.ref 61), some (.int (nI k))] [] t I2 L Q := by
      intro d
      induction d with
      | zero => intro m q K P R I2 hd hm; omega
      | succ d ih =>
        intro m q K P R I2 hd hm hq f2 e8 e9 e2' eo ea ho er
        have w9 : (I2 61 9).toInt = 0 := by rw [e9]; rfl
        have fb := frR.q fa f2
        have e7 : I2 61 7 = nI (6 + k) := by rw [f2.2 7 (by decide) (by decide), f1.2 7 (by decide) (by decide)]; exact e70
        have ht2 := tx fb e7
        have sl := (sk_le n c q).2 hq
        have er : (if n ≤ sk n c q then (sk n c q, some (m, K, P, R)) else if 6 ≤ m then (sk n c q, none) else match l1 n c w h S (orN m (fun j => 1 <<< P j)) (sk n c q) with
        | (q, none) => (q, none)
        | (q, some (kd, cl, r)) => lP n c w h S d (m + 1) q (up K m kd) (up P m cl) (up R m r)) = res := er
        have fs : frR I1 (am_u I2 61 8 (nI (sk n c q))) := f2.u (by decide)
        have i7 : (am_u I2 61 8 (nI (sk n c q)) 61 7).toInt = ((6 + k : Nat) : Int) := by
          show (I2 61 7).toInt = _
          rw [e7, nI_toInt (by omega)]
        have sz : (am_u I2 61 8 (nI (sk n c q)) 63 (6 + k)).toInt = (n : Int) := by
          show (I2 63 (6 + k)).toInt = _
          rw [ht2.2.1, nI_toInt (by omega)]
        have s8 : (am_u I2 61 8 (nI (sk n c q)) 61 8).toInt = (sk n c q : Int) := by
          rw [u_eq, nI_toInt (by omega)]
        have go : sk n c q < n → ∀ Q' : bm_P, (∀ I3, bm_W G l 89 24 [some (.ref 61), some (.int (nI k))] [] t I3 L Q → Q' none t I3 L) → bm_C G l 88 [.ref 61] t (am_u I2 61 8 (nI (sk n c q))) L Q' := by
          intro hlt Q' kont
          rw [if_neg (by omega)] at er
          refine sm_readLamp k n c (sk n c q) w h S D m K P R hk hn hlt (ht2.f ((frR.refl I2).u (by decide))) u_eq (by exact e9) ?_ ?_ (by exact e2') ?_ c3 (fun j hj => ⟨(ea j hj).2.1, by have := (ho.1 j hj).2.1; omega⟩) hm (by omega) g2 g3 g4 (fun p' kd cl r I3 m6 e3 hp' f3 e8' e9' e2'' ek ep er' eo' => ?_) (fun p' I3 e3 hp' f3 e8' e9' => ?_)
          · show I2 65 0 = _
            rw [eo 0 (by decide) (by decide)]; exact e0
          · show I2 65 1 = _
            rw [eo 1 (by decide) (by decide)]; exact e1
          · intro i hi
            show I2 65 (3 + i) = _
            rw [eo (3 + i) (by omega) (by omega)]; exact el i hi
          · rw [if_neg (by omega), e3] at er
            have er : lP n c w h S d (m + 1) p' (up K m kd) (up P m cl) (up R m r) = res := er
            obtain ⟨o1, o2, o3, o4, o5, o6⟩ := l1_ok (by omega) g3 g2 g4 e3
            refine kont I3 (ih (m + 1) p' _ _ _ I3 (by omega) (by omega) hp' (fs.trans f3) e8' e9' e2'' (fun j j1 j2 => ?_) (fun j hj => ?_) (lOk_up ho o1 o2 o3 o4 o5 o6) er)
            · rw [eo' j j2 (by omega)]
              exact eo j j1 j2
            · show I3 65 (28 + 3 * j) = nI (if j = m then kd else K j) ∧ I3 65 (29 + 3 * j) = nI (if j = m then cl else P j) ∧ I3 65 (30 + 3 * j) = nI (if j = m then r else R j)
              by_cases q2 : j = m
              · subst q2
                rw [if_pos rfl, if_pos rfl, if_pos rfl]
                exact ⟨ek, ep, er'⟩
              · rw [if_neg q2, if_neg q2, if_neg q2, eo' _ (by omega) (by omega), eo' _ (by omega) (by omega), eo' _ (by omega) (by omega)]
                exact ea j (by omega)
          · refine kont I3 (ex p' I3 ?_ hp' (frR.q fb (((frR.refl I2).u (by decide)).trans f3)) e8' e9')
            rcases e3 with ⟨m6, rfl⟩ | ⟨m6, e3⟩
            · rw [if_pos (by omega)] at er
              exact pe0 _ er
            · rw [if_neg (by omega), e3] at er
              have er : (p', none) = res := er
              exact pe0 _ er
        refine bm_go (am_ok_all 89 (by decide)) 42 ?_
        refine And.intro (fun cd => absurd w9 cd) (fun _ => ?_)
        refine sm_here k n c q hk hn hq ht2 e8 (fun z hz => ?_)
        by_cases hlt : sk n c q < n
        · refine And.intro (fun cd => ?_) (fun cd => ?_)
          · exact go hlt _ (fun I3 hI => hI)
          · refine And.intro (fun cd => absurd w9 cd) (fun _ => ?_)
            refine ⟨6 + k, i7, (by omega : 6 + k < 10), ?_⟩
            refine And.intro (fun cd => ?_) (fun _ => ?_)
            · rw [sz, s8] at cd
              omega
            · exact go hlt _ (fun I3 hI => hI)
        · unfold sgM at hz
          rw [if_neg hlt] at hz
          refine And.intro (fun cd => absurd hz cd) (fun _ => ?_)
          refine And.intro (fun cd => absurd w9 cd) (fun _ => ?_)
          refine ⟨6 + k, i7, (by omega : 6 + k < 10), ?_⟩
          refine And.intro (fun _ => ?_) (fun cd => ?_)
          · refine And.intro (fun _ => ?_) (fun cd => absurd w9 cd)
            rw [if_pos (by omega)] at er
            refine h1 (sk n c q) ((w, h, S, D, m), K, P, R) _ ?_ (frR.q fa fs) ⟨?_, ?_, by exact e2', fun i hi => ?_, fun j hj => ea j hj⟩
            · exact pe1 _ _ _ _ _ er
            · show I2 65 0 = _
              rw [eo 0 (by decide) (by decide)]; exact e0
            · show I2 65 1 = _
              rw [eo 1 (by decide) (by decide)]; exact e1
            · have hi : i < w * h := hi
              show I2 65 (3 + i) = _
              rw [eo (3 + i) (by omega) (by omega)]; exact el i hi
          · rw [sz, s8] at cd
            omega
    exact lp 7 0 q _ _ _ I1 rfl (by decide) hq (frR.refl _) e8 e9 (by rw [e2]; rfl) (fun j _ _ => rfl) (fun j hj => by omega) ⟨fun j hj => by omega, fun i j hi => by omega⟩ hres
  · refine ex q I1 ?_ hq (frR.q f0 f1) e8 e9
    unfold pP
    rcases eo with es | ⟨p, w, h, o, es, ec, rfl | ⟨S, rfl⟩⟩
    · simp only [es]
    · simp only [es, ec]
    · simp only [es, ec]
end PM

/-! reading a text as a town: the class, all of it -/
theorem T1000' : (1000 : Int32).toInt = 1000 := rfl
theorem orN_up {k cl : Nat} {P : Nat → Nat} : orN (k + 1) (fun j => 1 <<< up P k cl j) = orN k (fun j => 1 <<< P j) ||| 1 <<< cl := by
  rw [orN_s]
  congr 1
  · exact orN_cong (fun i hi => by unfold up; rw [if_neg (by omega)])
  · unfold up
    rw [if_pos rfl]
/-- lamps that stand apart, within the streets -/
def lOk (w h S k : Nat) (K P R : Nat → Nat) : Prop := (∀ j, j < k → K j ≤ 5 ∧ P j < w * h ∧ S.testBit (P j) = true ∧ 1 ≤ R j ∧ R j ≤ 5) ∧ ∀ i j, i < k → j < k → P i = P j → i = j
theorem l1_ok {n : Nat} {c : Nat → Int} {w h S tk q p kd cl r : Nat} (hw1 : 1 ≤ w) (hh1 : 1 ≤ h) (hw6 : w ≤ 6) (hh4 : h ≤ 4) (e : l1 n c w h S tk q = (p, some (kd, cl, r))) : kd ≤ 5 ∧ cl < w * h ∧ S.testBit cl = true ∧ tk.testBit cl = false ∧ 1 ≤ r ∧ r ≤ 5 := by
  unfold l1 at e
  split at e
  · cases e
  · rename_i kd' ek
    split at e
    · cases e
    · rename_i x ex
      split at e
      · cases e
      · rename_i y ey
        split at e
        · rename_i hb
          split at e
          · cases e
          · rename_i r' er
            cases e
            have g1 := fg_some (by omega) ex
            have g2 := fg_some (by omega) ey
            have g3 := fg_some (by decide) er
            have := (kd_lt ek).1
            refine ⟨by omega, ?_, hb.1, hb.2, g3.2.1, g3.2.2⟩
            have h1 : w * y + w ≤ w * h := by
              rw [← Nat.mul_succ]
              exact Nat.mul_le_mul_left w (by omega)
            omega
        · cases e
theorem lOk_up {w h S k kd cl r : Nat} {K P R : Nat → Nat} (hl : lOk w h S k K P R) (h1 : kd ≤ 5) (h2 : cl < w * h) (h3 : S.testBit cl = true) (h4 : (orN k (fun j => 1 <<< P j)).testBit cl = false) (h5 : 1 ≤ r) (h6 : r ≤ 5) : lOk w h S (k + 1) (up K k kd) (up P k cl) (up R k r) := by
  obtain ⟨g1, g2⟩ := hl
  have hne : ∀ j, j < k → P j ≠ cl := by
    intro j hj e
    have : (orN k (fun j => 1 <<< P j)).testBit cl = true := (tb_orN _ _ _).mpr ⟨j, hj, by rw [tb_one]; simpa using e⟩
    rw [h4] at this
    cases this
  refine ⟨fun j hj => ?_, fun i j hi hj e => ?_⟩
  · by_cases q : j = k
    · subst q
      exact ⟨by show (if j = j then kd else _) ≤ 5; rw [if_pos rfl]; exact h1, by show (if j = j then cl else _) < _; rw [if_pos rfl]; exact h2, by show S.testBit (if j = j then cl else _) = true; rw [if_pos rfl]; exact h3, by show 1 ≤ (if j = j then r else _); rw [if_pos rfl]; exact h5, by show (if j = j then r else _) ≤ 5; rw [if_pos rfl]; exact h6⟩
    · have := g1 j (by omega)
      exact ⟨by show (if j = k then kd else _) ≤ 5; rw [if_neg q]; exact this.1, by show (if j = k then cl else _) < _; rw [if_neg q]; exact this.2.1, by show S.testBit (if j = k then cl else _) = true; rw [if_neg q]; exact this.2.2.1, by show 1 ≤ (if j = k then r else _); rw [if_neg q]; exact this.2.2.2.1, by show (if j = k then r else _) ≤ 5; rw [if_neg q]; exact this.2.2.2.2⟩
  · have e : (if i = k then cl else P i) = (if j = k then cl else P j) := e
    by_cases q1 : i = k
    · by_cases q2 : j = k
      · omega
      · rw [if_pos q1, if_neg q2] at e
        exact absurd e.symm (hne j (by omega))
    · by_cases q2 : j = k
      · rw [if_neg q1, if_pos q2] at e
        exact absurd e (hne i (by omega))
      · rw [if_neg q1, if_neg q2] at e
        exact g2 i j (by omega) (by omega) e
section PB
variable {G : am_G} {l : Launch} {t2 : Option Nat × Option Nat} {I : am_I} {L : am_J} {Q : bm_P}
theorem sp_readLamps (k n : Nat) (c : Nat → Int) (p w h S : Nat) (hk : k < 4) (hn : n ≤ 80) (hp : p ≤ n) (ht : txC k n c I) (h9 : I 3 9 = nI p) (hw : I 3 0 = nI w) (hh : I 3 1 = nI h) (hS : I 3 2 = nI S) (hw6 : w ≤ 6) (hw1 : 1 ≤ w) (hh4 : h ≤ 4) (hh1 : 1 ≤ h) (hS32 : S < 2 ^ 24)
    (h1 : ∀ q m K P R I', lP n c w h S 7 0 p (fun _ => 0) (fun _ => 0) (fun _ => 0) = (q, some (m, K, P, R)) → m ≤ 6 → lOk w h S m K P R → frN [3, 4, 5, 6] I I' → I' 3 4 = nI m → (∀ i, i < 4 → I' 3 i = I 3 i) → (∀ j, j < m → I' 4 j = nI (K j) ∧ I' 5 j = nI (P j) ∧ I' 6 j = nI (R j)) → Q (some (.int 1)) (tK2 k t2) I' L)
    (h0 : ∀ q I', lP n c w h S 7 0 p (fun _ => 0) (fun _ => 0) (fun _ => 0) = (q, none) → q ≤ n → frN [3, 4, 5, 6] I I' → I' 3 9 = nI q → Q (some (.int 0)) (tK2 k t2) I' L) : bm_C G l 209 [.ref 3] (tK2 k t2) I L Q := by
  generalize hres : lP n c w h S 7 0 p (fun _ => 0) (fun _ => 0) (fun _ => 0) = res at *
  have wh24 : w * h ≤ 24 := Nat.mul_le_mul hw6 hh4
  have lp : ∀ d m y q K P R (I1 : am_I), 6 - m = d → m ≤ 6 → y = nI m → q ≤ n → frN [3, 4, 5, 6] I I1 → I1 3 9 = nI q → I1 3 4 = nI m → I1 3 10 = nI (orN m (fun j => 1 <<< P j)) → (∀ i, i < 4 → I1 3 i = I 3 i) → (∀ j, j < m → I1 4 j = nI (K j) ∧ I1 5 j = nI (P j) ∧ I1 6 j = nI (R j)) → lOk w h S m K P R → lP n c w h S (d + 1) m q K P R = res → bm_W G l 209 12 [some (.ref 3), some (.int y)] [] (tK2 k t2) I1 L Q := by
    intro d
    induction d with
    | zero =>
      intro m y q K P R I1 hd hm hy hq f1 e9 e4 e10 eo ea ho er
      obtain rfl : m = 6 := by omega
      subst hy
      have ht1 : txC k n c I1 := by
        unfold txC at ht ⊢
        rw [f1 _ (by simp; omega), f1 _ (by simp; omega)]
        exact ht
      have sl := (sk_le n c q).2 hq
      have er : (if n ≤ sk n c q then (sk n c q, some (6, K, P, R)) else if 6 ≤ 6 then (sk n c q, none) else match l1 n c w h S (orN 6 (fun j => 1 <<< P j)) (sk n c q) with
        | (q, none) => (q, none)
        | (q, some (kd, cl, r)) => lP n c w h S 0 (6 + 1) q (up K 6 kd) (up P 6 cl) (up R 6 r)) = res := er
      refine bm_go (am_ok_all 209 (by decide)) 60 ?_
      refine And.intro (fun cd => absurd cd (by decide)) (fun _ => ?_)
      refine sp_skip k n c q hk hn hq ht1 e9 ?_
      have fs : frN [3, 4, 5, 6] I (am_u I1 3 9 (nI (sk n c q))) := f1.u (by decide)
      refine sp_next k n c (sk n c q) hk hn (by omega) (ht1.u (by decide)) u_eq (fun z hz => ?_)
      by_cases c1 : n ≤ sk n c q
      · rw [if_pos c1] at er
        have : sgC n c (sk n c q) = 1000 := by unfold sgC; rw [if_neg (by omega)]
        refine And.intro (fun cd => absurd (by rw [T1000', hz]; exact this) cd) (fun _ => ?_)
        refine ⟨Or.inr rfl, h1 _ 6 K P R _ er.symm (by omega) ho fs (by exact e4) (fun i hi => by rw [u_nj (by omega)]; exact eo i hi) (fun j hj => by exact ea j hj)⟩
      · rw [if_neg c1, if_pos (Nat.le_refl 6)] at er
        refine And.intro (fun _ => ?_) (fun cd => ?_)
        · refine And.intro (fun _ => ?_) (fun cd => ?_)
          · exact ⟨Or.inl rfl, h0 _ _ er.symm sl fs u_eq⟩
          · have cd : (I1 3 4).toInt < (6 : Int32).toInt := cd
            rw [e4] at cd
            exact absurd cd (by decide)
        · rw [T1000', hz] at cd
          unfold sgC at cd
          rw [if_pos (by omega)] at cd
          have := (ht1.2 (sk n c q) (by omega)).2
          omega
    | succ d ih =>
      intro m y q K P R I1 hd hm hy hq f1 e9 e4 e10 eo ea ho er
      subst hy
      have ht1 : txC k n c I1 := by
        unfold txC at ht ⊢
        rw [f1 _ (by simp; omega), f1 _ (by simp; omega)]
        exact ht
      have sl := (sk_le n c q).2 hq
      have er : (if n ≤ sk n c q then (sk n c q, some (m, K, P, R)) else if 6 ≤ m then (sk n c q, none) else match l1 n c w h S (orN m (fun j => 1 <<< P j)) (sk n c q) with
        | (q, none) => (q, none)
        | (q, some (kd, cl, r)) => lP n c w h S (d + 1) (m + 1) q (up K m kd) (up P m cl) (up R m r)) = res := er
      have tk24 : orN m (fun j => 1 <<< P j) < 2 ^ 24 := orN_lt _ _ (fun j hj => one_lt (by have := (ho.1 j hj).2.1; omega))
      refine bm_go (am_ok_all 209 (by decide)) 60 ?_
      refine And.intro (fun cd => ?_) (fun _ => ?_)
      · rw [nI_toInt (by omega), T6] at cd
        omega
      refine sp_skip k n c q hk hn hq ht1 e9 ?_
      have fs : frN [3, 4, 5, 6] I (am_u I1 3 9 (nI (sk n c q))) := f1.u (by decide)
      refine sp_next k n c (sk n c q) hk hn (by omega) (ht1.u (by decide)) u_eq (fun z hz => ?_)
      by_cases c1 : n ≤ sk n c q
      · rw [if_pos c1] at er
        have : sgC n c (sk n c q) = 1000 := by unfold sgC; rw [if_neg (by omega)]
        refine And.intro (fun cd => absurd (by rw [T1000', hz]; exact this) cd) (fun _ => ?_)
        refine ⟨Or.inr rfl, h1 _ m K P R _ er.symm (by omega) ho fs (by exact e4) (fun i hi => by rw [u_nj (by omega)]; exact eo i hi) (fun j hj => by exact ea j hj)⟩
      · rw [if_neg c1, if_neg (by omega)] at er
        refine And.intro (fun _ => ?_) (fun cd => ?_)
        · refine And.intro (fun cd => ?_) (fun _ => ?_)
          · have cd : (6 : Int32).toInt ≤ (I1 3 4).toInt := cd
            rw [e4, nI_toInt (by omega), T6] at cd
            omega
          · have ix : am_u I1 3 9 (nI (sk n c q)) 3 4 &&& 7 = nI m := by
              show I1 3 4 &&& 7 = _
              rw [e4]
              exact Int32.toInt_inj.mp (by rw [and7 (by omega), nI_toInt (by omega)])
            refine sp_readLamp k n c (sk n c q) w h S (orN m (fun j => 1 <<< P j)) m hk hn (by omega) (ht1.u (by decide)) u_eq (by rw [u_nj (by decide), eo 0 (by decide)]; exact hw) (by rw [u_nj (by decide), eo 1 (by decide)]; exact hh) (by rw [u_nj (by decide), eo 2 (by decide)]; exact hS) (by exact e10) ix (by omega) hw6 hw1 hh4 hh1 hS32 tk24 (fun p' kd cl r I2 el pn cl24 f2 g9 g10 go g4 g5 g6 gr => ?_) (fun p' I2 el pn f2 g9 => ?_)
            · rw [el] at er
              have er : lP n c w h S (d + 1) (m + 1) p' (up K m kd) (up P m cl) (up R m r) = res := er
              obtain ⟨o1, o2, o3, o4, o5, o6⟩ := l1_ok hw1 hh1 hw6 hh4 el
              first | refine And.intro (fun cd => absurd cd (by decide)) (fun _ => ?_) | refine And.intro (fun _ => ?_) (fun cd => absurd cd (by decide)) | refine And.intro (fun cd => ?_) (fun cd => ?_)
              refine ih (m + 1) _ p' (up K m kd) (up P m cl) (up R m r) _ (by omega) (by omega) (nI_succ m).symm pn ((fs.trans f2).u (by decide)) ?_ ?_ ?_ ?_ ?_ (lOk_up ho o1 o2 o3 o4 o5 o6) er
              · rw [u_nj (by decide)]
                exact g9
              · show I2 3 4 + 1 = _
                rw [go 4 (by decide) (by decide)]
                show I1 3 4 + 1 = _
                rw [e4, nI_succ]
              · rw [u_nj (by decide), g10, orN_up]
              · intro i hi
                rw [u_nj (by omega), go i (by omega) (by omega), u_nj (by omega)]
                exact eo i hi
              · intro j hj
                show I2 4 j = nI (if j = m then kd else K j) ∧ I2 5 j = nI (if j = m then cl else P j) ∧ I2 6 j = nI (if j = m then r else R j)
                by_cases q2 : j = m
                · subst q2
                  rw [if_pos rfl, if_pos rfl, if_pos rfl]
                  exact ⟨g4, g5, g6⟩
                · rw [if_neg q2, if_neg q2, if_neg q2, (gr j q2).1, (gr j q2).2.1, (gr j q2).2.2]
                  exact ea j (by omega)
            · rw [el] at er
              have er : (p', none) = res := er
              first | refine And.intro (fun cd => absurd cd (by decide)) (fun _ => ?_) | refine And.intro (fun _ => ?_) (fun cd => absurd cd (by decide)) | refine And.intro (fun cd => ?_) (fun cd => ?_)
              exact ⟨Or.inl rfl, h0 _ _ er.symm pn (fs.trans f2) g9⟩
        · rw [T1000', hz] at cd
          unfold sgC at cd
          rw [if_pos (by omega)] at cd
          have := (ht1.2 (sk n c q) (by omega)).2
          omega
  refine bm_go (am_ok_all 209 (by decide)) 60 ?_
  refine lp 6 0 _ p _ _ _ _ rfl (Nat.zero_le _) rfl hp (((frN.refl _ _).u (by decide)).u (by decide)) (by exact h9) rfl rfl ?_ (fun j hj => by omega) ⟨fun j hj => by omega, fun i j hi => by omega⟩ hres
  intro i hi
  rw [u_nj (by omega), u_nj (by omega)]
end PB

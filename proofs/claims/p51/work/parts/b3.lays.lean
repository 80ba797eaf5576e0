/-! the law's sign and lays: the town is laid -/
section LY
variable {G : am_G} {l : Launch} {t : am_T} {I : am_I} {L : am_J} {Q : nm_P}
theorem sp_sign {x : Int32} (hG : G.2.2.1 ≤ 260) {N : Nat} (hN : N ≤ 81) {o : Nat} (ho : o < N) (hs : am_SH o = (100, 6)) (hI : ∀ j, j < sNum G → I o j = nI (sAt G j)) (i : Nat) (hi : i < sZ G) (hx : x = nI i) (hQ : Q N (some (.int (nI (sSg G i)))) t I L) : nm_C G l 76 [.float 0, .ref o, .int x] N t I L Q := by
  subst hx
  have w := sW_b G
  have hh := sH_b G
  have sb := sN_b G
  have n6 := sNum_le G
  have sd := sD_lt G
  have z51 := sZ_le G
  have wn : ¬ (nI (sW G)).toInt = 0 := by rw [nI_toInt (by omega)]; omega
  have hi' : i < 3 + sN G + 4 * sNum G := hi
  refine nm_go (am_ok_all 76 (by decide)) 2 ?_
  refine And.intro (fun cd => ?_) (fun cd => ?_)
  · rw [nI_toInt (by omega)] at cd
    have cd : (3 : Int) ≤ (i : Int) := cd
    obtain ⟨c, ec⟩ : ∃ c, i = 3 + c := ⟨i - 3, by omega⟩
    subst ec
    have e3 : nI (3 + c) - 3 = nI c := by rw [k3, pk_sub (by omega)]; congr 1; omega
    have step : ∀ z : Int32, z = nI c → ∀ d4 d5 d6 : Option Value, nm_W G l 76 46 [some (.float 0), some (.ref o), some (.int (nI (3 + c))), some (.int z), d4, d5, d6] [] N 0 0 t I L Q := by
      intro z hz d4 d5 d6
      subst hz
      refine nm_go (am_ok_all 76 (by decide)) 3 ?_
      refine nm_b hN (sp_cells hG ?_)
      refine And.intro (fun c2 => ?_) (fun c2 => ?_)
      · -- a lamp
        rw [nI_toInt (by omega), nI_toInt (by omega)] at c2
        obtain ⟨j, ej⟩ : ∃ j, c = sN G + j := ⟨c - sN G, by omega⟩
        subst ej
        have es : sSg G (3 + (sN G + j)) = sLm G j := by
          unfold sSg
          rw [if_neg (by omega), if_neg (by omega), if_neg (by omega), if_neg (by omega), show 3 + (sN G + j) - 3 - sN G = j by omega]
        rw [es] at hQ
        have hk : j / 4 < sNum G := by omega
        have es2 : nI (sN G + j) - nI (sN G) = nI j := by rw [pk_sub (by omega)]; congr 1; omega
        have ed : nI j / 4 = nI (j / 4) := by rw [k4, pk_div (by omega) (by decide) (by decide)]
        have er : nI j - nI j / 4 * 4 = nI (j % 4) := by rw [k4, pk_rem (by omega) (by decide) (by decide)]
        have kdl := sKd_lt G (j / 4)
        have a := @sAt_div G (j / 4) hk
        have aN := ((sAt_ok G).1 (j / 4) hk).1
        have rb := sRc_b G (j / 4)
        have goal2 : ∀ (z4 z5 z6 : Int32), z4 = nI (j / 4) → z5 = nI (j % 4) → z6 = nI (sKd G (j / 4)) → nm_W G l 76 111 [some (.float 0), some (.ref o), some (.int (nI (3 + (sN G + j)))), some (.int (nI (sN G + j))), some (.int z4), some (.int z5), some (.int z6)] [] N 0 0 t I L Q := by
          intro z4 z5 z6 h4 h5 h6
          subst h4 h5 h6
          rcases (by omega : j % 4 = 0 ∨ j % 4 = 1 ∨ j % 4 = 2 ∨ j % 4 = 3) with r | r | r | r
          · have el : sLm G j = ltr (sKd G (j / 4)) := if_pos r
            rw [el] at hQ
            rw [r]
            generalize sKd G (j / 4) = kd at *
            rcases (by omega : kd = 0 ∨ kd = 1 ∨ kd = 2 ∨ kd = 3 ∨ kd = 4 ∨ kd = 5) with rfl | rfl | rfl | rfl | rfl | rfl
            all_goals
              refine nm_go (am_ok_all 76 (by decide)) 60 ?_
              repeat (first | refine And.intro (fun cd => absurd cd (by decide)) (fun _ => ?_) | refine And.intro (fun _ => ?_) (fun cd => absurd cd (by decide)))
              exact hQ
          · have el : sLm G j = 48 + sAt G (j / 4) % sW G := by
              unfold sLm
              rw [if_neg (by omega), if_pos r]
            have ev : (48 : Int32) + (nI (sAt G (j / 4)) - nI (sAt G (j / 4)) / nI (sW G) * nI (sW G)) = nI (sLm G j) := by
              rw [pk_rem (by omega) (by omega) (by omega), show (48 : Int32) = nI 48 from rfl, nI_add, el]
            rw [← ev] at hQ
            rw [r]
            refine nm_go (am_ok_all 76 (by decide)) 60 ?_
            refine And.intro (fun _ => ?_) (fun cd => absurd cd (by decide))
            refine And.intro (fun cd => absurd rfl cd) (fun _ => ?_)
            refine ⟨6, ⟨ho, hs⟩, j / 4, nI_toInt (by omega), by omega, ?_⟩
            rw [hI _ hk]
            refine nm_b hN (sp_wide hG ?_)
            refine ⟨wn, ?_⟩
            exact hQ
          · have el : sLm G j = 48 + sAt G (j / 4) / sW G := by
              unfold sLm
              rw [if_neg (by omega), if_neg (by omega), if_pos r]
            have ev : (48 : Int32) + nI (sAt G (j / 4)) / nI (sW G) = nI (sLm G j) := by
              rw [pk_div (by omega) (by omega) (by omega), show (48 : Int32) = nI 48 from rfl, nI_add, el]
            rw [← ev] at hQ
            rw [r]
            refine nm_go (am_ok_all 76 (by decide)) 60 ?_
            refine And.intro (fun _ => ?_) (fun cd => absurd cd (by decide))
            refine And.intro (fun _ => ?_) (fun cd => absurd cd (by decide))
            refine And.intro (fun cd => absurd rfl cd) (fun _ => ?_)
            refine ⟨6, ⟨ho, hs⟩, j / 4, nI_toInt (by omega), by omega, ?_⟩
            rw [hI _ hk]
            refine nm_b hN (sp_wide hG ?_)
            refine ⟨wn, ?_⟩
            exact hQ
          · have el : sLm G j = 48 + sRc G (j / 4) := by
              unfold sLm
              rw [if_neg (by omega), if_neg (by omega), if_neg (by omega)]
            have ev : (48 : Int32) + nI (sRc G (j / 4)) = nI (sLm G j) := by
              rw [show (48 : Int32) = nI 48 from rfl, nI_add, el]
            rw [← ev] at hQ
            rw [r]
            refine nm_go (am_ok_all 76 (by decide)) 60 ?_
            refine And.intro (fun _ => ?_) (fun cd => absurd cd (by decide))
            refine And.intro (fun _ => ?_) (fun cd => absurd cd (by decide))
            refine And.intro (fun _ => ?_) (fun cd => absurd cd (by decide))
            refine nm_b hN (sp_reach hG (j / 4) (by omega) rfl ?_)
            exact hQ
        refine nm_go (am_ok_all 76 (by decide)) 17 ?_
        refine nm_b hN (sp_cells hG ?_)
        refine ⟨by decide, ?_⟩
        refine nm_b hN (sp_cells hG ?_)
        refine ⟨by decide, ?_⟩
        rw [es2, ed]
        refine nm_b hN (sp_kind hG (j / 4) (by omega) rfl ?_)
        exact goal2 _ _ _ rfl (by rw [← ed, er]) rfl
      · -- a cell's sign
        rw [nI_toInt (by omega), nI_toInt (by omega)] at c2
        have es : sSg G (3 + c) = sCl G c := tx_cl (by omega)
        rw [es] at hQ
        refine nm_go (am_ok_all 76 (by decide)) 3 ?_
        refine nm_b hN (sp_door hG ?_)
        refine And.intro (fun c3 => ?_) (fun c3 => ?_)
        · rw [nI_toInt (by omega), nI_toInt (by omega)] at c3
          refine nm_go (am_ok_all 76 (by decide)) 3 ?_
          refine nm_b hN (sp_street hG c (by omega) rfl ?_)
          unfold sCl at hQ
          rw [if_neg (by omega)] at hQ
          cases e : sSt G c with
          | true =>
            rw [e] at hQ
            refine And.intro (fun cd => absurd cd (by decide)) (fun _ => ?_)
            refine nm_go (am_ok_all 76 (by decide)) 20 ?_
            exact hQ
          | false =>
            rw [e] at hQ
            refine And.intro (fun _ => ?_) (fun cd => absurd rfl cd)
            refine nm_go (am_ok_all 76 (by decide)) 20 ?_
            exact hQ
        · rw [nI_toInt (by omega), nI_toInt (by omega)] at c3
          unfold sCl at hQ
          rw [if_pos (by omega)] at hQ
          refine nm_go (am_ok_all 76 (by decide)) 20 ?_
          exact hQ
    refine nm_go (am_ok_all 76 (by decide)) 3 ?_
    exact step _ e3 _ _ _
  · rw [nI_toInt (by omega)] at cd
    have cd : (i : Int) < 3 := cd
    rcases (by omega : i = 0 ∨ i = 1 ∨ i = 2) with rfl | rfl | rfl
    · refine nm_go (am_ok_all 76 (by decide)) 20 ?_
      refine And.intro (fun cd => absurd rfl cd) (fun _ => ?_)
      exact hQ
    · have ev : (48 : Int32) + nI (sW G) = nI (sSg G 1) := by
        rw [show (48 : Int32) = nI 48 from rfl, nI_add]
        rfl
      rw [← ev] at hQ
      refine nm_go (am_ok_all 76 (by decide)) 20 ?_
      refine And.intro (fun _ => ?_) (fun cd => absurd cd (by decide))
      refine And.intro (fun cd => absurd rfl cd) (fun _ => ?_)
      refine nm_b hN (sp_wide hG ?_)
      exact hQ
    · have ev : (48 : Int32) + nI (sN G) / nI (sW G) = nI (sSg G 2) := by
        rw [pk_div (by omega) (by omega) (by omega), show (48 : Int32) = nI 48 from rfl, nI_add]
        unfold sN
        rw [Nat.mul_div_cancel_left _ (by omega)]
        rfl
      rw [← ev] at hQ
      refine nm_go (am_ok_all 76 (by decide)) 20 ?_
      refine And.intro (fun _ => ?_) (fun cd => absurd cd (by decide))
      refine And.intro (fun _ => ?_) (fun cd => absurd cd (by decide))
      refine nm_b hN (sp_cells hG ?_)
      refine nm_b hN (sp_wide hG ?_)
      refine ⟨wn, ?_⟩
      exact hQ
end LY

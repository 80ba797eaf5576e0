/-! digest: it tells of what holds, the reference's cells are filled as ghosts -/
def gh1 (T : tT) (y : Nat) : Int32 := match y with
  | 11 => nI (tW T)
  | 12 => nI (tH T)
  | 13 => nI (tC T)
  | 14 => nI (tN T)
  | 15 => nI (tD T)
  | 16 => nI (tS T)
  | 17 => nI (lA T)
  | 18 => nI (rB T)
  | 23 => nI (tD T)
  | 25 => -9
  | 29 => nI (tD T)
  | 31 => -9
  | _ => 0
def gho (T : tT) (I : am_I) : am_I := fun x y =>
  if x < 81 then I x y else if x = 161 then gh1 T y else if x = 163 then I (38 + 2 * y) 1
  else if x = 164 then (if y < 360 then I (39 + 2 * (y / 60)) (y % 60) else I (39 + 2 * (6 + (y - 360) / 80)) ((y - 360) % 80))
  else if x = 166 then nI (tK T y) else if x = 167 then nI (tP T y) else if x = 168 then nI (tR T y) else if x = 170 then -9 else 0
theorem gho_lo {T : tT} {I : am_I} {x : Nat} (h : x < 81) : gho T I x = I x := by
  funext y
  exact if_pos h
theorem gho_1 {T : tT} {I : am_I} (y : Nat) : gho T I 161 y = gh1 T y := rfl
theorem gho_3 {T : tT} {I : am_I} (y : Nat) : gho T I 163 y = I (38 + 2 * y) 1 := rfl
theorem gho_4 {T : tT} {I : am_I} {k j : Nat} (hk : k < 10) (hj : j < cp k) : gho T I 164 (rb k + j) = I (39 + 2 * k) j := by
  show (if rb k + j < 360 then I (39 + 2 * ((rb k + j) / 60)) ((rb k + j) % 60) else I (39 + 2 * (6 + (rb k + j - 360) / 80)) ((rb k + j - 360) % 80)) = _
  unfold rb
  unfold cp at hj
  by_cases q : k < 6
  · rw [if_pos q] at hj ⊢
    rw [if_pos (by omega), show (60 * k + j) / 60 = k by omega, show (60 * k + j) % 60 = j by omega]
  · rw [if_neg q] at hj ⊢
    rw [if_neg (by omega), show 6 + (360 + 80 * (k - 6) + j - 360) / 80 = k by omega, show (360 + 80 * (k - 6) + j - 360) % 80 = j by omega]
def dgP (T : tT) (I : am_I) : Int64 := dgV T 0 (gho T I)
/-- the same rows and texts -/
def dgE (I I' : am_I) : Prop := ∀ k, k < 10 → I' (38 + 2 * k) 1 = I (38 + 2 * k) 1 ∧ ∀ j : Nat, (j : Int) < (I (38 + 2 * k) 1).toInt → I' (39 + 2 * k) j = I (39 + 2 * k) j
theorem itN_c {F F' : Nat → Int64 → Int64} : ∀ (n : Nat) (h : Int64), (∀ j, j < n → ∀ h, F' j h = F j h) → itN n F' h = itN n F h
  | 0, h, _ => by rw [itN_0, itN_0]
  | n + 1, h, e => by rw [itN_s, itN_s, itN_c n h (fun j hj => e j (by omega)), e n (by omega)]
theorem cntR_c {I I' : am_I} (h : ∀ k, k < 10 → I' 163 k = I 163 k) : ∀ (a n : Nat), a + n ≤ 10 → cntR I' a n = cntR I a n
  | _, 0, _ => rfl
  | a, n + 1, hn => by rw [cnt_s, cnt_s, cntR_c h a n (by omega), h (a + n) (by omega)]
theorem dgP_eq {T : tT} {I I' : am_I} (hz : cZ I) (h : dgE I I') : dgP T I' = dgP T I := by
  have h3 : ∀ k, k < 10 → gho T I' 163 k = gho T I 163 k := fun k hk => by rw [gho_3, gho_3]; exact (h k hk).1
  have h4 : ∀ k, k < 10 → ∀ j, j < (gho T I 163 k).toInt.toNat → gho T I' 164 (rb k + j) = gho T I 164 (rb k + j) := fun k hk j hj => by
    rw [gho_3] at hj
    have := hz k hk
    rw [gho_4 hk (by omega), gho_4 hk (by omega)]
    exact (h k hk).2 j (by omega)
  have hc : ∀ w, w < 9 → cV T 0 (gho T I') w = cV T 0 (gho T I) w := by
    intro w hw
    rcases (by omega : w = 0 ∨ w = 1 ∨ w = 2 ∨ w = 3 ∨ w = 4 ∨ w = 5 ∨ w = 6 ∨ w = 7 ∨ w = 8) with rfl | rfl | rfl | rfl | rfl | rfl | rfl | rfl | rfl
    · rw [cV_0, cV_0]
    · rw [cV_1, cV_1]
    · rw [cV_2, cV_2, gho_1, gho_1]
    · rw [cV_3, cV_3]
    · rw [cV_4, cV_4]
    · rw [cV_5, cV_5]
    · rw [cV_6, cV_6, cntR_c h3 0 6 (by omega)]
    · rw [cV_7, cV_7, cntR_c h3 6 4 (by omega)]
    · rw [cV_8, cV_8, gho_1, gho_1]
  unfold dgP dgV
  have e1 : mx 9 (cV T 0 (gho T I')) 17 = mx 9 (cV T 0 (gho T I)) 17 := mx_c _ _ _ 9 hc
  rw [e1]
  have g161 : gho T I' 161 = gho T I 161 := rfl
  have g169 : gho T I' 169 = gho T I 169 := rfl
  have g170 : gho T I' 170 = gho T I 170 := rfl
  have g171 : gho T I' 171 = gho T I 171 := rfl
  have g179 : gho T I' 179 = gho T I 179 := rfl
  have g180 : gho T I' 180 = gho T I 180 := rfl
  have e2 : ∀ v, rdV (gho T I') v = rdV (gho T I) v := fun v => by
    unfold rdV
    rw [g161, g169]
  have e3 : un (gho T I' 161 24) = un (gho T I 161 24) := by rw [g161]
  have e4 : (gho T I' 161 42).toInt.toNat = (gho T I 161 42).toInt.toNat := by rw [g161]
  have e5 : ∀ v, itN (gho T I 161 42).toInt.toNat (snV (gho T I')) v = itN (gho T I 161 42).toInt.toNat (snV (gho T I)) v := fun v => itN_c _ _ (fun j _ h => by unfold snV; rw [g179, g180])
  have e6 : ∀ v, itN 3 (kpV (gho T I')) v = itN 3 (kpV (gho T I)) v := fun v => itN_c _ _ (fun j _ h => by unfold kpV; rw [g170, g171])
  rw [e3, e2, e4, e5, e6]
  refine itN_c _ _ (fun k hk v => ?_)
  unfold rwV
  rw [h3 k hk]
  exact mx_c _ _ _ _ (h4 k hk)
section DG
variable {G : am_G} {l : Launch} {t : am_T} {I : am_I} {L : am_J} {Q : bm_P} {T : tT}
theorem bm_gh {m : Nat} {As : List Value} {I' : am_I} {v0 : Option Value} (hI : ∀ x, x < 81 → I' x = I x) (h : bm_C G l m As t I' L (fun v t' I2 L' => v = v0 ∧ t' = t ∧ I2 = I' ∧ L' = L)) (hQ : Q v0 t I L) : bm_C G l m As t I L Q := by
  intro n h1 h2
  have ew : am_ws G (am_st n t I' L) = am_ws G (am_st n t I L) := by
    unfold am_ws
    exact List.map_congr_left (fun x hx => by
      have hx : x < n := List.mem_range.mp hx
      rw [am_cell_congr (G := G) (g := am_st n t I' L) (g' := am_st n t I L) rfl (fun j => by show I x j = I' x j; rw [hI x (by omega)]) (fun _ => rfl) (fun _ => rfl)])
  intro p e s mid args below meth cc H locs lsA Z c1 c2 c3 c4 c5 c6
  obtain ⟨a1, a2, a3⟩ := c2
  refine h n h1 h2 p e s mid args below meth cc H locs lsA Z c1 ⟨a1, by rw [ew]; exact a2, a3⟩ c3 c4 c5 (fun v g' H' locs' pc' lsA' q r1 r2 r3 r4 => ?_)
  obtain ⟨t', I2, L', rfl, rfl, rfl, rfl, rfl⟩ := q
  obtain ⟨b1, b2, b3⟩ := r1
  exact c6 _ (am_st n t' I L') H' locs' pc' lsA' ⟨t', I, L', rfl, hQ⟩ ⟨b1, by rw [← ew]; exact b2, b3⟩ r2 r3 r4
theorem cc_digest {a a' b' : Nat → Nat} (h : cB T 0 t I) (hr : cR T 0 0 a I) (hs : cS T 0 a' b' I) (hz : cZ I) (hQ : Q (some (.long (dgP T I))) t I L) : bm_C G l 48 [.ref 0] t I L Q := by
  obtain ⟨hok, hc, hsh, a1, hL, a4, hO, a13⟩ := h
  obtain ⟨r1, r2, r3, r4, r5⟩ := hr
  have lo : ∀ x, x < 81 → gho T I x = I x := fun x hx => gho_lo hx
  have gR : InvR (gho T I) := by
    intro k hk
    have z := hz k hk
    rw [gho_3, lo (38 + 2 * k) (by omega)]
    refine ⟨rfl, z.1, z.2, fun j hj => ?_, trivial⟩
    rw [gho_4 hk (by omega), lo (39 + 2 * k) (by omega)]
  have gc : cT T (gho T I) := hc.fr (fun x hx => lo x (by revert hx; revert x; decide))
  have gm : mT T (gho T I) := ⟨rfl, rfl, rfl, rfl, rfl, rfl, rfl, rfl, fun k _ => ⟨rfl, rfl, rfl⟩⟩
  have gK : InvK T (gho T I) := ⟨0, by decide, by rw [lo 0 (by decide)]; exact a13, fun k hk => by
    rw [if_neg (by rw [Nat.zero_testBit]; decide)]
    rfl⟩
  have gS : InvS T (gho T I) := ⟨0, by decide, by rw [lo 22 (by decide)]; exact hs.2.1, rfl, fun i hi => absurd hi (Nat.not_lt_zero i)⟩
  have gG : InvG T (gho T I) := by
    refine ⟨rd0 T, rd0 T, 0, fun _ => tD T, fun _ => 0, rd0_ok hok, rd0_ok hok, ?_, ⟨rfl, rfl, rfl, rfl⟩, ⟨rfl, rfl, rfl, rfl⟩, ?_, by omega, by rw [lo 16 (by decide)]; exact r2, rfl, rfl, rfl, fun i hi => absurd hi (Nat.not_lt_zero i)⟩
    · have r3 : sC (rd0 T) 17 I := r3
      unfold sC at r3 ⊢
      rw [lo 17 (by decide)]
      exact r3
    · unfold sC at r4 ⊢
      rw [lo 18 (by decide)]
      exact r4
  refine bm_gh (I' := gho T I) lo (v0 := some (.long (dgP T I))) ?_ hQ
  exact sp_digest 0 gR gc gm hsh (by rw [lo 0 (by decide)]; exact a1) gK gS (Or.inl ⟨hok, gG⟩) ⟨rfl, rfl, rfl, rfl⟩
end DG

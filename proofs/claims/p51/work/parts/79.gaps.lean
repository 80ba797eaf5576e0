/-! steps from lamp to lamp: the class's table -/
theorem lit_1 {T : tT} (sh : Nat) {k : Nat} (hk : k < tN T) : lit T sh (1 <<< k) = shn T sh k := by
  have := lit_or (T := T) sh (s := 0) (k := k) (Nat.two_pow_pos k)
  rw [lit_0, if_pos hk, Nat.zero_or, Nat.zero_add] at this
  rw [Nat.one_shiftLeft]
  exact this
theorem and_cm1 : ∀ s, s < 64 → ∀ l, l < 6 → s.testBit l = true → s &&& cm (1 <<< l) = s - 2 ^ l := by decide +kernel
section PG
variable {G : am_G} {l : Launch} {t1 : Option Nat} {t : am_T} {I : am_I} {L : am_J} {Q : bm_P}
theorem sp_paceOn {T : tT} {x y : Int32} (sh s la : Nat) (hT : tOk T) (hc : cT T I) (hL : cL T sh 13 I) (hx : x = nI s) (hy : y = nI la) (hs : s ≤ al T) (hla : if s = 0 then la = 7 else s.testBit la = true) (hl8 : la < 8) (h : ∀ I', frN [26] I I' → (∀ k, k < 8 → I' 26 k = eN (gap T sh s la k)) → Q none t I' L) : bm_C G l 184 [.ref 25, .ref 7, .ref 12, .int x, .int y] t I L Q := by
  subst hx hy
  have hG := hT.1
  have n6 := hT.2.2.2.1
  have c24 := hG.c24
  have a64 : al T < 64 := by
    unfold al
    have := Nat.pow_le_pow_right (n := 2) (by decide) n6
    omega
  have fin : ∀ (f own br : Nat) I', (∀ k, k < tN T → pace T f own br (tP T k) = gap0 T sh (tD T) 0 s la k) → frN [26] I I' → (∀ k, k < 8 → I' 26 k = eN (if k < tN T then pace T f own br (tP T k) else none)) → Q none t I' L := by
    intro f own br I' hp f1 e
    refine h I' f1 (fun k hk => ?_)
    rw [e k hk]
    congr 1
    unfold gap
    by_cases q : k < tN T
    · rw [if_pos q, if_pos ⟨hs, q, hla⟩, hp k q]
    · rw [if_neg q, if_neg (fun w => q w.2.1)]
  by_cases q : s = 0
  · subst q
    refine bm_go (am_ok_all 184 (by decide)) 60 ?_
    refine And.intro (fun cd => absurd rfl cd) (fun _ => ?_)
    refine sp_paceOut (1 <<< tD T) 0 0 hT hc ?_ rfl rfl (one_lt (by have := hT.2.1; omega)) (by rw [Nat.one_shiftLeft]; have := Nat.two_pow_pos (tD T); omega) (by decide) (by decide) (fun I1 f1 e1 => ?_)
    · show (1 : Int32) <<< (I 7 2 &&& 31) = _
      rw [hc.2.2.1, k1, n_shl _ (by have := hT.2.1; omega)]
    · refine fin _ 0 0 I1 (fun k hk => ?_) f1 e1
      unfold gap0
      rw [if_pos rfl]
  · rw [if_neg q] at hla
    have hla2 : la < tN T := by
      by_cases w : la < tN T
      · exact w
      · have : s < 2 ^ tN T := by unfold al at hs; have := Nat.two_pow_pos (tN T); omega
        rw [tb_big this (by omega)] at hla
        cases hla
    have lp := hT.2.2.2.2.1 la hla2
    have i1 : (1 : Int32) <<< (nI la &&& 31) = nI (1 <<< la) := by rw [k1, n_shl _ (by omega)]
    have l64 : 1 <<< la < 64 := Nat.lt_of_lt_of_le (one_lt hla2) (Nat.pow_le_pow_right (n := 2) (by decide) n6)
    have s64 : s < 64 := by omega
    have sl : s - 2 ^ la < 64 := Nat.lt_of_le_of_lt (Nat.sub_le _ _) s64
    have p24 := Nat.pow_le_pow_right (n := 2) (by decide) c24
    have am := and_cm1 s s64 la (by omega) hla
    have i2 : nI s &&& ((1 : Int32) <<< (nI la &&& 31) ^^^ (-1)) = nI (s - 2 ^ la) := by rw [i1, km1, n_cm, n_and, am]
    refine bm_go (am_ok_all 184 (by decide)) 60 ?_
    refine And.intro (fun _ => ?_) (fun cd => ?_)
    · refine sp_of 12 (Or.inl rfl) (1 <<< la) i1 l64 ?_
      refine sp_spotOf la (tP T la) rfl (by omega) (hc.2.2.2.2.2.1 la hla2).2.1 (by have := lp.2.1; omega) ?_
      refine sp_of 12 (Or.inl rfl) (s - 2 ^ la) i2 sl ?_
      refine sp_paceOut (1 <<< tP T la) (shn T sh la) (lit T sh (s - 2 ^ la)) hT hc rfl ?_ ?_ (one_lt (by have := lp.2.1; omega)) (by rw [Nat.one_shiftLeft]; have := Nat.two_pow_pos (tP T la); omega) (Nat.lt_of_lt_of_le (shn_lt hG lp.2.1) p24) (Nat.lt_of_lt_of_le (lit_lt hT sh _) p24) (fun I1 f1 e1 => ?_)
      · show I 13 (1 <<< la) = _
        rw [hL _ l64, lit_1 sh hla2]
      · exact hL _ sl
      · refine fin _ _ _ I1 (fun k hk => ?_) f1 e1
        unfold gap0
        rw [if_neg q, Nat.or_zero]
    · rw [nI_toInt (by omega)] at cd
      have cd : (s : Int) = 0 := cd
      omega
theorem sp_key {x y : Int32} (s la : Nat) (hx : x = nI s) (hy : y = nI la) (hs : s < 64) (hl : la < 8) (h : Q (some (.int (nI (8 * s + la)))) t I L) : bm_C G l 175 [.int x, .int y] t I L Q := by
  subst hx hy
  have e : (nI s &&& 63) * 8 + (nI la &&& 7) = nI (8 * s + la) := by
    have e1 : nI s &&& 63 = nI s := Int32.toInt_inj.mp (by rw [and63 hs, nI_toInt (by omega)])
    have e2 : nI la &&& 7 = nI la := Int32.toInt_inj.mp (by rw [and7 hl, nI_toInt (by omega)])
    rw [e1, e2, show (8 : Int32) = nI 8 from rfl, pk_mul, nI_add, Nat.mul_comm]
  refine bm_go (am_ok_all 175 (by decide)) 40 ?_
  rw [← e] at h
  exact h
theorem sp_gapKey {x y z : Int32} (s la k : Nat) (hx : x = nI s) (hy : y = nI la) (hz : z = nI k) (hs : s < 64) (hl : la < 8) (hk : k < 8) (h : Q (some (.int (nI (64 * s + 8 * la + k)))) t I L) : bm_C G l 176 [.int x, .int y, .int z] t I L Q := by
  have e : nI (8 * s + la) * 8 + (z &&& 7) = nI (64 * s + 8 * la + k) := by
    have e2 : z &&& 7 = nI k := Int32.toInt_inj.mp (by rw [hz, and7 hk, nI_toInt (by omega)])
    rw [e2, show (8 : Int32) = nI 8 from rfl, pk_mul, nI_add, show (8 * s + la) * 8 + k = 64 * s + 8 * la + k by omega]
  refine bm_go (am_ok_all 176 (by decide)) 40 ?_
  refine sp_key s la hx hy hs hl ?_
  rw [← e] at h
  exact h
end PG

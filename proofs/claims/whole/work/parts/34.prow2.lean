/-! pairs: row, lay, at, tear, text, put -/
section PP
variable {G : am_G} {l : Launch} {t : am_T} {I : am_I} {L : am_J}
theorem InvR.b6 {I : am_I} (h : InvR I) {k : Nat} (hk : k < 6) : I (38 + 2 * k) 1 = I 63 k ∧ -1 ≤ (I 63 k).toInt ∧ (I 63 k).toInt ≤ 60 := by
  obtain ⟨h1, h2, h3, -⟩ := h k (by omega)
  rw [show cp k = 60 from if_pos hk] at h3
  exact ⟨h1, h2, h3⟩
theorem InvR.b4 {I : am_I} (h : InvR I) {k : Nat} (hk : k < 4) : I (38 + 2 * (6 + k)) 1 = I 63 (6 + k) ∧ -1 ≤ (I 63 (6 + k)).toInt ∧ (I 63 (6 + k)).toInt ≤ 80 := by
  obtain ⟨h1, h2, h3, -⟩ := h (6 + k) (by omega)
  rw [show cp (6 + k) = 80 from if_neg (by omega)] at h3
  exact ⟨h1, h2, h3⟩
/-- a row anew, in both -/
theorem InvR.anew {I I' : am_I} {y v : Int32} {k : Nat} (h : InvR I) (hk : k < 10) (h0 : 0 ≤ y.toInt) (hy : y.toInt ≤ (cp k : Int)) (hv : 6 ≤ k → -128 ≤ v.toInt ∧ v.toInt ≤ 127) (hf : frN [63, 64] (am_f (am_u I (38 + 2 * k) 1 y) (39 + 2 * k) (cp k) v) I') (f1 : I' 63 k = y) (f2 : ∀ q, q ≠ k → I' 63 q = I 63 q) (f3 : ∀ j : Nat, (j : Int) < y.toInt → I' 64 (rb k + j) = v) (f4 : ∀ p, (p < rb k ∨ rb k + y.toInt.toNat ≤ p) → I' 64 p = I 64 p) : InvR I' := by
  intro q hq
  have e1 : I' (38 + 2 * q) = am_f (am_u I (38 + 2 * k) 1 y) (39 + 2 * k) (cp k) v (38 + 2 * q) := hf _ (by simp; omega)
  have e2 : I' (39 + 2 * q) = am_f (am_u I (38 + 2 * k) 1 y) (39 + 2 * k) (cp k) v (39 + 2 * q) := hf _ (by simp; omega)
  rw [e1, e2, f_ne (by omega)]
  by_cases e : q = k
  · subst e
    rw [f1, u_eq]
    refine ⟨rfl, by omega, hy, fun j hj => ?_, fun h6 j hj => ?_⟩
    · rw [f_eq (by omega), f3 j hj]
    · rw [f3 j hj]
      exact hv h6
  · obtain ⟨g1, g2, g3, g4, g5⟩ := h q hq
    rw [f2 q e, u_ne (by omega), f_ne (by omega), u_ne (by omega)]
    have key : ∀ j : Nat, (j : Int) < (I 63 q).toInt → I' 64 (rb q + j) = I 64 (rb q + j) := by
      intro j hj
      apply f4
      by_cases q1 : rb q + j < rb k
      · exact Or.inl q1
      · by_cases q2 : rb k + y.toInt.toNat ≤ rb q + j
        · exact Or.inr q2
        · exfalso
          have := rb_dis (k := k) (q := q) (i := rb q + j - rb k) (j := j) hk hq (by omega) (by omega) (by omega)
          exact e this.1.symm
    refine ⟨g1, g2, g3, fun j hj => ?_, fun h6 j hj => ?_⟩
    · rw [key j hj]; exact g4 j hj
    · rw [key j hj]; exact g5 h6 j hj
theorem Inv.anew {I' : am_I} {y v : Int32} {k : Nat} (h : Inv t I L) (hk : k < 10) (h0 : 0 ≤ y.toInt) (hy : y.toInt ≤ (cp k : Int)) (hv : 6 ≤ k → -128 ≤ v.toInt ∧ v.toInt ≤ 127) (hf : frN [63, 64] (am_f (am_u I (38 + 2 * k) 1 y) (39 + 2 * k) (cp k) v) I') (f1 : I' 63 k = y) (f2 : ∀ q, q ≠ k → I' 63 q = I 63 q) (f3 : ∀ j : Nat, (j : Int) < y.toInt → I' 64 (rb k + j) = v) (f4 : ∀ p, (p < rb k ∨ rb k + y.toInt.toNat ≤ p) → I' 64 p = I 64 p) : Inv t I' L := by
  refine ⟨h.1.anew hk h0 hy hv hf f1 f2 f3 f4, ?_, ?_⟩
  · refine h.2.1.fr ⟨?_, ?_⟩ ?_ ⟨?_, ?_⟩ ?_
    all_goals rw [hf _ (by decide), f_ne (by omega), u_ne (by omega)]
  · have hin : ∀ x, 38 ≤ x → x ≤ 57 → x ∈ exX := by
      intro x h1 h2
      have : x = 38 ∨ x = 39 ∨ x = 40 ∨ x = 41 ∨ x = 42 ∨ x = 43 ∨ x = 44 ∨ x = 45 ∨ x = 46 ∨ x = 47 ∨ x = 48 ∨ x = 49 ∨ x = 50 ∨ x = 51 ∨ x = 52 ∨ x = 53 ∨ x = 54 ∨ x = 55 ∨ x = 56 ∨ x = 57 := by omega
      rcases this with rfl | rfl | rfl | rfl | rfl | rfl | rfl | rfl | rfl | rfl | rfl | rfl | rfl | rfl | rfl | rfl | rfl | rfl | rfl | rfl <;> decide
    refine h.2.2.fr ((((agX.refl I).u (hin _ (by omega) (by omega)) (by omega) (by omega) (by omega)).f (hin _ (by omega) (by omega)) (by omega) (by omega) (by omega)).trans (hf.ag (by decide) (by decide) (by decide) (by decide)))
theorem InvR.put {k j : Nat} {v : Int32} (h : InvR I) (hk : k < 10) (hj : (j : Int) < (I 63 k).toInt) (hv : 6 ≤ k → -128 ≤ v.toInt ∧ v.toInt ≤ 127) : InvR (am_u (am_u I (39 + 2 * k) j v) 64 (rb k + j) v) := by
  intro q hq
  obtain ⟨g1, g2, g3, g4, g5⟩ := h q hq
  obtain ⟨k1, k2, k3, k4, k5⟩ := h k hk
  rw [u_ne (show 38 + 2 * q ≠ 64 by omega), u_ne (show 38 + 2 * q ≠ 39 + 2 * k by omega), u_ne (show 63 ≠ 64 by decide), u_ne (show 63 ≠ 39 + 2 * k by omega), u_ne (show 39 + 2 * q ≠ 64 by omega)]
  have key : ∀ i : Nat, (i : Int) < (I 63 q).toInt → ¬ (q = k ∧ i = j) → am_u (am_u I (39 + 2 * k) j v) 64 (rb k + j) v 64 (rb q + i) = I 64 (rb q + i) := by
    intro i hi hne
    rw [u_nj, u_ne (by omega)]
    intro e
    exact hne (rb_dis hq hk (by omega) (by omega) e)
  refine ⟨g1, g2, g3, fun i hi => ?_, fun h6 i hi => ?_⟩
  · by_cases e : q = k ∧ i = j
    · obtain ⟨rfl, rfl⟩ := e
      rw [u_eq, u_eq]
    · rw [key i hi e]
      by_cases e1 : q = k
      · subst e1
        rw [u_nj (fun e2 => e ⟨rfl, e2⟩)]
        exact g4 i hi
      · rw [u_ne (by omega)]
        exact g4 i hi
  · by_cases e : q = k ∧ i = j
    · obtain ⟨rfl, rfl⟩ := e
      rw [u_eq]
      exact hv h6
    · rw [key i hi e]
      exact g5 h6 i hi
theorem in38 {x : Nat} (h1 : 38 ≤ x) (h2 : x ≤ 57) : x ∈ exX := by
  have : x = 38 ∨ x = 39 ∨ x = 40 ∨ x = 41 ∨ x = 42 ∨ x = 43 ∨ x = 44 ∨ x = 45 ∨ x = 46 ∨ x = 47 ∨ x = 48 ∨ x = 49 ∨ x = 50 ∨ x = 51 ∨ x = 52 ∨ x = 53 ∨ x = 54 ∨ x = 55 ∨ x = 56 ∨ x = 57 := by omega
  rcases this with rfl | rfl | rfl | rfl | rfl | rfl | rfl | rfl | rfl | rfl | rfl | rfl | rfl | rfl | rfl | rfl | rfl | rfl | rfl | rfl <;> decide
theorem Inv.put {k j : Nat} {v : Int32} (h : Inv t I L) (hk : k < 10) (hj : (j : Int) < (I 63 k).toInt) (hv : 6 ≤ k → -128 ≤ v.toInt ∧ v.toInt ≤ 127) : Inv t (am_u (am_u I (39 + 2 * k) j v) 64 (rb k + j) v) L :=
  ⟨h.1.put hk hj hv, (h.2.1.u (by omega)).u (by omega), h.2.2.fr (((agX.refl I).u (in38 (by omega) (by omega)) (by omega) (by omega) (by omega)).u (by decide) (by decide) (by decide) (by decide))⟩
theorem Inv.tear {k : Nat} (h : Inv t I L) (hk : k < 10) : Inv t (am_u (am_u I (38 + 2 * k) 1 (-1)) 63 k (-1)) L := by
  refine ⟨fun q hq => ?_, (h.2.1.u (by omega)).u (by omega), h.2.2.fr (((agX.refl I).u (in38 (by omega) (by omega)) (by omega) (by omega) (by omega)).u (by decide) (by decide) (by decide) (by decide))⟩
  obtain ⟨g1, g2, g3, g4, g5⟩ := h.1 q hq
  rw [u_ne (show 38 + 2 * q ≠ 63 by omega), u_ne (show 39 + 2 * q ≠ 63 by omega), u_ne (show 39 + 2 * q ≠ 38 + 2 * k by omega), u_ne (show 64 ≠ 63 by decide), u_ne (show 64 ≠ 38 + 2 * k by omega)]
  by_cases e : q = k
  · subst e
    rw [u_eq, u_eq]
    refine ⟨rfl, by decide, by have : (-1 : Int32).toInt = -1 := rfl; omega, fun j hj => ?_, fun _ j hj => ?_⟩
    · have : (-1 : Int32).toInt = -1 := rfl
      omega
    · have : (-1 : Int32).toInt = -1 := rfl
      omega
  · rw [u_nj e, u_ne (by omega), u_ne (show 63 ≠ 38 + 2 * k by omega)]
    exact ⟨g1, g2, g3, g4, g5⟩
/-- the order of two changes of different rows -/
theorem u_comm {I : am_I} {a j b k : Nat} {v w : Int32} (h : a ≠ b) : am_u (am_u I a j v) b k w = am_u (am_u I b k w) a j v := by
  funext x y
  unfold am_u
  by_cases h1 : x = b ∧ y = k
  · rw [if_pos h1, if_neg (fun q => h (by rw [← q.1, h1.1])), if_pos h1]
  · rw [if_neg h1]
    by_cases h2 : x = a ∧ y = j
    · rw [if_pos h2, if_pos h2]
    · rw [if_neg h2, if_neg h2, if_neg h1]
theorem pair_row {x y : Int32} (h : Inv t I L) : bm_C G l 1 [.ref 0, .int x, .int y] t I L (pI G l 73 [.ref 61, .int x, .int y]) := by
  refine bm_go (am_ok_all 1 (by decide)) 30 ?_
  refine sp_renewed_r (fun cd => ?_) (fun k hk hx cd => ?_) (fun k hk hx c1 c2 => ?_)
  · refine ⟨_, rfl, ?_⟩
    refine bm_go (am_ok_all 73 (by decide)) 30 ?_
    refine sm_isRow (fun a b => ?_) (fun a => ?_)
    · first | refine And.intro (fun cd => absurd cd (by decide)) (fun _ => ?_) | refine And.intro (fun _ => ?_) (fun cd => absurd cd (by decide)) | refine And.intro (fun cd => ?_) (fun cd => ?_)
      have e : (60 : Int32).toInt = 60 := rfl
      refine And.intro (fun c => ⟨rfl, h⟩) (fun c => ?_)
      omega
    · first | refine And.intro (fun cd => absurd cd (by decide)) (fun _ => ?_) | refine And.intro (fun _ => ?_) (fun cd => absurd cd (by decide)) | refine And.intro (fun cd => ?_) (fun cd => ?_)
      exact ⟨rfl, h⟩
  · refine ⟨_, rfl, ?_⟩
    have hk6 := nI_toInt (n := k) (by omega)
    refine bm_go (am_ok_all 73 (by decide)) 30 ?_
    refine sm_isRow (fun a b => ?_) (fun a => ?_)
    · first | refine And.intro (fun cd => absurd cd (by decide)) (fun _ => ?_) | refine And.intro (fun _ => ?_) (fun cd => absurd cd (by decide)) | refine And.intro (fun cd => ?_) (fun cd => ?_)
      have e : (60 : Int32).toInt = 60 := rfl
      refine And.intro (fun c => ?_) (fun c => ?_)
      · omega
      · refine sm_makes k (by omega) hx (fun c => ?_) (fun c => by omega) (by omega)
        exact ⟨rfl, h.find (by decide) (by decide) 5⟩
    · rw [hx] at a
      omega
  · refine ⟨_, rfl, ?_⟩
    have hk6 := nI_toInt (n := k) (by omega)
    have hcp : cp k = 60 := if_pos hk
    refine bm_go (am_ok_all 73 (by decide)) 30 ?_
    refine sm_isRow (fun a b => ?_) (fun a => ?_)
    · first | refine And.intro (fun cd => absurd cd (by decide)) (fun _ => ?_) | refine And.intro (fun _ => ?_) (fun cd => absurd cd (by decide)) | refine And.intro (fun cd => ?_) (fun cd => ?_)
      have e : (60 : Int32).toInt = 60 := rfl
      refine And.intro (fun c => ?_) (fun c => ?_)
      · omega
      · refine sm_makes k (by omega) hx (fun c => by omega) (fun c I' f1 f2 f3 f4 f5 => ?_) (by omega)
        refine ⟨rfl, h.anew (by omega) c1 (by omega) (fun q => by omega) f1 f2 (fun q hq => ?_) f4 (fun p hp => ?_)⟩
        · rw [f3 q hq, f_ne (by omega), u_ne (by omega)]
        · rw [f5 p hp, f_ne (by omega), u_ne (by omega)]
    · rw [hx] at a
      omega
theorem pair_text {x y : Int32} (h : Inv t I L) : bm_C G l 7 [.ref 0, .int x, .int y] t I L (pI G l 80 [.ref 61, .int x, .int y]) := by
  have e32 : (32 : Int32).toInt = 32 := rfl
  have e : (80 : Int32).toInt = 80 := rfl
  refine bm_go (am_ok_all 7 (by decide)) 30 ?_
  refine sp_renewed_t (fun cd => ?_) (fun k hk hx cd => ?_) (fun k hk hx c1 c2 => ?_)
  · refine ⟨_, rfl, ?_⟩
    refine bm_go (am_ok_all 80 (by decide)) 30 ?_
    refine sm_isText (fun a b => ?_) (fun a => ?_)
    · first | refine And.intro (fun cd => absurd cd (by decide)) (fun _ => ?_) | refine And.intro (fun _ => ?_) (fun cd => absurd cd (by decide)) | refine And.intro (fun cd => ?_) (fun cd => ?_)
      refine And.intro (fun c => ⟨rfl, h⟩) (fun c => ?_)
      omega
    · first | refine And.intro (fun cd => absurd cd (by decide)) (fun _ => ?_) | refine And.intro (fun _ => ?_) (fun cd => absurd cd (by decide)) | refine And.intro (fun cd => ?_) (fun cd => ?_)
      exact ⟨rfl, h⟩
  · refine ⟨_, rfl, ?_⟩
    have hk6 := nI_toInt (n := k) (by omega)
    refine bm_go (am_ok_all 80 (by decide)) 30 ?_
    refine sm_isText (fun a b => ?_) (fun a => ?_)
    · first | refine And.intro (fun cd => absurd cd (by decide)) (fun _ => ?_) | refine And.intro (fun _ => ?_) (fun cd => absurd cd (by decide)) | refine And.intro (fun cd => ?_) (fun cd => ?_)
      refine And.intro (fun c => ?_) (fun c => ?_)
      · omega
      · have hcp : cp (6 + k) = 80 := if_neg (by omega)
        refine sm_makes (6 + k) (by omega) (by rw [hx, k6, nI_add]) (fun c => ?_) (fun c => by omega) (by omega)
        exact ⟨rfl, h.find (by decide) (by decide) 5⟩
    · rw [hx] at a
      omega
  · refine ⟨_, rfl, ?_⟩
    have hk6 := nI_toInt (n := k) (by omega)
    have hcp : cp (6 + k) = 80 := if_neg (by omega)
    refine bm_go (am_ok_all 80 (by decide)) 30 ?_
    refine sm_isText (fun a b => ?_) (fun a => ?_)
    · first | refine And.intro (fun cd => absurd cd (by decide)) (fun _ => ?_) | refine And.intro (fun _ => ?_) (fun cd => absurd cd (by decide)) | refine And.intro (fun cd => ?_) (fun cd => ?_)
      refine And.intro (fun c => ?_) (fun c => ?_)
      · omega
      · refine sm_makes (6 + k) (by omega) (by rw [hx, k6, nI_add]) (fun c => by omega) (fun c I' f1 f2 f3 f4 f5 => ?_) (by omega)
        refine ⟨rfl, h.anew (by omega) c1 (by omega) (fun q => by omega) f1 f2 (fun q hq => ?_) f4 (fun p hp => ?_)⟩
        · rw [f3 q hq, f_ne (by omega), u_ne (by omega)]
        · rw [f5 p hp, f_ne (by omega), u_ne (by omega)]
    · rw [hx] at a
      omega
theorem fd {I : am_I} {f : Nat} {v w : Int32} {x : Nat} (h1 : x ≠ 37) (h2 : x ≠ 36) : am_u (am_u I 36 3 v) 37 f w x = I x := by rw [u_ne h1, u_ne h2]
theorem pair_lay {x y v : Int32} (h : Inv t I L) : bm_C G l 2 [.ref 0, .int x, .int y, .int v] t I L (pI G l 75 [.ref 61, .int x, .int y, .int v]) := by
  have hb := fun k hk => h.1.b6 (k := k) hk
  refine sp_lay (fun k hk => by rw [(hb k hk).1]; exact (hb k hk).2.2) (fun cd => ?_) (fun k hk hx cd => ?_) (fun k hk hx c1 c2 => ?_) (fun k hk hx c1 c2 => ?_)
  · refine ⟨_, rfl, sm_lay (fun k hk => (hb k hk).2) (fun c => ⟨rfl, h⟩) (fun k hk hx c => ?_) (fun k hk hx c1 c2 => ?_) (fun k hk hx c1 c2 => ?_)⟩
    all_goals (have := nI_toInt (n := k) (by omega); rw [hx] at cd; omega)
  · have hk6 := nI_toInt (n := k) (by omega)
    rw [(hb k hk).1] at cd
    refine ⟨_, rfl, sm_lay (fun k hk => ?_) (fun c => ?_) (fun k2 hk2 hx2 c => ?_) (fun k2 hk2 hx2 c1 c2 => ?_) (fun k2 hk2 hx2 c1 c2 => ?_)⟩
    · rw [fd (by decide) (by decide)]; exact (hb k hk).2
    · rw [hx] at c; omega
    · exact ⟨rfl, h.find (by decide) (by decide) 1⟩
    · rw [fd (by decide) (by decide)] at c1
      have := nI_toInt (n := k2) (by omega)
      have : k2 = k := by rw [hx2] at hx; rw [hx] at this; omega
      subst this
      omega
    · rw [fd (by decide) (by decide)] at c2
      have := nI_toInt (n := k2) (by omega)
      have : k2 = k := by rw [hx2] at hx; rw [hx] at this; omega
      subst this
      omega
  · have hk6 := nI_toInt (n := k) (by omega)
    rw [(hb k hk).1] at c1 c2
    have ek : ∀ k2, k2 < 6 → x = nI k2 → k2 = k := fun k2 hk2 hx2 => by
      have := nI_toInt (n := k2) (by omega)
      rw [← hx2, hx] at this
      omega
    refine ⟨_, rfl, sm_lay (fun k hk => ?_) (fun c => ?_) (fun k2 hk2 hx2 c => ?_) (fun k2 hk2 hx2 c3 c4 => ?_) (fun k2 hk2 hx2 c3 c4 => ?_)⟩
    · rw [fd (by decide) (by decide)]; exact (hb k hk).2
    · rw [hx] at c; omega
    · obtain rfl := ek k2 hk2 hx2
      rw [fd (by decide) (by decide)] at c
      omega
    · exact ⟨rfl, h.find (by decide) (by decide) 2⟩
    · obtain rfl := ek k2 hk2 hx2
      rw [fd (by decide) (by decide)] at c4
      omega
  · have hk6 := nI_toInt (n := k) (by omega)
    rw [(hb k hk).1] at c2
    have ek : ∀ k2, k2 < 6 → x = nI k2 → k2 = k := fun k2 hk2 hx2 => by
      have := nI_toInt (n := k2) (by omega)
      rw [← hx2, hx] at this
      omega
    have e63 : (am_u (am_u I (39 + 2 * k) y.toInt.toNat v) 36 0 (I (39 + 2 * k) y.toInt.toNat)) 63 = I 63 := by rw [u_ne (by decide), u_ne (by omega)]
    have e64 : (am_u (am_u I (39 + 2 * k) y.toInt.toNat v) 36 0 (I (39 + 2 * k) y.toInt.toNat)) 64 = I 64 := by rw [u_ne (by decide), u_ne (by omega)]
    refine ⟨_, rfl, sm_lay (fun k hk => ?_) (fun c => ?_) (fun k2 hk2 hx2 c => ?_) (fun k2 hk2 hx2 c3 c4 => ?_) (fun k2 hk2 hx2 c3 c4 => ?_)⟩
    · rw [e63]; exact (hb k hk).2
    · rw [hx] at c; omega
    · obtain rfl := ek k2 hk2 hx2
      rw [e63] at c
      omega
    · obtain rfl := ek k2 hk2 hx2
      rw [e63] at c4
      omega
    · obtain rfl := ek k2 hk2 hx2
      refine ⟨rfl, ?_⟩
      have hj : ((y.toInt.toNat : Nat) : Int) < (I 63 k2).toInt := by omega
      have hp := (h.put (k := k2) (j := y.toInt.toNat) (v := v) (by omega) hj (fun q => by omega)).tell (I 64 (rb k2 + y.toInt.toNat))
      rw [u_comm (show 64 ≠ 36 by decide)] at hp
      rw [e64, (h.1 k2 (by omega)).2.2.2.1 _ hj]
      exact hp
theorem pair_at {x y : Int32} (h : Inv t I L) : bm_C G l 3 [.ref 0, .int x, .int y] t I L (pI G l 76 [.ref 61, .int x, .int y]) := by
  have hb := fun k hk => h.1.b6 (k := k) hk
  have eK : ∀ k, k < 6 → x = nI k → ∀ k2, k2 < 6 → x = nI k2 → k2 = k := fun k hk hx k2 hk2 hx2 => by
    have h1 := nI_toInt (n := k2) (by omega)
    have h2 := nI_toInt (n := k) (by omega)
    rw [← hx2, hx] at h1
    omega
  refine sp_at (fun k hk => by rw [(hb k hk).1]; exact (hb k hk).2.2) (fun cd => ?_) (fun k hk hx cd => ?_) (fun k hk hx c1 c2 => ?_) (fun k hk hx c1 c2 => ?_)
  · refine ⟨_, rfl, sm_at (fun k hk => (hb k hk).2) (fun c => ⟨rfl, h⟩) (fun k hk hx c => ?_) (fun k hk hx c1 c2 => ?_) (fun k hk hx c1 c2 => ?_)⟩
    all_goals (have := nI_toInt (n := k) (by omega); rw [hx] at cd; omega)
  · have hk6 := nI_toInt (n := k) (by omega)
    rw [(hb k hk).1] at cd
    refine ⟨_, rfl, sm_at (fun k hk => ?_) (fun c => ?_) (fun k2 hk2 hx2 c => ?_) (fun k2 hk2 hx2 c1 c2 => ?_) (fun k2 hk2 hx2 c1 c2 => ?_)⟩
    · rw [fd (by decide) (by decide)]; exact (hb k hk).2
    · rw [hx] at c; omega
    · exact ⟨rfl, h.find (by decide) (by decide) 1⟩
    · obtain rfl := eK k hk hx k2 hk2 hx2
      rw [fd (by decide) (by decide)] at c1
      omega
    · obtain rfl := eK k hk hx k2 hk2 hx2
      rw [fd (by decide) (by decide)] at c2
      omega
  · have hk6 := nI_toInt (n := k) (by omega)
    rw [(hb k hk).1] at c1 c2
    refine ⟨_, rfl, sm_at (fun k hk => ?_) (fun c => ?_) (fun k2 hk2 hx2 c => ?_) (fun k2 hk2 hx2 c3 c4 => ?_) (fun k2 hk2 hx2 c3 c4 => ?_)⟩
    · rw [fd (by decide) (by decide)]; exact (hb k hk).2
    · rw [hx] at c; omega
    · obtain rfl := eK k hk hx k2 hk2 hx2
      rw [fd (by decide) (by decide)] at c
      omega
    · exact ⟨rfl, h.find (by decide) (by decide) 2⟩
    · obtain rfl := eK k hk hx k2 hk2 hx2
      rw [fd (by decide) (by decide)] at c4
      omega
  · have hk6 := nI_toInt (n := k) (by omega)
    rw [(hb k hk).1] at c2
    have e63 : (am_u I 36 0 (I (39 + 2 * k) y.toInt.toNat)) 63 = I 63 := by rw [u_ne (by decide)]
    have e64 : (am_u I 36 0 (I (39 + 2 * k) y.toInt.toNat)) 64 = I 64 := by rw [u_ne (by decide)]
    refine ⟨_, rfl, sm_at (fun k hk => ?_) (fun c => ?_) (fun k2 hk2 hx2 c => ?_) (fun k2 hk2 hx2 c3 c4 => ?_) (fun k2 hk2 hx2 c3 c4 => ?_)⟩
    · rw [e63]; exact (hb k hk).2
    · rw [hx] at c; omega
    · obtain rfl := eK k hk hx k2 hk2 hx2
      rw [e63] at c
      omega
    · obtain rfl := eK k hk hx k2 hk2 hx2
      rw [e63] at c4
      omega
    · obtain rfl := eK k hk hx k2 hk2 hx2
      refine ⟨rfl, ?_⟩
      have hj : ((y.toInt.toNat : Nat) : Int) < (I 63 k2).toInt := by omega
      rw [e64, (h.1 k2 (by omega)).2.2.2.1 _ hj]
      exact h.tell _
theorem pair_tear {x : Int32} (h : Inv t I L) : bm_C G l 4 [.ref 0, .int x] t I L (pI G l 77 [.ref 61, .int x]) := by
  have hb := fun k hk => h.1.b6 (k := k) hk
  have eK : ∀ k, k < 6 → x = nI k → ∀ k2, k2 < 6 → x = nI k2 → k2 = k := fun k hk hx k2 hk2 hx2 => by
    have h1 := nI_toInt (n := k2) (by omega)
    have h2 := nI_toInt (n := k) (by omega)
    rw [← hx2, hx] at h1
    omega
  refine sp_tear (fun cd => ?_) (fun k hk hx cd => ?_) (fun k hk hx c1 => ?_)
  · refine ⟨_, rfl, sm_tear (fun c => ⟨rfl, h⟩) (fun k hk hx c => ?_) (fun k hk hx c1 => ?_)⟩
    all_goals (have := nI_toInt (n := k) (by omega); rw [hx] at cd; omega)
  · have hk6 := nI_toInt (n := k) (by omega)
    rw [(hb k hk).1] at cd
    refine ⟨_, rfl, sm_tear (fun c => ?_) (fun k2 hk2 hx2 c => ?_) (fun k2 hk2 hx2 c1 => ?_)⟩
    · rw [hx] at c; omega
    · exact ⟨rfl, h.find (by decide) (by decide) 1⟩
    · obtain rfl := eK k hk hx k2 hk2 hx2
      rw [fd (by decide) (by decide)] at c1
      omega
  · have hk6 := nI_toInt (n := k) (by omega)
    rw [(hb k hk).1] at c1
    have e63 : (am_u I (38 + 2 * k) 1 (-1)) 63 = I 63 := by rw [u_ne (by omega)]
    refine ⟨_, rfl, sm_tear (fun c => ?_) (fun k2 hk2 hx2 c => ?_) (fun k2 hk2 hx2 c3 => ?_)⟩
    · rw [hx] at c; omega
    · obtain rfl := eK k hk hx k2 hk2 hx2
      rw [e63] at c
      omega
    · obtain rfl := eK k hk hx k2 hk2 hx2
      exact ⟨rfl, h.tear (by omega)⟩
theorem i8b (v : Int32) : -128 ≤ v.toInt8.toInt32.toInt ∧ v.toInt8.toInt32.toInt ≤ 127 := by
  have e : v.toInt8.toInt32.toInt = v.toInt8.toInt := Int8.toInt_toInt32 _
  rw [e]
  have h1 := v.toInt8.le_toInt
  have h2 := v.toInt8.toInt_le
  have : Int8.minValue.toInt = -128 := rfl
  have : Int8.maxValue.toInt = 127 := rfl
  omega
theorem pair_put {x y v : Int32} (h : Inv t I L) : bm_C G l 8 [.ref 0, .int x, .int y, .int v] t I L (pI G l 81 [.ref 61, .int x, .int y, .int v]) := by
  have hb := fun k hk => h.1.b4 (k := k) hk
  have eK : ∀ k, k < 4 → x = nI k → ∀ k2, k2 < 4 → x = nI k2 → k2 = k := fun k hk hx k2 hk2 hx2 => by
    have h1 := nI_toInt (n := k2) (by omega)
    have h2 := nI_toInt (n := k) (by omega)
    rw [← hx2, hx] at h1
    omega
  refine sp_put (fun k hk => by rw [(hb k hk).1]; exact (hb k hk).2.2) (fun cd => ?_) (fun k hk hx cd => ?_) (fun k hk hx c1 c2 => ?_) (fun k hk hx c1 c2 => ?_)
  · refine ⟨_, rfl, sm_put (fun k hk => (hb k hk).2) (fun c => ⟨rfl, h⟩) (fun k hk hx c => ?_) (fun k hk hx c1 c2 => ?_) (fun k hk hx c1 c2 => ?_)⟩
    all_goals (have := nI_toInt (n := k) (by omega); rw [hx] at cd; omega)
  · have hk6 := nI_toInt (n := k) (by omega)
    rw [(hb k hk).1] at cd
    refine ⟨_, rfl, sm_put (fun k hk => ?_) (fun c => ?_) (fun k2 hk2 hx2 c => ?_) (fun k2 hk2 hx2 c1 c2 => ?_) (fun k2 hk2 hx2 c1 c2 => ?_)⟩
    · rw [fd (by decide) (by decide)]; exact (hb k hk).2
    · rw [hx] at c; omega
    · exact ⟨rfl, h.find (by decide) (by decide) 1⟩
    · obtain rfl := eK k hk hx k2 hk2 hx2
      rw [fd (by decide) (by decide)] at c1
      omega
    · obtain rfl := eK k hk hx k2 hk2 hx2
      rw [fd (by decide) (by decide)] at c2
      omega
  · have hk6 := nI_toInt (n := k) (by omega)
    rw [(hb k hk).1] at c1 c2
    refine ⟨_, rfl, sm_put (fun k hk => ?_) (fun c => ?_) (fun k2 hk2 hx2 c => ?_) (fun k2 hk2 hx2 c3 c4 => ?_) (fun k2 hk2 hx2 c3 c4 => ?_)⟩
    · rw [fd (by decide) (by decide)]; exact (hb k hk).2
    · rw [hx] at c; omega
    · obtain rfl := eK k hk hx k2 hk2 hx2
      rw [fd (by decide) (by decide)] at c
      omega
    · exact ⟨rfl, h.find (by decide) (by decide) 2⟩
    · obtain rfl := eK k hk hx k2 hk2 hx2
      rw [fd (by decide) (by decide)] at c4
      omega
  · have hk6 := nI_toInt (n := k) (by omega)
    rw [(hb k hk).1] at c2
    have hj : ((y.toInt.toNat : Nat) : Int) < (I 63 (6 + k)).toInt := by omega
    have e63 : (am_u I (39 + 2 * (6 + k)) y.toInt.toNat v.toInt8.toInt32) 63 = I 63 := by rw [u_ne (by omega)]
    have e64 : (am_u I (39 + 2 * (6 + k)) y.toInt.toNat v.toInt8.toInt32) 64 = I 64 := by rw [u_ne (by omega)]
    rw [(h.1 (6 + k) (by omega)).2.2.2.1 _ hj]
    refine ⟨_, rfl, sm_put (fun k hk => ?_) (fun c => ?_) (fun k2 hk2 hx2 c => ?_) (fun k2 hk2 hx2 c3 c4 => ?_) (fun k2 hk2 hx2 c3 c4 => ?_)⟩
    · rw [e63]; exact (hb k hk).2
    · rw [hx] at c; omega
    · obtain rfl := eK k hk hx k2 hk2 hx2
      rw [e63] at c
      omega
    · obtain rfl := eK k hk hx k2 hk2 hx2
      rw [e63] at c4
      omega
    · obtain rfl := eK k hk hx k2 hk2 hx2
      rw [e64]
      exact ⟨rfl, h.put (by omega) hj (fun _ => i8b v)⟩
end PP

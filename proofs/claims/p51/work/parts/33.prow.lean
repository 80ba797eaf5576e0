/-! calls on rows and texts: row, lay, at, tear, text, put -/
theorem of_nn {y : Int32} (h : 0 ≤ y.toInt) : y = nI y.toInt.toNat := Int32.toInt_inj.mp (by
  have := y.toInt_lt
  rw [nI_toInt (by omega)]
  omega)
theorem ix_add {b : Nat} {y : Int32} (h : 0 ≤ y.toInt) (hb : b + y.toInt.toNat < 2 ^ 31) : (nI b + y).toInt = ((b + y.toInt.toNat : Nat) : Int) := by
  have hy := of_nn h
  generalize y.toInt.toNat = j at *
  subst hy
  rw [nI_add, nI_toInt hb]
theorem rb_le {k : Nat} (hk : k < 10) : rb k + cp k ≤ 680 := by
  unfold rb cp
  split <;> omega
theorem rb_dis {k q i j : Nat} (hk : k < 10) (hq : q < 10) (hi : i < cp k) (hj : j < cp q) (h : rb k + i = rb q + j) : k = q ∧ i = j := by
  unfold rb cp at *
  split at hi <;> split at hj <;> simp only [*, if_true, if_false] at h <;> omega
section PR
variable {G : am_G} {l : Launch} {t : am_T} {I : am_I} {L : am_J} {Q : bm_P}
/-! the class -/
theorem sp_renewed_r {x y v : Int32} (hbad : (x.toInt < 0 ∨ 6 ≤ x.toInt ∨ 60 < y.toInt) → Q (some (.int (-1))) t I L) (hneg : ∀ k, k < 6 → x = nI k → y.toInt < 0 → Q (some (.int (-3))) t (am_u (am_u I 36 3 5) 37 5 (I 37 5 + 1)) L) (hok : ∀ k, k < 6 → x = nI k → 0 ≤ y.toInt → y.toInt ≤ 60 → Q (some (.int y)) t (am_f (am_u I (38 + 2 * k) 1 y) (39 + 2 * k) (cp k) v) L) : bm_C G l 55 [.ref 0, .ref 1, .int x, .int y, .int v] t I L Q := by
  have e : (Int32.ofNat 60).toInt = 60 := rfl
  refine bm_go (am_ok_all 55 (by decide)) 40 ?_
  refine sp_picked_r x (fun cd => hbad (by omega)) (fun k hk hx => ?_)
  match k, hk with
  | 0, _ =>
    refine And.intro (fun cd => ?_) (fun cd => ?_)
    · have cd : y.toInt ≤ (Int32.ofNat 60).toInt := cd
      refine And.intro (fun c2 => ?_) (fun c2 => ?_)
      · refine sp_renew 0 (by decide) (show y.toInt ≤ 60 by omega) ?_
        exact hok 0 (by decide) hx (by omega) (by omega)
      · refine sp_found 5 rfl (by decide) ?_
        exact hneg 0 (by decide) hx (by omega)
    · have cd : (Int32.ofNat 60).toInt < y.toInt := cd
      exact hbad (by omega)
  | 1, _ =>
    refine And.intro (fun cd => ?_) (fun cd => ?_)
    · have cd : y.toInt ≤ (Int32.ofNat 60).toInt := cd
      refine And.intro (fun c2 => ?_) (fun c2 => ?_)
      · refine sp_renew 1 (by decide) (show y.toInt ≤ 60 by omega) ?_
        exact hok 1 (by decide) hx (by omega) (by omega)
      · refine sp_found 5 rfl (by decide) ?_
        exact hneg 1 (by decide) hx (by omega)
    · have cd : (Int32.ofNat 60).toInt < y.toInt := cd
      exact hbad (by omega)
  | 2, _ =>
    refine And.intro (fun cd => ?_) (fun cd => ?_)
    · have cd : y.toInt ≤ (Int32.ofNat 60).toInt := cd
      refine And.intro (fun c2 => ?_) (fun c2 => ?_)
      · refine sp_renew 2 (by decide) (show y.toInt ≤ 60 by omega) ?_
        exact hok 2 (by decide) hx (by omega) (by omega)
      · refine sp_found 5 rfl (by decide) ?_
        exact hneg 2 (by decide) hx (by omega)
    · have cd : (Int32.ofNat 60).toInt < y.toInt := cd
      exact hbad (by omega)
  | 3, _ =>
    refine And.intro (fun cd => ?_) (fun cd => ?_)
    · have cd : y.toInt ≤ (Int32.ofNat 60).toInt := cd
      refine And.intro (fun c2 => ?_) (fun c2 => ?_)
      · refine sp_renew 3 (by decide) (show y.toInt ≤ 60 by omega) ?_
        exact hok 3 (by decide) hx (by omega) (by omega)
      · refine sp_found 5 rfl (by decide) ?_
        exact hneg 3 (by decide) hx (by omega)
    · have cd : (Int32.ofNat 60).toInt < y.toInt := cd
      exact hbad (by omega)
  | 4, _ =>
    refine And.intro (fun cd => ?_) (fun cd => ?_)
    · have cd : y.toInt ≤ (Int32.ofNat 60).toInt := cd
      refine And.intro (fun c2 => ?_) (fun c2 => ?_)
      · refine sp_renew 4 (by decide) (show y.toInt ≤ 60 by omega) ?_
        exact hok 4 (by decide) hx (by omega) (by omega)
      · refine sp_found 5 rfl (by decide) ?_
        exact hneg 4 (by decide) hx (by omega)
    · have cd : (Int32.ofNat 60).toInt < y.toInt := cd
      exact hbad (by omega)
  | 5, _ =>
    refine And.intro (fun cd => ?_) (fun cd => ?_)
    · have cd : y.toInt ≤ (Int32.ofNat 60).toInt := cd
      refine And.intro (fun c2 => ?_) (fun c2 => ?_)
      · refine sp_renew 5 (by decide) (show y.toInt ≤ 60 by omega) ?_
        exact hok 5 (by decide) hx (by omega) (by omega)
      · refine sp_found 5 rfl (by decide) ?_
        exact hneg 5 (by decide) hx (by omega)
    · have cd : (Int32.ofNat 60).toInt < y.toInt := cd
      exact hbad (by omega)
theorem sp_renewed_t {x y v : Int32} (hbad : (x.toInt < 0 ∨ 4 ≤ x.toInt ∨ 80 < y.toInt) → Q (some (.int (-1))) t I L) (hneg : ∀ k, k < 4 → x = nI k → y.toInt < 0 → Q (some (.int (-3))) t (am_u (am_u I 36 3 5) 37 5 (I 37 5 + 1)) L) (hok : ∀ k, k < 4 → x = nI k → 0 ≤ y.toInt → y.toInt ≤ 80 → Q (some (.int y)) t (am_f (am_u I (38 + 2 * (6 + k)) 1 y) (39 + 2 * (6 + k)) (cp (6 + k)) v) L) : bm_C G l 55 [.ref 0, .ref 2, .int x, .int y, .int v] t I L Q := by
  have e : (Int32.ofNat 80).toInt = 80 := rfl
  refine bm_go (am_ok_all 55 (by decide)) 40 ?_
  refine sp_picked_t x (fun cd => hbad (by omega)) (fun k hk hx => ?_)
  match k, hk with
  | 0, _ =>
    refine And.intro (fun cd => ?_) (fun cd => ?_)
    · have cd : y.toInt ≤ (Int32.ofNat 80).toInt := cd
      refine And.intro (fun c2 => ?_) (fun c2 => ?_)
      · refine sp_renew (6 + 0) (by decide) (show y.toInt ≤ 80 by omega) ?_
        exact hok 0 (by decide) hx (by omega) (by omega)
      · refine sp_found 5 rfl (by decide) ?_
        exact hneg 0 (by decide) hx (by omega)
    · have cd : (Int32.ofNat 80).toInt < y.toInt := cd
      exact hbad (by omega)
  | 1, _ =>
    refine And.intro (fun cd => ?_) (fun cd => ?_)
    · have cd : y.toInt ≤ (Int32.ofNat 80).toInt := cd
      refine And.intro (fun c2 => ?_) (fun c2 => ?_)
      · refine sp_renew (6 + 1) (by decide) (show y.toInt ≤ 80 by omega) ?_
        exact hok 1 (by decide) hx (by omega) (by omega)
      · refine sp_found 5 rfl (by decide) ?_
        exact hneg 1 (by decide) hx (by omega)
    · have cd : (Int32.ofNat 80).toInt < y.toInt := cd
      exact hbad (by omega)
  | 2, _ =>
    refine And.intro (fun cd => ?_) (fun cd => ?_)
    · have cd : y.toInt ≤ (Int32.ofNat 80).toInt := cd
      refine And.intro (fun c2 => ?_) (fun c2 => ?_)
      · refine sp_renew (6 + 2) (by decide) (show y.toInt ≤ 80 by omega) ?_
        exact hok 2 (by decide) hx (by omega) (by omega)
      · refine sp_found 5 rfl (by decide) ?_
        exact hneg 2 (by decide) hx (by omega)
    · have cd : (Int32.ofNat 80).toInt < y.toInt := cd
      exact hbad (by omega)
  | 3, _ =>
    refine And.intro (fun cd => ?_) (fun cd => ?_)
    · have cd : y.toInt ≤ (Int32.ofNat 80).toInt := cd
      refine And.intro (fun c2 => ?_) (fun c2 => ?_)
      · refine sp_renew (6 + 3) (by decide) (show y.toInt ≤ 80 by omega) ?_
        exact hok 3 (by decide) hx (by omega) (by omega)
      · refine sp_found 5 rfl (by decide) ?_
        exact hneg 3 (by decide) hx (by omega)
    · have cd : (Int32.ofNat 80).toInt < y.toInt := cd
      exact hbad (by omega)
theorem sp_at {x y : Int32} (hs : ∀ k, k < 6 → (I (38 + 2 * k) 1).toInt ≤ 60) (hbad : (x.toInt < 0 ∨ 6 ≤ x.toInt) → Q (some (.int (-1))) t I L) (h1 : ∀ k, k < 6 → x = nI k → (I (38 + 2 * k) 1).toInt < 0 → Q (some (.int (-3))) t (am_u (am_u I 36 3 1) 37 1 (I 37 1 + 1)) L) (h2 : ∀ k, k < 6 → x = nI k → 0 ≤ (I (38 + 2 * k) 1).toInt → (y.toInt < 0 ∨ (I (38 + 2 * k) 1).toInt ≤ y.toInt) → Q (some (.int (-3))) t (am_u (am_u I 36 3 2) 37 2 (I 37 2 + 1)) L)
    (h0 : ∀ k, k < 6 → x = nI k → 0 ≤ y.toInt → y.toInt < (I (38 + 2 * k) 1).toInt → Q (some (.int 1)) t (am_u I 36 0 (I (39 + 2 * k) y.toInt.toNat)) L) : bm_C G l 3 [.ref 0, .int x, .int y] t I L Q := by
  refine bm_go (am_ok_all 3 (by decide)) 40 ?_
  refine sp_picked_r x (fun cd => ?_) (fun k hk hx => ?_)
  · refine sp_refAtNull ?_
    exact hbad cd
  match k, hk with
  | 0, _ =>
    refine sp_refAt 0 (by decide) (fun cd => ?_) (fun c1 c2 => ?_) (fun c1 c2 => ?_)
    · first | refine And.intro (fun cd => absurd cd (by decide)) (fun _ => ?_) | refine And.intro (fun _ => ?_) (fun cd => absurd cd (by decide)) | refine And.intro (fun cd => ?_) (fun cd => ?_)
      exact h1 0 (by decide) hx cd
    · first | refine And.intro (fun cd => absurd cd (by decide)) (fun _ => ?_) | refine And.intro (fun _ => ?_) (fun cd => absurd cd (by decide)) | refine And.intro (fun cd => ?_) (fun cd => ?_)
      exact h2 0 (by decide) hx c1 c2
    · first | refine And.intro (fun cd => absurd cd (by decide)) (fun _ => ?_) | refine And.intro (fun _ => ?_) (fun cd => absurd cd (by decide)) | refine And.intro (fun cd => ?_) (fun cd => ?_)
      refine sp_item 0 (by decide) (hs 0 (by decide)) ?_
      refine sp_besides ?_
      have := h0 0 (by decide) hx c1 c2
      unfold itm
      rw [if_pos ⟨c1, c2⟩]
      exact this
  | 1, _ =>
    refine sp_refAt 1 (by decide) (fun cd => ?_) (fun c1 c2 => ?_) (fun c1 c2 => ?_)
    · first | refine And.intro (fun cd => absurd cd (by decide)) (fun _ => ?_) | refine And.intro (fun _ => ?_) (fun cd => absurd cd (by decide)) | refine And.intro (fun cd => ?_) (fun cd => ?_)
      exact h1 1 (by decide) hx cd
    · first | refine And.intro (fun cd => absurd cd (by decide)) (fun _ => ?_) | refine And.intro (fun _ => ?_) (fun cd => absurd cd (by decide)) | refine And.intro (fun cd => ?_) (fun cd => ?_)
      exact h2 1 (by decide) hx c1 c2
    · first | refine And.intro (fun cd => absurd cd (by decide)) (fun _ => ?_) | refine And.intro (fun _ => ?_) (fun cd => absurd cd (by decide)) | refine And.intro (fun cd => ?_) (fun cd => ?_)
      refine sp_item 1 (by decide) (hs 1 (by decide)) ?_
      refine sp_besides ?_
      have := h0 1 (by decide) hx c1 c2
      unfold itm
      rw [if_pos ⟨c1, c2⟩]
      exact this
  | 2, _ =>
    refine sp_refAt 2 (by decide) (fun cd => ?_) (fun c1 c2 => ?_) (fun c1 c2 => ?_)
    · first | refine And.intro (fun cd => absurd cd (by decide)) (fun _ => ?_) | refine And.intro (fun _ => ?_) (fun cd => absurd cd (by decide)) | refine And.intro (fun cd => ?_) (fun cd => ?_)
      exact h1 2 (by decide) hx cd
    · first | refine And.intro (fun cd => absurd cd (by decide)) (fun _ => ?_) | refine And.intro (fun _ => ?_) (fun cd => absurd cd (by decide)) | refine And.intro (fun cd => ?_) (fun cd => ?_)
      exact h2 2 (by decide) hx c1 c2
    · first | refine And.intro (fun cd => absurd cd (by decide)) (fun _ => ?_) | refine And.intro (fun _ => ?_) (fun cd => absurd cd (by decide)) | refine And.intro (fun cd => ?_) (fun cd => ?_)
      refine sp_item 2 (by decide) (hs 2 (by decide)) ?_
      refine sp_besides ?_
      have := h0 2 (by decide) hx c1 c2
      unfold itm
      rw [if_pos ⟨c1, c2⟩]
      exact this
  | 3, _ =>
    refine sp_refAt 3 (by decide) (fun cd => ?_) (fun c1 c2 => ?_) (fun c1 c2 => ?_)
    · first | refine And.intro (fun cd => absurd cd (by decide)) (fun _ => ?_) | refine And.intro (fun _ => ?_) (fun cd => absurd cd (by decide)) | refine And.intro (fun cd => ?_) (fun cd => ?_)
      exact h1 3 (by decide) hx cd
    · first | refine And.intro (fun cd => absurd cd (by decide)) (fun _ => ?_) | refine And.intro (fun _ => ?_) (fun cd => absurd cd (by decide)) | refine And.intro (fun cd => ?_) (fun cd => ?_)
      exact h2 3 (by decide) hx c1 c2
    · first | refine And.intro (fun cd => absurd cd (by decide)) (fun _ => ?_) | refine And.intro (fun _ => ?_) (fun cd => absurd cd (by decide)) | refine And.intro (fun cd => ?_) (fun cd => ?_)
      refine sp_item 3 (by decide) (hs 3 (by decide)) ?_
      refine sp_besides ?_
      have := h0 3 (by decide) hx c1 c2
      unfold itm
      rw [if_pos ⟨c1, c2⟩]
      exact this
  | 4, _ =>
    refine sp_refAt 4 (by decide) (fun cd => ?_) (fun c1 c2 => ?_) (fun c1 c2 => ?_)
    · first | refine And.intro (fun cd => absurd cd (by decide)) (fun _ => ?_) | refine And.intro (fun _ => ?_) (fun cd => absurd cd (by decide)) | refine And.intro (fun cd => ?_) (fun cd => ?_)
      exact h1 4 (by decide) hx cd
    · first | refine And.intro (fun cd => absurd cd (by decide)) (fun _ => ?_) | refine And.intro (fun _ => ?_) (fun cd => absurd cd (by decide)) | refine And.intro (fun cd => ?_) (fun cd => ?_)
      exact h2 4 (by decide) hx c1 c2
    · first | refine And.intro (fun cd => absurd cd (by decide)) (fun _ => ?_) | refine And.intro (fun _ => ?_) (fun cd => absurd cd (by decide)) | refine And.intro (fun cd => ?_) (fun cd => ?_)
      refine sp_item 4 (by decide) (hs 4 (by decide)) ?_
      refine sp_besides ?_
      have := h0 4 (by decide) hx c1 c2
      unfold itm
      rw [if_pos ⟨c1, c2⟩]
      exact this
  | 5, _ =>
    refine sp_refAt 5 (by decide) (fun cd => ?_) (fun c1 c2 => ?_) (fun c1 c2 => ?_)
    · first | refine And.intro (fun cd => absurd cd (by decide)) (fun _ => ?_) | refine And.intro (fun _ => ?_) (fun cd => absurd cd (by decide)) | refine And.intro (fun cd => ?_) (fun cd => ?_)
      exact h1 5 (by decide) hx cd
    · first | refine And.intro (fun cd => absurd cd (by decide)) (fun _ => ?_) | refine And.intro (fun _ => ?_) (fun cd => absurd cd (by decide)) | refine And.intro (fun cd => ?_) (fun cd => ?_)
      exact h2 5 (by decide) hx c1 c2
    · first | refine And.intro (fun cd => absurd cd (by decide)) (fun _ => ?_) | refine And.intro (fun _ => ?_) (fun cd => absurd cd (by decide)) | refine And.intro (fun cd => ?_) (fun cd => ?_)
      refine sp_item 5 (by decide) (hs 5 (by decide)) ?_
      refine sp_besides ?_
      have := h0 5 (by decide) hx c1 c2
      unfold itm
      rw [if_pos ⟨c1, c2⟩]
      exact this
theorem sp_tear {x : Int32} (hbad : (x.toInt < 0 ∨ 6 ≤ x.toInt) → Q (some (.int (-1))) t I L) (h1 : ∀ k, k < 6 → x = nI k → (I (38 + 2 * k) 1).toInt < 0 → Q (some (.int (-3))) t (am_u (am_u I 36 3 1) 37 1 (I 37 1 + 1)) L) (h0 : ∀ k, k < 6 → x = nI k → 0 ≤ (I (38 + 2 * k) 1).toInt → Q (some (.int 1)) t (am_u I (38 + 2 * k) 1 (-1)) L) : bm_C G l 4 [.ref 0, .int x] t I L Q := by
  refine bm_go (am_ok_all 4 (by decide)) 40 ?_
  refine sp_picked_r x (fun cd => ?_) (fun k hk hx => ?_)
  · refine sp_refNull ?_
    exact hbad cd
  match k, hk with
  | 0, _ =>
    refine sp_ref 0 (by decide) (fun cd => ?_) (fun c1 => ?_)
    · first | refine And.intro (fun cd => absurd cd (by decide)) (fun _ => ?_) | refine And.intro (fun _ => ?_) (fun cd => absurd cd (by decide)) | refine And.intro (fun cd => ?_) (fun cd => ?_)
      exact h1 0 (by decide) hx cd
    · first | refine And.intro (fun cd => absurd cd (by decide)) (fun _ => ?_) | refine And.intro (fun _ => ?_) (fun cd => absurd cd (by decide)) | refine And.intro (fun cd => ?_) (fun cd => ?_)
      exact h0 0 (by decide) hx c1
  | 1, _ =>
    refine sp_ref 1 (by decide) (fun cd => ?_) (fun c1 => ?_)
    · first | refine And.intro (fun cd => absurd cd (by decide)) (fun _ => ?_) | refine And.intro (fun _ => ?_) (fun cd => absurd cd (by decide)) | refine And.intro (fun cd => ?_) (fun cd => ?_)
      exact h1 1 (by decide) hx cd
    · first | refine And.intro (fun cd => absurd cd (by decide)) (fun _ => ?_) | refine And.intro (fun _ => ?_) (fun cd => absurd cd (by decide)) | refine And.intro (fun cd => ?_) (fun cd => ?_)
      exact h0 1 (by decide) hx c1
  | 2, _ =>
    refine sp_ref 2 (by decide) (fun cd => ?_) (fun c1 => ?_)
    · first | refine And.intro (fun cd => absurd cd (by decide)) (fun _ => ?_) | refine And.intro (fun _ => ?_) (fun cd => absurd cd (by decide)) | refine And.intro (fun cd => ?_) (fun cd => ?_)
      exact h1 2 (by decide) hx cd
    · first | refine And.intro (fun cd => absurd cd (by decide)) (fun _ => ?_) | refine And.intro (fun _ => ?_) (fun cd => absurd cd (by decide)) | refine And.intro (fun cd => ?_) (fun cd => ?_)
      exact h0 2 (by decide) hx c1
  | 3, _ =>
    refine sp_ref 3 (by decide) (fun cd => ?_) (fun c1 => ?_)
    · first | refine And.intro (fun cd => absurd cd (by decide)) (fun _ => ?_) | refine And.intro (fun _ => ?_) (fun cd => absurd cd (by decide)) | refine And.intro (fun cd => ?_) (fun cd => ?_)
      exact h1 3 (by decide) hx cd
    · first | refine And.intro (fun cd => absurd cd (by decide)) (fun _ => ?_) | refine And.intro (fun _ => ?_) (fun cd => absurd cd (by decide)) | refine And.intro (fun cd => ?_) (fun cd => ?_)
      exact h0 3 (by decide) hx c1
  | 4, _ =>
    refine sp_ref 4 (by decide) (fun cd => ?_) (fun c1 => ?_)
    · first | refine And.intro (fun cd => absurd cd (by decide)) (fun _ => ?_) | refine And.intro (fun _ => ?_) (fun cd => absurd cd (by decide)) | refine And.intro (fun cd => ?_) (fun cd => ?_)
      exact h1 4 (by decide) hx cd
    · first | refine And.intro (fun cd => absurd cd (by decide)) (fun _ => ?_) | refine And.intro (fun _ => ?_) (fun cd => absurd cd (by decide)) | refine And.intro (fun cd => ?_) (fun cd => ?_)
      exact h0 4 (by decide) hx c1
  | 5, _ =>
    refine sp_ref 5 (by decide) (fun cd => ?_) (fun c1 => ?_)
    · first | refine And.intro (fun cd => absurd cd (by decide)) (fun _ => ?_) | refine And.intro (fun _ => ?_) (fun cd => absurd cd (by decide)) | refine And.intro (fun cd => ?_) (fun cd => ?_)
      exact h1 5 (by decide) hx cd
    · first | refine And.intro (fun cd => absurd cd (by decide)) (fun _ => ?_) | refine And.intro (fun _ => ?_) (fun cd => absurd cd (by decide)) | refine And.intro (fun cd => ?_) (fun cd => ?_)
      exact h0 5 (by decide) hx c1
theorem sp_put {x y v : Int32} (hs : ∀ k, k < 4 → (I (38 + 2 * (6 + k)) 1).toInt ≤ 80) (hbad : (x.toInt < 0 ∨ 4 ≤ x.toInt) → Q (some (.int (-1))) t I L) (h1 : ∀ k, k < 4 → x = nI k → (I (38 + 2 * (6 + k)) 1).toInt < 0 → Q (some (.int (-3))) t (am_u (am_u I 36 3 1) 37 1 (I 37 1 + 1)) L) (h2 : ∀ k, k < 4 → x = nI k → 0 ≤ (I (38 + 2 * (6 + k)) 1).toInt → (y.toInt < 0 ∨ (I (38 + 2 * (6 + k)) 1).toInt ≤ y.toInt) → Q (some (.int (-3))) t (am_u (am_u I 36 3 2) 37 2 (I 37 2 + 1)) L)
    (h0 : ∀ k, k < 4 → x = nI k → 0 ≤ y.toInt → y.toInt < (I (38 + 2 * (6 + k)) 1).toInt → Q (some (.int (I (39 + 2 * (6 + k)) y.toInt.toNat + 1000))) t (am_u I (39 + 2 * (6 + k)) y.toInt.toNat v.toInt8.toInt32) L) : bm_C G l 8 [.ref 0, .int x, .int y, .int v] t I L Q := by
  refine bm_go (am_ok_all 8 (by decide)) 40 ?_
  refine sp_picked_t x (fun cd => ?_) (fun k hk hx => ?_)
  · refine sp_refAtNull ?_
    exact hbad cd
  match k, hk with
  | 0, _ =>
    refine sp_refAt (6 + 0) (by decide) (fun cd => ?_) (fun c1 c2 => ?_) (fun c1 c2 => ?_)
    · first | refine And.intro (fun cd => absurd cd (by decide)) (fun _ => ?_) | refine And.intro (fun _ => ?_) (fun cd => absurd cd (by decide)) | refine And.intro (fun cd => ?_) (fun cd => ?_)
      exact h1 0 (by decide) hx cd
    · first | refine And.intro (fun cd => absurd cd (by decide)) (fun _ => ?_) | refine And.intro (fun _ => ?_) (fun cd => absurd cd (by decide)) | refine And.intro (fun cd => ?_) (fun cd => ?_)
      exact h2 0 (by decide) hx c1 c2
    · first | refine And.intro (fun cd => absurd cd (by decide)) (fun _ => ?_) | refine And.intro (fun _ => ?_) (fun cd => absurd cd (by decide)) | refine And.intro (fun cd => ?_) (fun cd => ?_)
      refine sp_item (6 + 0) (by decide) (hs 0 (by decide)) ?_
      refine sp_change (6 + 0) (by decide) (hs 0 (by decide)) (fun _ _ => ?_) (fun cd => by omega)
      have := h0 0 (by decide) hx c1 c2
      unfold itm
      rw [if_pos ⟨c1, c2⟩]
      exact this
  | 1, _ =>
    refine sp_refAt (6 + 1) (by decide) (fun cd => ?_) (fun c1 c2 => ?_) (fun c1 c2 => ?_)
    · first | refine And.intro (fun cd => absurd cd (by decide)) (fun _ => ?_) | refine And.intro (fun _ => ?_) (fun cd => absurd cd (by decide)) | refine And.intro (fun cd => ?_) (fun cd => ?_)
      exact h1 1 (by decide) hx cd
    · first | refine And.intro (fun cd => absurd cd (by decide)) (fun _ => ?_) | refine And.intro (fun _ => ?_) (fun cd => absurd cd (by decide)) | refine And.intro (fun cd => ?_) (fun cd => ?_)
      exact h2 1 (by decide) hx c1 c2
    · first | refine And.intro (fun cd => absurd cd (by decide)) (fun _ => ?_) | refine And.intro (fun _ => ?_) (fun cd => absurd cd (by decide)) | refine And.intro (fun cd => ?_) (fun cd => ?_)
      refine sp_item (6 + 1) (by decide) (hs 1 (by decide)) ?_
      refine sp_change (6 + 1) (by decide) (hs 1 (by decide)) (fun _ _ => ?_) (fun cd => by omega)
      have := h0 1 (by decide) hx c1 c2
      unfold itm
      rw [if_pos ⟨c1, c2⟩]
      exact this
  | 2, _ =>
    refine sp_refAt (6 + 2) (by decide) (fun cd => ?_) (fun c1 c2 => ?_) (fun c1 c2 => ?_)
    · first | refine And.intro (fun cd => absurd cd (by decide)) (fun _ => ?_) | refine And.intro (fun _ => ?_) (fun cd => absurd cd (by decide)) | refine And.intro (fun cd => ?_) (fun cd => ?_)
      exact h1 2 (by decide) hx cd
    · first | refine And.intro (fun cd => absurd cd (by decide)) (fun _ => ?_) | refine And.intro (fun _ => ?_) (fun cd => absurd cd (by decide)) | refine And.intro (fun cd => ?_) (fun cd => ?_)
      exact h2 2 (by decide) hx c1 c2
    · first | refine And.intro (fun cd => absurd cd (by decide)) (fun _ => ?_) | refine And.intro (fun _ => ?_) (fun cd => absurd cd (by decide)) | refine And.intro (fun cd => ?_) (fun cd => ?_)
      refine sp_item (6 + 2) (by decide) (hs 2 (by decide)) ?_
      refine sp_change (6 + 2) (by decide) (hs 2 (by decide)) (fun _ _ => ?_) (fun cd => by omega)
      have := h0 2 (by decide) hx c1 c2
      unfold itm
      rw [if_pos ⟨c1, c2⟩]
      exact this
  | 3, _ =>
    refine sp_refAt (6 + 3) (by decide) (fun cd => ?_) (fun c1 c2 => ?_) (fun c1 c2 => ?_)
    · first | refine And.intro (fun cd => absurd cd (by decide)) (fun _ => ?_) | refine And.intro (fun _ => ?_) (fun cd => absurd cd (by decide)) | refine And.intro (fun cd => ?_) (fun cd => ?_)
      exact h1 3 (by decide) hx cd
    · first | refine And.intro (fun cd => absurd cd (by decide)) (fun _ => ?_) | refine And.intro (fun _ => ?_) (fun cd => absurd cd (by decide)) | refine And.intro (fun cd => ?_) (fun cd => ?_)
      exact h2 3 (by decide) hx c1 c2
    · first | refine And.intro (fun cd => absurd cd (by decide)) (fun _ => ?_) | refine And.intro (fun _ => ?_) (fun cd => absurd cd (by decide)) | refine And.intro (fun cd => ?_) (fun cd => ?_)
      refine sp_item (6 + 3) (by decide) (hs 3 (by decide)) ?_
      refine sp_change (6 + 3) (by decide) (hs 3 (by decide)) (fun _ _ => ?_) (fun cd => by omega)
      have := h0 3 (by decide) hx c1 c2
      unfold itm
      rw [if_pos ⟨c1, c2⟩]
      exact this
/-! the reference -/
end PR

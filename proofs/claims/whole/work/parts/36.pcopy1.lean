/-! pair: copy -/
theorem ix_add2 {b j : Nat} {y : Int32} (h : 0 ≤ y.toInt) (hb : b + y.toInt.toNat + j < 2 ^ 31) : (nI b + y + nI j).toInt = ((b + y.toInt.toNat + j : Nat) : Int) := by
  have hy := of_nn h
  generalize y.toInt.toNat = q at *
  subst hy
  rw [nI_add, nI_add, nI_toInt hb]
theorem i64_add (x y : Int32) : (x.toInt64 + y.toInt64).toInt = x.toInt + y.toInt := by
  have h1 := x.toInt_lt
  have h2 := y.toInt_lt
  have h3 := x.le_toInt
  have h4 := y.le_toInt
  rw [add64 (by rw [i64]; omega) (by rw [i64]; omega) (by rw [i64]; omega) (by rw [i64]; omega), i64, i64]
section PC
variable {G : am_G} {l : Launch} {t : am_T} {I : am_I} {L : am_J} {Q : bm_P}
theorem sp_copy {x y z w n : Int32} (hs : ∀ k, k < 6 → -1 ≤ (I (38 + 2 * k) 1).toInt ∧ (I (38 + 2 * k) 1).toInt ≤ 60) (hbad : (x.toInt < 0 ∨ 6 ≤ x.toInt ∨ z.toInt < 0 ∨ 6 ≤ z.toInt) → Q (some (.int (-1))) t I L)
    (hneg : ∀ a b, a < 6 → b < 6 → x = nI a → z = nI b → n.toInt < 0 → Q (some (.int (-3))) t (am_u (am_u I 36 3 5) 37 5 (I 37 5 + 1)) L)
    (h1 : ∀ a b, a < 6 → b < 6 → x = nI a → z = nI b → 0 ≤ n.toInt → ((I (38 + 2 * a) 1).toInt < 0 ∨ (I (38 + 2 * b) 1).toInt < 0) → Q (some (.int (-3))) t (am_u (am_u I 36 3 1) 37 1 (I 37 1 + 1)) L)
    (h2 : ∀ a b, a < 6 → b < 6 → x = nI a → z = nI b → 0 ≤ n.toInt → 0 ≤ (I (38 + 2 * a) 1).toInt → 0 ≤ (I (38 + 2 * b) 1).toInt → (y.toInt < 0 ∨ w.toInt < 0 ∨ (I (38 + 2 * a) 1).toInt < y.toInt + n.toInt ∨ (I (38 + 2 * b) 1).toInt < w.toInt + n.toInt) → Q (some (.int (-3))) t (am_u (am_u I 36 3 2) 37 2 (I 37 2 + 1)) L)
    (h0 : ∀ a b, a < 6 → b < 6 → x = nI a → z = nI b → 0 ≤ n.toInt → 0 ≤ (I (38 + 2 * a) 1).toInt → 0 ≤ (I (38 + 2 * b) 1).toInt → 0 ≤ y.toInt → 0 ≤ w.toInt → y.toInt + n.toInt ≤ (I (38 + 2 * a) 1).toInt → w.toInt + n.toInt ≤ (I (38 + 2 * b) 1).toInt → Q (some (.int 1)) t (bm_cpy I (39 + 2 * a) (39 + 2 * b) y.toInt.toNat w.toInt.toNat n.toInt.toNat) L) :
    bm_C G l 5 [.ref 0, .int x, .int y, .int z, .int w, .int n] t I L Q := by
  refine bm_go (am_ok_all 5 (by decide)) 60 ?_
  refine sp_picked_r x (fun cd => ?_) (fun a ha hx => ?_)
  · refine sp_picked_r z (fun c2 => hbad (by omega)) (fun b hb hz => ?_)
    match b, hb with
    | 0, _ => exact hbad (by omega)
    | 1, _ => exact hbad (by omega)
    | 2, _ => exact hbad (by omega)
    | 3, _ => exact hbad (by omega)
    | 4, _ => exact hbad (by omega)
    | 5, _ => exact hbad (by omega)
  match a, ha with
  | 0, _ =>
    refine sp_picked_r z (fun cd => hbad (by omega)) (fun b hb hz => ?_)
    obtain ⟨sa1, sa2⟩ := hs 0 (by decide)
    obtain ⟨sb1, sb2⟩ := hs b hb
    have q1 := h1 0 b (by decide) hb hx hz
    have q2 := h2 0 b (by decide) hb hx hz
    have q0 := h0 0 b (by decide) hb hx hz
    match b, hb with
    | 0, _ =>
      refine And.intro (fun cn => ?_) (fun cn => ?_)
      · refine And.intro (fun cA => sp_found 1 rfl (by decide) (q1 cn (Or.inl cA))) (fun cA => ?_)
        refine And.intro (fun cB => ?_) (fun cB => sp_found 1 rfl (by decide) (q1 cn (Or.inr cB)))
        refine sp_holds 0 (by decide) ⟨sa1, sa2⟩ (fun d1 d2 d3 => ?_) (fun d1 => ?_)
        · first | refine And.intro (fun cd => absurd cd (by decide)) (fun _ => ?_) | refine And.intro (fun _ => ?_) (fun cd => absurd cd (by decide)) | refine And.intro (fun cd => ?_) (fun cd => ?_)
          refine sp_holds 0 (by decide) ⟨sb1, sb2⟩ (fun e1 e2 e3 => ?_) (fun e1 => ?_)
          · first | refine And.intro (fun cd => absurd cd (by decide)) (fun _ => ?_) | refine And.intro (fun _ => ?_) (fun cd => absurd cd (by decide)) | refine And.intro (fun cd => ?_) (fun cd => ?_)
            exact ⟨y.toInt.toNat, w.toInt.toNat, n.toInt.toNat, by omega, by omega, by omega, (by omega : y.toInt.toNat + n.toInt.toNat ≤ 60), (by omega : w.toInt.toNat + n.toInt.toNat ≤ 60), q0 cn cA cB d1 e1 d3 e3⟩
          · first | refine And.intro (fun cd => absurd cd (by decide)) (fun _ => ?_) | refine And.intro (fun _ => ?_) (fun cd => absurd cd (by decide)) | refine And.intro (fun cd => ?_) (fun cd => ?_)
            exact sp_found 2 rfl (by decide) (q2 cn cA cB (by omega))
        · first | refine And.intro (fun cd => absurd cd (by decide)) (fun _ => ?_) | refine And.intro (fun _ => ?_) (fun cd => absurd cd (by decide)) | refine And.intro (fun cd => ?_) (fun cd => ?_)
          exact sp_found 2 rfl (by decide) (q2 cn cA cB (by omega))
      · exact sp_found 5 rfl (by decide) (hneg 0 0 (by decide) (by decide) hx hz (by omega))
    | 1, _ =>
      refine And.intro (fun cn => ?_) (fun cn => ?_)
      · refine And.intro (fun cA => sp_found 1 rfl (by decide) (q1 cn (Or.inl cA))) (fun cA => ?_)
        refine And.intro (fun cB => ?_) (fun cB => sp_found 1 rfl (by decide) (q1 cn (Or.inr cB)))
        refine sp_holds 0 (by decide) ⟨sa1, sa2⟩ (fun d1 d2 d3 => ?_) (fun d1 => ?_)
        · first | refine And.intro (fun cd => absurd cd (by decide)) (fun _ => ?_) | refine And.intro (fun _ => ?_) (fun cd => absurd cd (by decide)) | refine And.intro (fun cd => ?_) (fun cd => ?_)
          refine sp_holds 1 (by decide) ⟨sb1, sb2⟩ (fun e1 e2 e3 => ?_) (fun e1 => ?_)
          · first | refine And.intro (fun cd => absurd cd (by decide)) (fun _ => ?_) | refine And.intro (fun _ => ?_) (fun cd => absurd cd (by decide)) | refine And.intro (fun cd => ?_) (fun cd => ?_)
            exact ⟨y.toInt.toNat, w.toInt.toNat, n.toInt.toNat, by omega, by omega, by omega, (by omega : y.toInt.toNat + n.toInt.toNat ≤ 60), (by omega : w.toInt.toNat + n.toInt.toNat ≤ 60), q0 cn cA cB d1 e1 d3 e3⟩
          · first | refine And.intro (fun cd => absurd cd (by decide)) (fun _ => ?_) | refine And.intro (fun _ => ?_) (fun cd => absurd cd (by decide)) | refine And.intro (fun cd => ?_) (fun cd => ?_)
            exact sp_found 2 rfl (by decide) (q2 cn cA cB (by omega))
        · first | refine And.intro (fun cd => absurd cd (by decide)) (fun _ => ?_) | refine And.intro (fun _ => ?_) (fun cd => absurd cd (by decide)) | refine And.intro (fun cd => ?_) (fun cd => ?_)
          exact sp_found 2 rfl (by decide) (q2 cn cA cB (by omega))
      · exact sp_found 5 rfl (by decide) (hneg 0 1 (by decide) (by decide) hx hz (by omega))
    | 2, _ =>
      refine And.intro (fun cn => ?_) (fun cn => ?_)
      · refine And.intro (fun cA => sp_found 1 rfl (by decide) (q1 cn (Or.inl cA))) (fun cA => ?_)
        refine And.intro (fun cB => ?_) (fun cB => sp_found 1 rfl (by decide) (q1 cn (Or.inr cB)))
        refine sp_holds 0 (by decide) ⟨sa1, sa2⟩ (fun d1 d2 d3 => ?_) (fun d1 => ?_)
        · first | refine And.intro (fun cd => absurd cd (by decide)) (fun _ => ?_) | refine And.intro (fun _ => ?_) (fun cd => absurd cd (by decide)) | refine And.intro (fun cd => ?_) (fun cd => ?_)
          refine sp_holds 2 (by decide) ⟨sb1, sb2⟩ (fun e1 e2 e3 => ?_) (fun e1 => ?_)
          · first | refine And.intro (fun cd => absurd cd (by decide)) (fun _ => ?_) | refine And.intro (fun _ => ?_) (fun cd => absurd cd (by decide)) | refine And.intro (fun cd => ?_) (fun cd => ?_)
            exact ⟨y.toInt.toNat, w.toInt.toNat, n.toInt.toNat, by omega, by omega, by omega, (by omega : y.toInt.toNat + n.toInt.toNat ≤ 60), (by omega : w.toInt.toNat + n.toInt.toNat ≤ 60), q0 cn cA cB d1 e1 d3 e3⟩
          · first | refine And.intro (fun cd => absurd cd (by decide)) (fun _ => ?_) | refine And.intro (fun _ => ?_) (fun cd => absurd cd (by decide)) | refine And.intro (fun cd => ?_) (fun cd => ?_)
            exact sp_found 2 rfl (by decide) (q2 cn cA cB (by omega))
        · first | refine And.intro (fun cd => absurd cd (by decide)) (fun _ => ?_) | refine And.intro (fun _ => ?_) (fun cd => absurd cd (by decide)) | refine And.intro (fun cd => ?_) (fun cd => ?_)
          exact sp_found 2 rfl (by decide) (q2 cn cA cB (by omega))
      · exact sp_found 5 rfl (by decide) (hneg 0 2 (by decide) (by decide) hx hz (by omega))
    | 3, _ =>
      refine And.intro (fun cn => ?_) (fun cn => ?_)
      · refine And.intro (fun cA => sp_found 1 rfl (by decide) (q1 cn (Or.inl cA))) (fun cA => ?_)
        refine And.intro (fun cB => ?_) (fun cB => sp_found 1 rfl (by decide) (q1 cn (Or.inr cB)))
        refine sp_holds 0 (by decide) ⟨sa1, sa2⟩ (fun d1 d2 d3 => ?_) (fun d1 => ?_)
        · first | refine And.intro (fun cd => absurd cd (by decide)) (fun _ => ?_) | refine And.intro (fun _ => ?_) (fun cd => absurd cd (by decide)) | refine And.intro (fun cd => ?_) (fun cd => ?_)
          refine sp_holds 3 (by decide) ⟨sb1, sb2⟩ (fun e1 e2 e3 => ?_) (fun e1 => ?_)
          · first | refine And.intro (fun cd => absurd cd (by decide)) (fun _ => ?_) | refine And.intro (fun _ => ?_) (fun cd => absurd cd (by decide)) | refine And.intro (fun cd => ?_) (fun cd => ?_)
            exact ⟨y.toInt.toNat, w.toInt.toNat, n.toInt.toNat, by omega, by omega, by omega, (by omega : y.toInt.toNat + n.toInt.toNat ≤ 60), (by omega : w.toInt.toNat + n.toInt.toNat ≤ 60), q0 cn cA cB d1 e1 d3 e3⟩
          · first | refine And.intro (fun cd => absurd cd (by decide)) (fun _ => ?_) | refine And.intro (fun _ => ?_) (fun cd => absurd cd (by decide)) | refine And.intro (fun cd => ?_) (fun cd => ?_)
            exact sp_found 2 rfl (by decide) (q2 cn cA cB (by omega))
        · first | refine And.intro (fun cd => absurd cd (by decide)) (fun _ => ?_) | refine And.intro (fun _ => ?_) (fun cd => absurd cd (by decide)) | refine And.intro (fun cd => ?_) (fun cd => ?_)
          exact sp_found 2 rfl (by decide) (q2 cn cA cB (by omega))
      · exact sp_found 5 rfl (by decide) (hneg 0 3 (by decide) (by decide) hx hz (by omega))
    | 4, _ =>
      refine And.intro (fun cn => ?_) (fun cn => ?_)
      · refine And.intro (fun cA => sp_found 1 rfl (by decide) (q1 cn (Or.inl cA))) (fun cA => ?_)
        refine And.intro (fun cB => ?_) (fun cB => sp_found 1 rfl (by decide) (q1 cn (Or.inr cB)))
        refine sp_holds 0 (by decide) ⟨sa1, sa2⟩ (fun d1 d2 d3 => ?_) (fun d1 => ?_)
        · first | refine And.intro (fun cd => absurd cd (by decide)) (fun _ => ?_) | refine And.intro (fun _ => ?_) (fun cd => absurd cd (by decide)) | refine And.intro (fun cd => ?_) (fun cd => ?_)
          refine sp_holds 4 (by decide) ⟨sb1, sb2⟩ (fun e1 e2 e3 => ?_) (fun e1 => ?_)
          · first | refine And.intro (fun cd => absurd cd (by decide)) (fun _ => ?_) | refine And.intro (fun _ => ?_) (fun cd => absurd cd (by decide)) | refine And.intro (fun cd => ?_) (fun cd => ?_)
            exact ⟨y.toInt.toNat, w.toInt.toNat, n.toInt.toNat, by omega, by omega, by omega, (by omega : y.toInt.toNat + n.toInt.toNat ≤ 60), (by omega : w.toInt.toNat + n.toInt.toNat ≤ 60), q0 cn cA cB d1 e1 d3 e3⟩
          · first | refine And.intro (fun cd => absurd cd (by decide)) (fun _ => ?_) | refine And.intro (fun _ => ?_) (fun cd => absurd cd (by decide)) | refine And.intro (fun cd => ?_) (fun cd => ?_)
            exact sp_found 2 rfl (by decide) (q2 cn cA cB (by omega))
        · first | refine And.intro (fun cd => absurd cd (by decide)) (fun _ => ?_) | refine And.intro (fun _ => ?_) (fun cd => absurd cd (by decide)) | refine And.intro (fun cd => ?_) (fun cd => ?_)
          exact sp_found 2 rfl (by decide) (q2 cn cA cB (by omega))
      · exact sp_found 5 rfl (by decide) (hneg 0 4 (by decide) (by decide) hx hz (by omega))
    | 5, _ =>
      refine And.intro (fun cn => ?_) (fun cn => ?_)
      · refine And.intro (fun cA => sp_found 1 rfl (by decide) (q1 cn (Or.inl cA))) (fun cA => ?_)
        refine And.intro (fun cB => ?_) (fun cB => sp_found 1 rfl (by decide) (q1 cn (Or.inr cB)))
        refine sp_holds 0 (by decide) ⟨sa1, sa2⟩ (fun d1 d2 d3 => ?_) (fun d1 => ?_)
        · first | refine And.intro (fun cd => absurd cd (by decide)) (fun _ => ?_) | refine And.intro (fun _ => ?_) (fun cd => absurd cd (by decide)) | refine And.intro (fun cd => ?_) (fun cd => ?_)
          refine sp_holds 5 (by decide) ⟨sb1, sb2⟩ (fun e1 e2 e3 => ?_) (fun e1 => ?_)
          · first | refine And.intro (fun cd => absurd cd (by decide)) (fun _ => ?_) | refine And.intro (fun _ => ?_) (fun cd => absurd cd (by decide)) | refine And.intro (fun cd => ?_) (fun cd => ?_)
            exact ⟨y.toInt.toNat, w.toInt.toNat, n.toInt.toNat, by omega, by omega, by omega, (by omega : y.toInt.toNat + n.toInt.toNat ≤ 60), (by omega : w.toInt.toNat + n.toInt.toNat ≤ 60), q0 cn cA cB d1 e1 d3 e3⟩
          · first | refine And.intro (fun cd => absurd cd (by decide)) (fun _ => ?_) | refine And.intro (fun _ => ?_) (fun cd => absurd cd (by decide)) | refine And.intro (fun cd => ?_) (fun cd => ?_)
            exact sp_found 2 rfl (by decide) (q2 cn cA cB (by omega))
        · first | refine And.intro (fun cd => absurd cd (by decide)) (fun _ => ?_) | refine And.intro (fun _ => ?_) (fun cd => absurd cd (by decide)) | refine And.intro (fun cd => ?_) (fun cd => ?_)
          exact sp_found 2 rfl (by decide) (q2 cn cA cB (by omega))
      · exact sp_found 5 rfl (by decide) (hneg 0 5 (by decide) (by decide) hx hz (by omega))
  | 1, _ =>
    refine sp_picked_r z (fun cd => hbad (by omega)) (fun b hb hz => ?_)
    obtain ⟨sa1, sa2⟩ := hs 1 (by decide)
    obtain ⟨sb1, sb2⟩ := hs b hb
    have q1 := h1 1 b (by decide) hb hx hz
    have q2 := h2 1 b (by decide) hb hx hz
    have q0 := h0 1 b (by decide) hb hx hz
    match b, hb with
    | 0, _ =>
      refine And.intro (fun cn => ?_) (fun cn => ?_)
      · refine And.intro (fun cA => sp_found 1 rfl (by decide) (q1 cn (Or.inl cA))) (fun cA => ?_)
        refine And.intro (fun cB => ?_) (fun cB => sp_found 1 rfl (by decide) (q1 cn (Or.inr cB)))
        refine sp_holds 1 (by decide) ⟨sa1, sa2⟩ (fun d1 d2 d3 => ?_) (fun d1 => ?_)
        · first | refine And.intro (fun cd => absurd cd (by decide)) (fun _ => ?_) | refine And.intro (fun _ => ?_) (fun cd => absurd cd (by decide)) | refine And.intro (fun cd => ?_) (fun cd => ?_)
          refine sp_holds 0 (by decide) ⟨sb1, sb2⟩ (fun e1 e2 e3 => ?_) (fun e1 => ?_)
          · first | refine And.intro (fun cd => absurd cd (by decide)) (fun _ => ?_) | refine And.intro (fun _ => ?_) (fun cd => absurd cd (by decide)) | refine And.intro (fun cd => ?_) (fun cd => ?_)
            exact ⟨y.toInt.toNat, w.toInt.toNat, n.toInt.toNat, by omega, by omega, by omega, (by omega : y.toInt.toNat + n.toInt.toNat ≤ 60), (by omega : w.toInt.toNat + n.toInt.toNat ≤ 60), q0 cn cA cB d1 e1 d3 e3⟩
          · first | refine And.intro (fun cd => absurd cd (by decide)) (fun _ => ?_) | refine And.intro (fun _ => ?_) (fun cd => absurd cd (by decide)) | refine And.intro (fun cd => ?_) (fun cd => ?_)
            exact sp_found 2 rfl (by decide) (q2 cn cA cB (by omega))
        · first | refine And.intro (fun cd => absurd cd (by decide)) (fun _ => ?_) | refine And.intro (fun _ => ?_) (fun cd => absurd cd (by decide)) | refine And.intro (fun cd => ?_) (fun cd => ?_)
          exact sp_found 2 rfl (by decide) (q2 cn cA cB (by omega))
      · exact sp_found 5 rfl (by decide) (hneg 1 0 (by decide) (by decide) hx hz (by omega))
    | 1, _ =>
      refine And.intro (fun cn => ?_) (fun cn => ?_)
      · refine And.intro (fun cA => sp_found 1 rfl (by decide) (q1 cn (Or.inl cA))) (fun cA => ?_)
        refine And.intro (fun cB => ?_) (fun cB => sp_found 1 rfl (by decide) (q1 cn (Or.inr cB)))
        refine sp_holds 1 (by decide) ⟨sa1, sa2⟩ (fun d1 d2 d3 => ?_) (fun d1 => ?_)
        · first | refine And.intro (fun cd => absurd cd (by decide)) (fun _ => ?_) | refine And.intro (fun _ => ?_) (fun cd => absurd cd (by decide)) | refine And.intro (fun cd => ?_) (fun cd => ?_)
          refine sp_holds 1 (by decide) ⟨sb1, sb2⟩ (fun e1 e2 e3 => ?_) (fun e1 => ?_)
          · first | refine And.intro (fun cd => absurd cd (by decide)) (fun _ => ?_) | refine And.intro (fun _ => ?_) (fun cd => absurd cd (by decide)) | refine And.intro (fun cd => ?_) (fun cd => ?_)
            exact ⟨y.toInt.toNat, w.toInt.toNat, n.toInt.toNat, by omega, by omega, by omega, (by omega : y.toInt.toNat + n.toInt.toNat ≤ 60), (by omega : w.toInt.toNat + n.toInt.toNat ≤ 60), q0 cn cA cB d1 e1 d3 e3⟩
          · first | refine And.intro (fun cd => absurd cd (by decide)) (fun _ => ?_) | refine And.intro (fun _ => ?_) (fun cd => absurd cd (by decide)) | refine And.intro (fun cd => ?_) (fun cd => ?_)
            exact sp_found 2 rfl (by decide) (q2 cn cA cB (by omega))
        · first | refine And.intro (fun cd => absurd cd (by decide)) (fun _ => ?_) | refine And.intro (fun _ => ?_) (fun cd => absurd cd (by decide)) | refine And.intro (fun cd => ?_) (fun cd => ?_)
          exact sp_found 2 rfl (by decide) (q2 cn cA cB (by omega))
      · exact sp_found 5 rfl (by decide) (hneg 1 1 (by decide) (by decide) hx hz (by omega))
    | 2, _ =>
      refine And.intro (fun cn => ?_) (fun cn => ?_)
      · refine And.intro (fun cA => sp_found 1 rfl (by decide) (q1 cn (Or.inl cA))) (fun cA => ?_)
        refine And.intro (fun cB => ?_) (fun cB => sp_found 1 rfl (by decide) (q1 cn (Or.inr cB)))
        refine sp_holds 1 (by decide) ⟨sa1, sa2⟩ (fun d1 d2 d3 => ?_) (fun d1 => ?_)
        · first | refine And.intro (fun cd => absurd cd (by decide)) (fun _ => ?_) | refine And.intro (fun _ => ?_) (fun cd => absurd cd (by decide)) | refine And.intro (fun cd => ?_) (fun cd => ?_)
          refine sp_holds 2 (by decide) ⟨sb1, sb2⟩ (fun e1 e2 e3 => ?_) (fun e1 => ?_)
          · first | refine And.intro (fun cd => absurd cd (by decide)) (fun _ => ?_) | refine And.intro (fun _ => ?_) (fun cd => absurd cd (by decide)) | refine And.intro (fun cd => ?_) (fun cd => ?_)
            exact ⟨y.toInt.toNat, w.toInt.toNat, n.toInt.toNat, by omega, by omega, by omega, (by omega : y.toInt.toNat + n.toInt.toNat ≤ 60), (by omega : w.toInt.toNat + n.toInt.toNat ≤ 60), q0 cn cA cB d1 e1 d3 e3⟩
          · first | refine And.intro (fun cd => absurd cd (by decide)) (fun _ => ?_) | refine And.intro (fun _ => ?_) (fun cd => absurd cd (by decide)) | refine And.intro (fun cd => ?_) (fun cd => ?_)
            exact sp_found 2 rfl (by decide) (q2 cn cA cB (by omega))
        · first | refine And.intro (fun cd => absurd cd (by decide)) (fun _ => ?_) | refine And.intro (fun _ => ?_) (fun cd => absurd cd (by decide)) | refine And.intro (fun cd => ?_) (fun cd => ?_)
          exact sp_found 2 rfl (by decide) (q2 cn cA cB (by omega))
      · exact sp_found 5 rfl (by decide) (hneg 1 2 (by decide) (by decide) hx hz (by omega))
    | 3, _ =>
      refine And.intro (fun cn => ?_) (fun cn => ?_)
      · refine And.intro (fun cA => sp_found 1 rfl (by decide) (q1 cn (Or.inl cA))) (fun cA => ?_)
        refine And.intro (fun cB => ?_) (fun cB => sp_found 1 rfl (by decide) (q1 cn (Or.inr cB)))
        refine sp_holds 1 (by decide) ⟨sa1, sa2⟩ (fun d1 d2 d3 => ?_) (fun d1 => ?_)
        · first | refine And.intro (fun cd => absurd cd (by decide)) (fun _ => ?_) | refine And.intro (fun _ => ?_) (fun cd => absurd cd (by decide)) | refine And.intro (fun cd => ?_) (fun cd => ?_)
          refine sp_holds 3 (by decide) ⟨sb1, sb2⟩ (fun e1 e2 e3 => ?_) (fun e1 => ?_)
          · first | refine And.intro (fun cd => absurd cd (by decide)) (fun _ => ?_) | refine And.intro (fun _ => ?_) (fun cd => absurd cd (by decide)) | refine And.intro (fun cd => ?_) (fun cd => ?_)
            exact ⟨y.toInt.toNat, w.toInt.toNat, n.toInt.toNat, by omega, by omega, by omega, (by omega : y.toInt.toNat + n.toInt.toNat ≤ 60), (by omega : w.toInt.toNat + n.toInt.toNat ≤ 60), q0 cn cA cB d1 e1 d3 e3⟩
          · first | refine And.intro (fun cd => absurd cd (by decide)) (fun _ => ?_) | refine And.intro (fun _ => ?_) (fun cd => absurd cd (by decide)) | refine And.intro (fun cd => ?_) (fun cd => ?_)
            exact sp_found 2 rfl (by decide) (q2 cn cA cB (by omega))
        · first | refine And.intro (fun cd => absurd cd (by decide)) (fun _ => ?_) | refine And.intro (fun _ => ?_) (fun cd => absurd cd (by decide)) | refine And.intro (fun cd => ?_) (fun cd => ?_)
          exact sp_found 2 rfl (by decide) (q2 cn cA cB (by omega))
      · exact sp_found 5 rfl (by decide) (hneg 1 3 (by decide) (by decide) hx hz (by omega))
    | 4, _ =>
      refine And.intro (fun cn => ?_) (fun cn => ?_)
      · refine And.intro (fun cA => sp_found 1 rfl (by decide) (q1 cn (Or.inl cA))) (fun cA => ?_)
        refine And.intro (fun cB => ?_) (fun cB => sp_found 1 rfl (by decide) (q1 cn (Or.inr cB)))
        refine sp_holds 1 (by decide) ⟨sa1, sa2⟩ (fun d1 d2 d3 => ?_) (fun d1 => ?_)
        · first | refine And.intro (fun cd => absurd cd (by decide)) (fun _ => ?_) | refine And.intro (fun _ => ?_) (fun cd => absurd cd (by decide)) | refine And.intro (fun cd => ?_) (fun cd => ?_)
          refine sp_holds 4 (by decide) ⟨sb1, sb2⟩ (fun e1 e2 e3 => ?_) (fun e1 => ?_)
          · first | refine And.intro (fun cd => absurd cd (by decide)) (fun _ => ?_) | refine And.intro (fun _ => ?_) (fun cd => absurd cd (by decide)) | refine And.intro (fun cd => ?_) (fun cd => ?_)
            exact ⟨y.toInt.toNat, w.toInt.toNat, n.toInt.toNat, by omega, by omega, by omega, (by omega : y.toInt.toNat + n.toInt.toNat ≤ 60), (by omega : w.toInt.toNat + n.toInt.toNat ≤ 60), q0 cn cA cB d1 e1 d3 e3⟩
          · first | refine And.intro (fun cd => absurd cd (by decide)) (fun _ => ?_) | refine And.intro (fun _ => ?_) (fun cd => absurd cd (by decide)) | refine And.intro (fun cd => ?_) (fun cd => ?_)
            exact sp_found 2 rfl (by decide) (q2 cn cA cB (by omega))
        · first | refine And.intro (fun cd => absurd cd (by decide)) (fun _ => ?_) | refine And.intro (fun _ => ?_) (fun cd => absurd cd (by decide)) | refine And.intro (fun cd => ?_) (fun cd => ?_)
          exact sp_found 2 rfl (by decide) (q2 cn cA cB (by omega))
      · exact sp_found 5 rfl (by decide) (hneg 1 4 (by decide) (by decide) hx hz (by omega))
    | 5, _ =>
      refine And.intro (fun cn => ?_) (fun cn => ?_)
      · refine And.intro (fun cA => sp_found 1 rfl (by decide) (q1 cn (Or.inl cA))) (fun cA => ?_)
        refine And.intro (fun cB => ?_) (fun cB => sp_found 1 rfl (by decide) (q1 cn (Or.inr cB)))
        refine sp_holds 1 (by decide) ⟨sa1, sa2⟩ (fun d1 d2 d3 => ?_) (fun d1 => ?_)
        · first | refine And.intro (fun cd => absurd cd (by decide)) (fun _ => ?_) | refine And.intro (fun _ => ?_) (fun cd => absurd cd (by decide)) | refine And.intro (fun cd => ?_) (fun cd => ?_)
          refine sp_holds 5 (by decide) ⟨sb1, sb2⟩ (fun e1 e2 e3 => ?_) (fun e1 => ?_)
          · first | refine And.intro (fun cd => absurd cd (by decide)) (fun _ => ?_) | refine And.intro (fun _ => ?_) (fun cd => absurd cd (by decide)) | refine And.intro (fun cd => ?_) (fun cd => ?_)
            exact ⟨y.toInt.toNat, w.toInt.toNat, n.toInt.toNat, by omega, by omega, by omega, (by omega : y.toInt.toNat + n.toInt.toNat ≤ 60), (by omega : w.toInt.toNat + n.toInt.toNat ≤ 60), q0 cn cA cB d1 e1 d3 e3⟩
          · first | refine And.intro (fun cd => absurd cd (by decide)) (fun _ => ?_) | refine And.intro (fun _ => ?_) (fun cd => absurd cd (by decide)) | refine And.intro (fun cd => ?_) (fun cd => ?_)
            exact sp_found 2 rfl (by decide) (q2 cn cA cB (by omega))
        · first | refine And.intro (fun cd => absurd cd (by decide)) (fun _ => ?_) | refine And.intro (fun _ => ?_) (fun cd => absurd cd (by decide)) | refine And.intro (fun cd => ?_) (fun cd => ?_)
          exact sp_found 2 rfl (by decide) (q2 cn cA cB (by omega))
      · exact sp_found 5 rfl (by decide) (hneg 1 5 (by decide) (by decide) hx hz (by omega))
  | 2, _ =>
    refine sp_picked_r z (fun cd => hbad (by omega)) (fun b hb hz => ?_)
    obtain ⟨sa1, sa2⟩ := hs 2 (by decide)
    obtain ⟨sb1, sb2⟩ := hs b hb
    have q1 := h1 2 b (by decide) hb hx hz
    have q2 := h2 2 b (by decide) hb hx hz
    have q0 := h0 2 b (by decide) hb hx hz
    match b, hb with
    | 0, _ =>
      refine And.intro (fun cn => ?_) (fun cn => ?_)
      · refine And.intro (fun cA => sp_found 1 rfl (by decide) (q1 cn (Or.inl cA))) (fun cA => ?_)
        refine And.intro (fun cB => ?_) (fun cB => sp_found 1 rfl (by decide) (q1 cn (Or.inr cB)))
        refine sp_holds 2 (by decide) ⟨sa1, sa2⟩ (fun d1 d2 d3 => ?_) (fun d1 => ?_)
        · first | refine And.intro (fun cd => absurd cd (by decide)) (fun _ => ?_) | refine And.intro (fun _ => ?_) (fun cd => absurd cd (by decide)) | refine And.intro (fun cd => ?_) (fun cd => ?_)
          refine sp_holds 0 (by decide) ⟨sb1, sb2⟩ (fun e1 e2 e3 => ?_) (fun e1 => ?_)
          · first | refine And.intro (fun cd => absurd cd (by decide)) (fun _ => ?_) | refine And.intro (fun _ => ?_) (fun cd => absurd cd (by decide)) | refine And.intro (fun cd => ?_) (fun cd => ?_)
            exact ⟨y.toInt.toNat, w.toInt.toNat, n.toInt.toNat, by omega, by omega, by omega, (by omega : y.toInt.toNat + n.toInt.toNat ≤ 60), (by omega : w.toInt.toNat + n.toInt.toNat ≤ 60), q0 cn cA cB d1 e1 d3 e3⟩
          · first | refine And.intro (fun cd => absurd cd (by decide)) (fun _ => ?_) | refine And.intro (fun _ => ?_) (fun cd => absurd cd (by decide)) | refine And.intro (fun cd => ?_) (fun cd => ?_)
            exact sp_found 2 rfl (by decide) (q2 cn cA cB (by omega))
        · first | refine And.intro (fun cd => absurd cd (by decide)) (fun _ => ?_) | refine And.intro (fun _ => ?_) (fun cd => absurd cd (by decide)) | refine And.intro (fun cd => ?_) (fun cd => ?_)
          exact sp_found 2 rfl (by decide) (q2 cn cA cB (by omega))
      · exact sp_found 5 rfl (by decide) (hneg 2 0 (by decide) (by decide) hx hz (by omega))
    | 1, _ =>
      refine And.intro (fun cn => ?_) (fun cn => ?_)
      · refine And.intro (fun cA => sp_found 1 rfl (by decide) (q1 cn (Or.inl cA))) (fun cA => ?_)
        refine And.intro (fun cB => ?_) (fun cB => sp_found 1 rfl (by decide) (q1 cn (Or.inr cB)))
        refine sp_holds 2 (by decide) ⟨sa1, sa2⟩ (fun d1 d2 d3 => ?_) (fun d1 => ?_)
        · first | refine And.intro (fun cd => absurd cd (by decide)) (fun _ => ?_) | refine And.intro (fun _ => ?_) (fun cd => absurd cd (by decide)) | refine And.intro (fun cd => ?_) (fun cd => ?_)
          refine sp_holds 1 (by decide) ⟨sb1, sb2⟩ (fun e1 e2 e3 => ?_) (fun e1 => ?_)
          · first | refine And.intro (fun cd => absurd cd (by decide)) (fun _ => ?_) | refine And.intro (fun _ => ?_) (fun cd => absurd cd (by decide)) | refine And.intro (fun cd => ?_) (fun cd => ?_)
            exact ⟨y.toInt.toNat, w.toInt.toNat, n.toInt.toNat, by omega, by omega, by omega, (by omega : y.toInt.toNat + n.toInt.toNat ≤ 60), (by omega : w.toInt.toNat + n.toInt.toNat ≤ 60), q0 cn cA cB d1 e1 d3 e3⟩
          · first | refine And.intro (fun cd => absurd cd (by decide)) (fun _ => ?_) | refine And.intro (fun _ => ?_) (fun cd => absurd cd (by decide)) | refine And.intro (fun cd => ?_) (fun cd => ?_)
            exact sp_found 2 rfl (by decide) (q2 cn cA cB (by omega))
        · first | refine And.intro (fun cd => absurd cd (by decide)) (fun _ => ?_) | refine And.intro (fun _ => ?_) (fun cd => absurd cd (by decide)) | refine And.intro (fun cd => ?_) (fun cd => ?_)
          exact sp_found 2 rfl (by decide) (q2 cn cA cB (by omega))
      · exact sp_found 5 rfl (by decide) (hneg 2 1 (by decide) (by decide) hx hz (by omega))
    | 2, _ =>
      refine And.intro (fun cn => ?_) (fun cn => ?_)
      · refine And.intro (fun cA => sp_found 1 rfl (by decide) (q1 cn (Or.inl cA))) (fun cA => ?_)
        refine And.intro (fun cB => ?_) (fun cB => sp_found 1 rfl (by decide) (q1 cn (Or.inr cB)))
        refine sp_holds 2 (by decide) ⟨sa1, sa2⟩ (fun d1 d2 d3 => ?_) (fun d1 => ?_)
        · first | refine And.intro (fun cd => absurd cd (by decide)) (fun _ => ?_) | refine And.intro (fun _ => ?_) (fun cd => absurd cd (by decide)) | refine And.intro (fun cd => ?_) (fun cd => ?_)
          refine sp_holds 2 (by decide) ⟨sb1, sb2⟩ (fun e1 e2 e3 => ?_) (fun e1 => ?_)
          · first | refine And.intro (fun cd => absurd cd (by decide)) (fun _ => ?_) | refine And.intro (fun _ => ?_) (fun cd => absurd cd (by decide)) | refine And.intro (fun cd => ?_) (fun cd => ?_)
            exact ⟨y.toInt.toNat, w.toInt.toNat, n.toInt.toNat, by omega, by omega, by omega, (by omega : y.toInt.toNat + n.toInt.toNat ≤ 60), (by omega : w.toInt.toNat + n.toInt.toNat ≤ 60), q0 cn cA cB d1 e1 d3 e3⟩
          · first | refine And.intro (fun cd => absurd cd (by decide)) (fun _ => ?_) | refine And.intro (fun _ => ?_) (fun cd => absurd cd (by decide)) | refine And.intro (fun cd => ?_) (fun cd => ?_)
            exact sp_found 2 rfl (by decide) (q2 cn cA cB (by omega))
        · first | refine And.intro (fun cd => absurd cd (by decide)) (fun _ => ?_) | refine And.intro (fun _ => ?_) (fun cd => absurd cd (by decide)) | refine And.intro (fun cd => ?_) (fun cd => ?_)
          exact sp_found 2 rfl (by decide) (q2 cn cA cB (by omega))
      · exact sp_found 5 rfl (by decide) (hneg 2 2 (by decide) (by decide) hx hz (by omega))
    | 3, _ =>
      refine And.intro (fun cn => ?_) (fun cn => ?_)
      · refine And.intro (fun cA => sp_found 1 rfl (by decide) (q1 cn (Or.inl cA))) (fun cA => ?_)
        refine And.intro (fun cB => ?_) (fun cB => sp_found 1 rfl (by decide) (q1 cn (Or.inr cB)))
        refine sp_holds 2 (by decide) ⟨sa1, sa2⟩ (fun d1 d2 d3 => ?_) (fun d1 => ?_)
        · first | refine And.intro (fun cd => absurd cd (by decide)) (fun _ => ?_) | refine And.intro (fun _ => ?_) (fun cd => absurd cd (by decide)) | refine And.intro (fun cd => ?_) (fun cd => ?_)
          refine sp_holds 3 (by decide) ⟨sb1, sb2⟩ (fun e1 e2 e3 => ?_) (fun e1 => ?_)
          · first | refine And.intro (fun cd => absurd cd (by decide)) (fun _ => ?_) | refine And.intro (fun _ => ?_) (fun cd => absurd cd (by decide)) | refine And.intro (fun cd => ?_) (fun cd => ?_)
            exact ⟨y.toInt.toNat, w.toInt.toNat, n.toInt.toNat, by omega, by omega, by omega, (by omega : y.toInt.toNat + n.toInt.toNat ≤ 60), (by omega : w.toInt.toNat + n.toInt.toNat ≤ 60), q0 cn cA cB d1 e1 d3 e3⟩
          · first | refine And.intro (fun cd => absurd cd (by decide)) (fun _ => ?_) | refine And.intro (fun _ => ?_) (fun cd => absurd cd (by decide)) | refine And.intro (fun cd => ?_) (fun cd => ?_)
            exact sp_found 2 rfl (by decide) (q2 cn cA cB (by omega))
        · first | refine And.intro (fun cd => absurd cd (by decide)) (fun _ => ?_) | refine And.intro (fun _ => ?_) (fun cd => absurd cd (by decide)) | refine And.intro (fun cd => ?_) (fun cd => ?_)
          exact sp_found 2 rfl (by decide) (q2 cn cA cB (by omega))
      · exact sp_found 5 rfl (by decide) (hneg 2 3 (by decide) (by decide) hx hz (by omega))
    | 4, _ =>
      refine And.intro (fun cn => ?_) (fun cn => ?_)
      · refine And.intro (fun cA => sp_found 1 rfl (by decide) (q1 cn (Or.inl cA))) (fun cA => ?_)
        refine And.intro (fun cB => ?_) (fun cB => sp_found 1 rfl (by decide) (q1 cn (Or.inr cB)))
        refine sp_holds 2 (by decide) ⟨sa1, sa2⟩ (fun d1 d2 d3 => ?_) (fun d1 => ?_)
        · first | refine And.intro (fun cd => absurd cd (by decide)) (fun _ => ?_) | refine And.intro (fun _ => ?_) (fun cd => absurd cd (by decide)) | refine And.intro (fun cd => ?_) (fun cd => ?_)
          refine sp_holds 4 (by decide) ⟨sb1, sb2⟩ (fun e1 e2 e3 => ?_) (fun e1 => ?_)
          · first | refine And.intro (fun cd => absurd cd (by decide)) (fun _ => ?_) | refine And.intro (fun _ => ?_) (fun cd => absurd cd (by decide)) | refine And.intro (fun cd => ?_) (fun cd => ?_)
            exact ⟨y.toInt.toNat, w.toInt.toNat, n.toInt.toNat, by omega, by omega, by omega, (by omega : y.toInt.toNat + n.toInt.toNat ≤ 60), (by omega : w.toInt.toNat + n.toInt.toNat ≤ 60), q0 cn cA cB d1 e1 d3 e3⟩
          · first | refine And.intro (fun cd => absurd cd (by decide)) (fun _ => ?_) | refine And.intro (fun _ => ?_) (fun cd => absurd cd (by decide)) | refine And.intro (fun cd => ?_) (fun cd => ?_)
            exact sp_found 2 rfl (by decide) (q2 cn cA cB (by omega))
        · first | refine And.intro (fun cd => absurd cd (by decide)) (fun _ => ?_) | refine And.intro (fun _ => ?_) (fun cd => absurd cd (by decide)) | refine And.intro (fun cd => ?_) (fun cd => ?_)
          exact sp_found 2 rfl (by decide) (q2 cn cA cB (by omega))
      · exact sp_found 5 rfl (by decide) (hneg 2 4 (by decide) (by decide) hx hz (by omega))
    | 5, _ =>
      refine And.intro (fun cn => ?_) (fun cn => ?_)
      · refine And.intro (fun cA => sp_found 1 rfl (by decide) (q1 cn (Or.inl cA))) (fun cA => ?_)
        refine And.intro (fun cB => ?_) (fun cB => sp_found 1 rfl (by decide) (q1 cn (Or.inr cB)))
        refine sp_holds 2 (by decide) ⟨sa1, sa2⟩ (fun d1 d2 d3 => ?_) (fun d1 => ?_)
        · first | refine And.intro (fun cd => absurd cd (by decide)) (fun _ => ?_) | refine And.intro (fun _ => ?_) (fun cd => absurd cd (by decide)) | refine And.intro (fun cd => ?_) (fun cd => ?_)
          refine sp_holds 5 (by decide) ⟨sb1, sb2⟩ (fun e1 e2 e3 => ?_) (fun e1 => ?_)
          · first | refine And.intro (fun cd => absurd cd (by decide)) (fun _ => ?_) | refine And.intro (fun _ => ?_) (fun cd => absurd cd (by decide)) | refine And.intro (fun cd => ?_) (fun cd => ?_)
            exact ⟨y.toInt.toNat, w.toInt.toNat, n.toInt.toNat, by omega, by omega, by omega, (by omega : y.toInt.toNat + n.toInt.toNat ≤ 60), (by omega : w.toInt.toNat + n.toInt.toNat ≤ 60), q0 cn cA cB d1 e1 d3 e3⟩
          · first | refine And.intro (fun cd => absurd cd (by decide)) (fun _ => ?_) | refine And.intro (fun _ => ?_) (fun cd => absurd cd (by decide)) | refine And.intro (fun cd => ?_) (fun cd => ?_)
            exact sp_found 2 rfl (by decide) (q2 cn cA cB (by omega))
        · first | refine And.intro (fun cd => absurd cd (by decide)) (fun _ => ?_) | refine And.intro (fun _ => ?_) (fun cd => absurd cd (by decide)) | refine And.intro (fun cd => ?_) (fun cd => ?_)
          exact sp_found 2 rfl (by decide) (q2 cn cA cB (by omega))
      · exact sp_found 5 rfl (by decide) (hneg 2 5 (by decide) (by decide) hx hz (by omega))
  | 3, _ =>
    refine sp_picked_r z (fun cd => hbad (by omega)) (fun b hb hz => ?_)
    obtain ⟨sa1, sa2⟩ := hs 3 (by decide)
    obtain ⟨sb1, sb2⟩ := hs b hb
    have q1 := h1 3 b (by decide) hb hx hz
    have q2 := h2 3 b (by decide) hb hx hz
    have q0 := h0 3 b (by decide) hb hx hz
    match b, hb with
    | 0, _ =>
      refine And.intro (fun cn => ?_) (fun cn => ?_)
      · refine And.intro (fun cA => sp_found 1 rfl (by decide) (q1 cn (Or.inl cA))) (fun cA => ?_)
        refine And.intro (fun cB => ?_) (fun cB => sp_found 1 rfl (by decide) (q1 cn (Or.inr cB)))
        refine sp_holds 3 (by decide) ⟨sa1, sa2⟩ (fun d1 d2 d3 => ?_) (fun d1 => ?_)
        · first | refine And.intro (fun cd => absurd cd (by decide)) (fun _ => ?_) | refine And.intro (fun _ => ?_) (fun cd => absurd cd (by decide)) | refine And.intro (fun cd => ?_) (fun cd => ?_)
          refine sp_holds 0 (by decide) ⟨sb1, sb2⟩ (fun e1 e2 e3 => ?_) (fun e1 => ?_)
          · first | refine And.intro (fun cd => absurd cd (by decide)) (fun _ => ?_) | refine And.intro (fun _ => ?_) (fun cd => absurd cd (by decide)) | refine And.intro (fun cd => ?_) (fun cd => ?_)
            exact ⟨y.toInt.toNat, w.toInt.toNat, n.toInt.toNat, by omega, by omega, by omega, (by omega : y.toInt.toNat + n.toInt.toNat ≤ 60), (by omega : w.toInt.toNat + n.toInt.toNat ≤ 60), q0 cn cA cB d1 e1 d3 e3⟩
          · first | refine And.intro (fun cd => absurd cd (by decide)) (fun _ => ?_) | refine And.intro (fun _ => ?_) (fun cd => absurd cd (by decide)) | refine And.intro (fun cd => ?_) (fun cd => ?_)
            exact sp_found 2 rfl (by decide) (q2 cn cA cB (by omega))
        · first | refine And.intro (fun cd => absurd cd (by decide)) (fun _ => ?_) | refine And.intro (fun _ => ?_) (fun cd => absurd cd (by decide)) | refine And.intro (fun cd => ?_) (fun cd => ?_)
          exact sp_found 2 rfl (by decide) (q2 cn cA cB (by omega))
      · exact sp_found 5 rfl (by decide) (hneg 3 0 (by decide) (by decide) hx hz (by omega))
    | 1, _ =>
      refine And.intro (fun cn => ?_) (fun cn => ?_)
      · refine And.intro (fun cA => sp_found 1 rfl (by decide) (q1 cn (Or.inl cA))) (fun cA => ?_)
        refine And.intro (fun cB => ?_) (fun cB => sp_found 1 rfl (by decide) (q1 cn (Or.inr cB)))
        refine sp_holds 3 (by decide) ⟨sa1, sa2⟩ (fun d1 d2 d3 => ?_) (fun d1 => ?_)
        · first | refine And.intro (fun cd => absurd cd (by decide)) (fun _ => ?_) | refine And.intro (fun _ => ?_) (fun cd => absurd cd (by decide)) | refine And.intro (fun cd => ?_) (fun cd => ?_)
          refine sp_holds 1 (by decide) ⟨sb1, sb2⟩ (fun e1 e2 e3 => ?_) (fun e1 => ?_)
          · first | refine And.intro (fun cd => absurd cd (by decide)) (fun _ => ?_) | refine And.intro (fun _ => ?_) (fun cd => absurd cd (by decide)) | refine And.intro (fun cd => ?_) (fun cd => ?_)
            exact ⟨y.toInt.toNat, w.toInt.toNat, n.toInt.toNat, by omega, by omega, by omega, (by omega : y.toInt.toNat + n.toInt.toNat ≤ 60), (by omega : w.toInt.toNat + n.toInt.toNat ≤ 60), q0 cn cA cB d1 e1 d3 e3⟩
          · first | refine And.intro (fun cd => absurd cd (by decide)) (fun _ => ?_) | refine And.intro (fun _ => ?_) (fun cd => absurd cd (by decide)) | refine And.intro (fun cd => ?_) (fun cd => ?_)
            exact sp_found 2 rfl (by decide) (q2 cn cA cB (by omega))
        · first | refine And.intro (fun cd => absurd cd (by decide)) (fun _ => ?_) | refine And.intro (fun _ => ?_) (fun cd => absurd cd (by decide)) | refine And.intro (fun cd => ?_) (fun cd => ?_)
          exact sp_found 2 rfl (by decide) (q2 cn cA cB (by omega))
      · exact sp_found 5 rfl (by decide) (hneg 3 1 (by decide) (by decide) hx hz (by omega))
    | 2, _ =>
      refine And.intro (fun cn => ?_) (fun cn => ?_)
      · refine And.intro (fun cA => sp_found 1 rfl (by decide) (q1 cn (Or.inl cA))) (fun cA => ?_)
        refine And.intro (fun cB => ?_) (fun cB => sp_found 1 rfl (by decide) (q1 cn (Or.inr cB)))
        refine sp_holds 3 (by decide) ⟨sa1, sa2⟩ (fun d1 d2 d3 => ?_) (fun d1 => ?_)
        · first | refine And.intro (fun cd => absurd cd (by decide)) (fun _ => ?_) | refine And.intro (fun _ => ?_) (fun cd => absurd cd (by decide)) | refine And.intro (fun cd => ?_) (fun cd => ?_)
          refine sp_holds 2 (by decide) ⟨sb1, sb2⟩ (fun e1 e2 e3 => ?_) (fun e1 => ?_)
          · first | refine And.intro (fun cd => absurd cd (by decide)) (fun _ => ?_) | refine And.intro (fun _ => ?_) (fun cd => absurd cd (by decide)) | refine And.intro (fun cd => ?_) (fun cd => ?_)
            exact ⟨y.toInt.toNat, w.toInt.toNat, n.toInt.toNat, by omega, by omega, by omega, (by omega : y.toInt.toNat + n.toInt.toNat ≤ 60), (by omega : w.toInt.toNat + n.toInt.toNat ≤ 60), q0 cn cA cB d1 e1 d3 e3⟩
          · first | refine And.intro (fun cd => absurd cd (by decide)) (fun _ => ?_) | refine And.intro (fun _ => ?_) (fun cd => absurd cd (by decide)) | refine And.intro (fun cd => ?_) (fun cd => ?_)
            exact sp_found 2 rfl (by decide) (q2 cn cA cB (by omega))
        · first | refine And.intro (fun cd => absurd cd (by decide)) (fun _ => ?_) | refine And.intro (fun _ => ?_) (fun cd => absurd cd (by decide)) | refine And.intro (fun cd => ?_) (fun cd => ?_)
          exact sp_found 2 rfl (by decide) (q2 cn cA cB (by omega))
      · exact sp_found 5 rfl (by decide) (hneg 3 2 (by decide) (by decide) hx hz (by omega))
    | 3, _ =>
      refine And.intro (fun cn => ?_) (fun cn => ?_)
      · refine And.intro (fun cA => sp_found 1 rfl (by decide) (q1 cn (Or.inl cA))) (fun cA => ?_)
        refine And.intro (fun cB => ?_) (fun cB => sp_found 1 rfl (by decide) (q1 cn (Or.inr cB)))
        refine sp_holds 3 (by decide) ⟨sa1, sa2⟩ (fun d1 d2 d3 => ?_) (fun d1 => ?_)
        · first | refine And.intro (fun cd => absurd cd (by decide)) (fun _ => ?_) | refine And.intro (fun _ => ?_) (fun cd => absurd cd (by decide)) | refine And.intro (fun cd => ?_) (fun cd => ?_)
          refine sp_holds 3 (by decide) ⟨sb1, sb2⟩ (fun e1 e2 e3 => ?_) (fun e1 => ?_)
          · first | refine And.intro (fun cd => absurd cd (by decide)) (fun _ => ?_) | refine And.intro (fun _ => ?_) (fun cd => absurd cd (by decide)) | refine And.intro (fun cd => ?_) (fun cd => ?_)
            exact ⟨y.toInt.toNat, w.toInt.toNat, n.toInt.toNat, by omega, by omega, by omega, (by omega : y.toInt.toNat + n.toInt.toNat ≤ 60), (by omega : w.toInt.toNat + n.toInt.toNat ≤ 60), q0 cn cA cB d1 e1 d3 e3⟩
          · first | refine And.intro (fun cd => absurd cd (by decide)) (fun _ => ?_) | refine And.intro (fun _ => ?_) (fun cd => absurd cd (by decide)) | refine And.intro (fun cd => ?_) (fun cd => ?_)
            exact sp_found 2 rfl (by decide) (q2 cn cA cB (by omega))
        · first | refine And.intro (fun cd => absurd cd (by decide)) (fun _ => ?_) | refine And.intro (fun _ => ?_) (fun cd => absurd cd (by decide)) | refine And.intro (fun cd => ?_) (fun cd => ?_)
          exact sp_found 2 rfl (by decide) (q2 cn cA cB (by omega))
      · exact sp_found 5 rfl (by decide) (hneg 3 3 (by decide) (by decide) hx hz (by omega))
    | 4, _ =>
      refine And.intro (fun cn => ?_) (fun cn => ?_)
      · refine And.intro (fun cA => sp_found 1 rfl (by decide) (q1 cn (Or.inl cA))) (fun cA => ?_)
        refine And.intro (fun cB => ?_) (fun cB => sp_found 1 rfl (by decide) (q1 cn (Or.inr cB)))
        refine sp_holds 3 (by decide) ⟨sa1, sa2⟩ (fun d1 d2 d3 => ?_) (fun d1 => ?_)
        · first | refine And.intro (fun cd => absurd cd (by decide)) (fun _ => ?_) | refine And.intro (fun _ => ?_) (fun cd => absurd cd (by decide)) | refine And.intro (fun cd => ?_) (fun cd => ?_)
          refine sp_holds 4 (by decide) ⟨sb1, sb2⟩ (fun e1 e2 e3 => ?_) (fun e1 => ?_)
          · first | refine And.intro (fun cd => absurd cd (by decide)) (fun _ => ?_) | refine And.intro (fun _ => ?_) (fun cd => absurd cd (by decide)) | refine And.intro (fun cd => ?_) (fun cd => ?_)
            exact ⟨y.toInt.toNat, w.toInt.toNat, n.toInt.toNat, by omega, by omega, by omega, (by omega : y.toInt.toNat + n.toInt.toNat ≤ 60), (by omega : w.toInt.toNat + n.toInt.toNat ≤ 60), q0 cn cA cB d1 e1 d3 e3⟩
          · first | refine And.intro (fun cd => absurd cd (by decide)) (fun _ => ?_) | refine And.intro (fun _ => ?_) (fun cd => absurd cd (by decide)) | refine And.intro (fun cd => ?_) (fun cd => ?_)
            exact sp_found 2 rfl (by decide) (q2 cn cA cB (by omega))
        · first | refine And.intro (fun cd => absurd cd (by decide)) (fun _ => ?_) | refine And.intro (fun _ => ?_) (fun cd => absurd cd (by decide)) | refine And.intro (fun cd => ?_) (fun cd => ?_)
          exact sp_found 2 rfl (by decide) (q2 cn cA cB (by omega))
      · exact sp_found 5 rfl (by decide) (hneg 3 4 (by decide) (by decide) hx hz (by omega))
    | 5, _ =>
      refine And.intro (fun cn => ?_) (fun cn => ?_)
      · refine And.intro (fun cA => sp_found 1 rfl (by decide) (q1 cn (Or.inl cA))) (fun cA => ?_)
        refine And.intro (fun cB => ?_) (fun cB => sp_found 1 rfl (by decide) (q1 cn (Or.inr cB)))
        refine sp_holds 3 (by decide) ⟨sa1, sa2⟩ (fun d1 d2 d3 => ?_) (fun d1 => ?_)
        · first | refine And.intro (fun cd => absurd cd (by decide)) (fun _ => ?_) | refine And.intro (fun _ => ?_) (fun cd => absurd cd (by decide)) | refine And.intro (fun cd => ?_) (fun cd => ?_)
          refine sp_holds 5 (by decide) ⟨sb1, sb2⟩ (fun e1 e2 e3 => ?_) (fun e1 => ?_)
          · first | refine And.intro (fun cd => absurd cd (by decide)) (fun _ => ?_) | refine And.intro (fun _ => ?_) (fun cd => absurd cd (by decide)) | refine And.intro (fun cd => ?_) (fun cd => ?_)
            exact ⟨y.toInt.toNat, w.toInt.toNat, n.toInt.toNat, by omega, by omega, by omega, (by omega : y.toInt.toNat + n.toInt.toNat ≤ 60), (by omega : w.toInt.toNat + n.toInt.toNat ≤ 60), q0 cn cA cB d1 e1 d3 e3⟩
          · first | refine And.intro (fun cd => absurd cd (by decide)) (fun _ => ?_) | refine And.intro (fun _ => ?_) (fun cd => absurd cd (by decide)) | refine And.intro (fun cd => ?_) (fun cd => ?_)
            exact sp_found 2 rfl (by decide) (q2 cn cA cB (by omega))
        · first | refine And.intro (fun cd => absurd cd (by decide)) (fun _ => ?_) | refine And.intro (fun _ => ?_) (fun cd => absurd cd (by decide)) | refine And.intro (fun cd => ?_) (fun cd => ?_)
          exact sp_found 2 rfl (by decide) (q2 cn cA cB (by omega))
      · exact sp_found 5 rfl (by decide) (hneg 3 5 (by decide) (by decide) hx hz (by omega))
  | 4, _ =>
    refine sp_picked_r z (fun cd => hbad (by omega)) (fun b hb hz => ?_)
    obtain ⟨sa1, sa2⟩ := hs 4 (by decide)
    obtain ⟨sb1, sb2⟩ := hs b hb
    have q1 := h1 4 b (by decide) hb hx hz
    have q2 := h2 4 b (by decide) hb hx hz
    have q0 := h0 4 b (by decide) hb hx hz
    match b, hb with
    | 0, _ =>
      refine And.intro (fun cn => ?_) (fun cn => ?_)
      · refine And.intro (fun cA => sp_found 1 rfl (by decide) (q1 cn (Or.inl cA))) (fun cA => ?_)
        refine And.intro (fun cB => ?_) (fun cB => sp_found 1 rfl (by decide) (q1 cn (Or.inr cB)))
        refine sp_holds 4 (by decide) ⟨sa1, sa2⟩ (fun d1 d2 d3 => ?_) (fun d1 => ?_)
        · first | refine And.intro (fun cd => absurd cd (by decide)) (fun _ => ?_) | refine And.intro (fun _ => ?_) (fun cd => absurd cd (by decide)) | refine And.intro (fun cd => ?_) (fun cd => ?_)
          refine sp_holds 0 (by decide) ⟨sb1, sb2⟩ (fun e1 e2 e3 => ?_) (fun e1 => ?_)
          · first | refine And.intro (fun cd => absurd cd (by decide)) (fun _ => ?_) | refine And.intro (fun _ => ?_) (fun cd => absurd cd (by decide)) | refine And.intro (fun cd => ?_) (fun cd => ?_)
            exact ⟨y.toInt.toNat, w.toInt.toNat, n.toInt.toNat, by omega, by omega, by omega, (by omega : y.toInt.toNat + n.toInt.toNat ≤ 60), (by omega : w.toInt.toNat + n.toInt.toNat ≤ 60), q0 cn cA cB d1 e1 d3 e3⟩
          · first | refine And.intro (fun cd => absurd cd (by decide)) (fun _ => ?_) | refine And.intro (fun _ => ?_) (fun cd => absurd cd (by decide)) | refine And.intro (fun cd => ?_) (fun cd => ?_)
            exact sp_found 2 rfl (by decide) (q2 cn cA cB (by omega))
        · first | refine And.intro (fun cd => absurd cd (by decide)) (fun _ => ?_) | refine And.intro (fun _ => ?_) (fun cd => absurd cd (by decide)) | refine And.intro (fun cd => ?_) (fun cd => ?_)
          exact sp_found 2 rfl (by decide) (q2 cn cA cB (by omega))
      · exact sp_found 5 rfl (by decide) (hneg 4 0 (by decide) (by decide) hx hz (by omega))
    | 1, _ =>
      refine And.intro (fun cn => ?_) (fun cn => ?_)
      · refine And.intro (fun cA => sp_found 1 rfl (by decide) (q1 cn (Or.inl cA))) (fun cA => ?_)
        refine And.intro (fun cB => ?_) (fun cB => sp_found 1 rfl (by decide) (q1 cn (Or.inr cB)))
        refine sp_holds 4 (by decide) ⟨sa1, sa2⟩ (fun d1 d2 d3 => ?_) (fun d1 => ?_)
        · first | refine And.intro (fun cd => absurd cd (by decide)) (fun _ => ?_) | refine And.intro (fun _ => ?_) (fun cd => absurd cd (by decide)) | refine And.intro (fun cd => ?_) (fun cd => ?_)
          refine sp_holds 1 (by decide) ⟨sb1, sb2⟩ (fun e1 e2 e3 => ?_) (fun e1 => ?_)
          · first | refine And.intro (fun cd => absurd cd (by decide)) (fun _ => ?_) | refine And.intro (fun _ => ?_) (fun cd => absurd cd (by decide)) | refine And.intro (fun cd => ?_) (fun cd => ?_)
            exact ⟨y.toInt.toNat, w.toInt.toNat, n.toInt.toNat, by omega, by omega, by omega, (by omega : y.toInt.toNat + n.toInt.toNat ≤ 60), (by omega : w.toInt.toNat + n.toInt.toNat ≤ 60), q0 cn cA cB d1 e1 d3 e3⟩
          · first | refine And.intro (fun cd => absurd cd (by decide)) (fun _ => ?_) | refine And.intro (fun _ => ?_) (fun cd => absurd cd (by decide)) | refine And.intro (fun cd => ?_) (fun cd => ?_)
            exact sp_found 2 rfl (by decide) (q2 cn cA cB (by omega))
        · first | refine And.intro (fun cd => absurd cd (by decide)) (fun _ => ?_) | refine And.intro (fun _ => ?_) (fun cd => absurd cd (by decide)) | refine And.intro (fun cd => ?_) (fun cd => ?_)
          exact sp_found 2 rfl (by decide) (q2 cn cA cB (by omega))
      · exact sp_found 5 rfl (by decide) (hneg 4 1 (by decide) (by decide) hx hz (by omega))
    | 2, _ =>
      refine And.intro (fun cn => ?_) (fun cn => ?_)
      · refine And.intro (fun cA => sp_found 1 rfl (by decide) (q1 cn (Or.inl cA))) (fun cA => ?_)
        refine And.intro (fun cB => ?_) (fun cB => sp_found 1 rfl (by decide) (q1 cn (Or.inr cB)))
        refine sp_holds 4 (by decide) ⟨sa1, sa2⟩ (fun d1 d2 d3 => ?_) (fun d1 => ?_)
        · first | refine And.intro (fun cd => absurd cd (by decide)) (fun _ => ?_) | refine And.intro (fun _ => ?_) (fun cd => absurd cd (by decide)) | refine And.intro (fun cd => ?_) (fun cd => ?_)
          refine sp_holds 2 (by decide) ⟨sb1, sb2⟩ (fun e1 e2 e3 => ?_) (fun e1 => ?_)
          · first | refine And.intro (fun cd => absurd cd (by decide)) (fun _ => ?_) | refine And.intro (fun _ => ?_) (fun cd => absurd cd (by decide)) | refine And.intro (fun cd => ?_) (fun cd => ?_)
            exact ⟨y.toInt.toNat, w.toInt.toNat, n.toInt.toNat, by omega, by omega, by omega, (by omega : y.toInt.toNat + n.toInt.toNat ≤ 60), (by omega : w.toInt.toNat + n.toInt.toNat ≤ 60), q0 cn cA cB d1 e1 d3 e3⟩
          · first | refine And.intro (fun cd => absurd cd (by decide)) (fun _ => ?_) | refine And.intro (fun _ => ?_) (fun cd => absurd cd (by decide)) | refine And.intro (fun cd => ?_) (fun cd => ?_)
            exact sp_found 2 rfl (by decide) (q2 cn cA cB (by omega))
        · first | refine And.intro (fun cd => absurd cd (by decide)) (fun _ => ?_) | refine And.intro (fun _ => ?_) (fun cd => absurd cd (by decide)) | refine And.intro (fun cd => ?_) (fun cd => ?_)
          exact sp_found 2 rfl (by decide) (q2 cn cA cB (by omega))
      · exact sp_found 5 rfl (by decide) (hneg 4 2 (by decide) (by decide) hx hz (by omega))
    | 3, _ =>
      refine And.intro (fun cn => ?_) (fun cn => ?_)
      · refine And.intro (fun cA => sp_found 1 rfl (by decide) (q1 cn (Or.inl cA))) (fun cA => ?_)
        refine And.intro (fun cB => ?_) (fun cB => sp_found 1 rfl (by decide) (q1 cn (Or.inr cB)))
        refine sp_holds 4 (by decide) ⟨sa1, sa2⟩ (fun d1 d2 d3 => ?_) (fun d1 => ?_)
        · first | refine And.intro (fun cd => absurd cd (by decide)) (fun _ => ?_) | refine And.intro (fun _ => ?_) (fun cd => absurd cd (by decide)) | refine And.intro (fun cd => ?_) (fun cd => ?_)
          refine sp_holds 3 (by decide) ⟨sb1, sb2⟩ (fun e1 e2 e3 => ?_) (fun e1 => ?_)
          · first | refine And.intro (fun cd => absurd cd (by decide)) (fun _ => ?_) | refine And.intro (fun _ => ?_) (fun cd => absurd cd (by decide)) | refine And.intro (fun cd => ?_) (fun cd => ?_)
            exact ⟨y.toInt.toNat, w.toInt.toNat, n.toInt.toNat, by omega, by omega, by omega, (by omega : y.toInt.toNat + n.toInt.toNat ≤ 60), (by omega : w.toInt.toNat + n.toInt.toNat ≤ 60), q0 cn cA cB d1 e1 d3 e3⟩
          · first | refine And.intro (fun cd => absurd cd (by decide)) (fun _ => ?_) | refine And.intro (fun _ => ?_) (fun cd => absurd cd (by decide)) | refine And.intro (fun cd => ?_) (fun cd => ?_)
            exact sp_found 2 rfl (by decide) (q2 cn cA cB (by omega))
        · first | refine And.intro (fun cd => absurd cd (by decide)) (fun _ => ?_) | refine And.intro (fun _ => ?_) (fun cd => absurd cd (by decide)) | refine And.intro (fun cd => ?_) (fun cd => ?_)
          exact sp_found 2 rfl (by decide) (q2 cn cA cB (by omega))
      · exact sp_found 5 rfl (by decide) (hneg 4 3 (by decide) (by decide) hx hz (by omega))
    | 4, _ =>
      refine And.intro (fun cn => ?_) (fun cn => ?_)
      · refine And.intro (fun cA => sp_found 1 rfl (by decide) (q1 cn (Or.inl cA))) (fun cA => ?_)
        refine And.intro (fun cB => ?_) (fun cB => sp_found 1 rfl (by decide) (q1 cn (Or.inr cB)))
        refine sp_holds 4 (by decide) ⟨sa1, sa2⟩ (fun d1 d2 d3 => ?_) (fun d1 => ?_)
        · first | refine And.intro (fun cd => absurd cd (by decide)) (fun _ => ?_) | refine And.intro (fun _ => ?_) (fun cd => absurd cd (by decide)) | refine And.intro (fun cd => ?_) (fun cd => ?_)
          refine sp_holds 4 (by decide) ⟨sb1, sb2⟩ (fun e1 e2 e3 => ?_) (fun e1 => ?_)
          · first | refine And.intro (fun cd => absurd cd (by decide)) (fun _ => ?_) | refine And.intro (fun _ => ?_) (fun cd => absurd cd (by decide)) | refine And.intro (fun cd => ?_) (fun cd => ?_)
            exact ⟨y.toInt.toNat, w.toInt.toNat, n.toInt.toNat, by omega, by omega, by omega, (by omega : y.toInt.toNat + n.toInt.toNat ≤ 60), (by omega : w.toInt.toNat + n.toInt.toNat ≤ 60), q0 cn cA cB d1 e1 d3 e3⟩
          · first | refine And.intro (fun cd => absurd cd (by decide)) (fun _ => ?_) | refine And.intro (fun _ => ?_) (fun cd => absurd cd (by decide)) | refine And.intro (fun cd => ?_) (fun cd => ?_)
            exact sp_found 2 rfl (by decide) (q2 cn cA cB (by omega))
        · first | refine And.intro (fun cd => absurd cd (by decide)) (fun _ => ?_) | refine And.intro (fun _ => ?_) (fun cd => absurd cd (by decide)) | refine And.intro (fun cd => ?_) (fun cd => ?_)
          exact sp_found 2 rfl (by decide) (q2 cn cA cB (by omega))
      · exact sp_found 5 rfl (by decide) (hneg 4 4 (by decide) (by decide) hx hz (by omega))
    | 5, _ =>
      refine And.intro (fun cn => ?_) (fun cn => ?_)
      · refine And.intro (fun cA => sp_found 1 rfl (by decide) (q1 cn (Or.inl cA))) (fun cA => ?_)
        refine And.intro (fun cB => ?_) (fun cB => sp_found 1 rfl (by decide) (q1 cn (Or.inr cB)))
        refine sp_holds 4 (by decide) ⟨sa1, sa2⟩ (fun d1 d2 d3 => ?_) (fun d1 => ?_)
        · first | refine And.intro (fun cd => absurd cd (by decide)) (fun _ => ?_) | refine And.intro (fun _ => ?_) (fun cd => absurd cd (by decide)) | refine And.intro (fun cd => ?_) (fun cd => ?_)
          refine sp_holds 5 (by decide) ⟨sb1, sb2⟩ (fun e1 e2 e3 => ?_) (fun e1 => ?_)
          · first | refine And.intro (fun cd => absurd cd (by decide)) (fun _ => ?_) | refine And.intro (fun _ => ?_) (fun cd => absurd cd (by decide)) | refine And.intro (fun cd => ?_) (fun cd => ?_)
            exact ⟨y.toInt.toNat, w.toInt.toNat, n.toInt.toNat, by omega, by omega, by omega, (by omega : y.toInt.toNat + n.toInt.toNat ≤ 60), (by omega : w.toInt.toNat + n.toInt.toNat ≤ 60), q0 cn cA cB d1 e1 d3 e3⟩
          · first | refine And.intro (fun cd => absurd cd (by decide)) (fun _ => ?_) | refine And.intro (fun _ => ?_) (fun cd => absurd cd (by decide)) | refine And.intro (fun cd => ?_) (fun cd => ?_)
            exact sp_found 2 rfl (by decide) (q2 cn cA cB (by omega))
        · first | refine And.intro (fun cd => absurd cd (by decide)) (fun _ => ?_) | refine And.intro (fun _ => ?_) (fun cd => absurd cd (by decide)) | refine And.intro (fun cd => ?_) (fun cd => ?_)
          exact sp_found 2 rfl (by decide) (q2 cn cA cB (by omega))
      · exact sp_found 5 rfl (by decide) (hneg 4 5 (by decide) (by decide) hx hz (by omega))
  | 5, _ =>
    refine sp_picked_r z (fun cd => hbad (by omega)) (fun b hb hz => ?_)
    obtain ⟨sa1, sa2⟩ := hs 5 (by decide)
    obtain ⟨sb1, sb2⟩ := hs b hb
    have q1 := h1 5 b (by decide) hb hx hz
    have q2 := h2 5 b (by decide) hb hx hz
    have q0 := h0 5 b (by decide) hb hx hz
    match b, hb with
    | 0, _ =>
      refine And.intro (fun cn => ?_) (fun cn => ?_)
      · refine And.intro (fun cA => sp_found 1 rfl (by decide) (q1 cn (Or.inl cA))) (fun cA => ?_)
        refine And.intro (fun cB => ?_) (fun cB => sp_found 1 rfl (by decide) (q1 cn (Or.inr cB)))
        refine sp_holds 5 (by decide) ⟨sa1, sa2⟩ (fun d1 d2 d3 => ?_) (fun d1 => ?_)
        · first | refine And.intro (fun cd => absurd cd (by decide)) (fun _ => ?_) | refine And.intro (fun _ => ?_) (fun cd => absurd cd (by decide)) | refine And.intro (fun cd => ?_) (fun cd => ?_)
          refine sp_holds 0 (by decide) ⟨sb1, sb2⟩ (fun e1 e2 e3 => ?_) (fun e1 => ?_)
          · first | refine And.intro (fun cd => absurd cd (by decide)) (fun _ => ?_) | refine And.intro (fun _ => ?_) (fun cd => absurd cd (by decide)) | refine And.intro (fun cd => ?_) (fun cd => ?_)
            exact ⟨y.toInt.toNat, w.toInt.toNat, n.toInt.toNat, by omega, by omega, by omega, (by omega : y.toInt.toNat + n.toInt.toNat ≤ 60), (by omega : w.toInt.toNat + n.toInt.toNat ≤ 60), q0 cn cA cB d1 e1 d3 e3⟩
          · first | refine And.intro (fun cd => absurd cd (by decide)) (fun _ => ?_) | refine And.intro (fun _ => ?_) (fun cd => absurd cd (by decide)) | refine And.intro (fun cd => ?_) (fun cd => ?_)
            exact sp_found 2 rfl (by decide) (q2 cn cA cB (by omega))
        · first | refine And.intro (fun cd => absurd cd (by decide)) (fun _ => ?_) | refine And.intro (fun _ => ?_) (fun cd => absurd cd (by decide)) | refine And.intro (fun cd => ?_) (fun cd => ?_)
          exact sp_found 2 rfl (by decide) (q2 cn cA cB (by omega))
      · exact sp_found 5 rfl (by decide) (hneg 5 0 (by decide) (by decide) hx hz (by omega))
    | 1, _ =>
      refine And.intro (fun cn => ?_) (fun cn => ?_)
      · refine And.intro (fun cA => sp_found 1 rfl (by decide) (q1 cn (Or.inl cA))) (fun cA => ?_)
        refine And.intro (fun cB => ?_) (fun cB => sp_found 1 rfl (by decide) (q1 cn (Or.inr cB)))
        refine sp_holds 5 (by decide) ⟨sa1, sa2⟩ (fun d1 d2 d3 => ?_) (fun d1 => ?_)
        · first | refine And.intro (fun cd => absurd cd (by decide)) (fun _ => ?_) | refine And.intro (fun _ => ?_) (fun cd => absurd cd (by decide)) | refine And.intro (fun cd => ?_) (fun cd => ?_)
          refine sp_holds 1 (by decide) ⟨sb1, sb2⟩ (fun e1 e2 e3 => ?_) (fun e1 => ?_)
          · first | refine And.intro (fun cd => absurd cd (by decide)) (fun _ => ?_) | refine And.intro (fun _ => ?_) (fun cd => absurd cd (by decide)) | refine And.intro (fun cd => ?_) (fun cd => ?_)
            exact ⟨y.toInt.toNat, w.toInt.toNat, n.toInt.toNat, by omega, by omega, by omega, (by omega : y.toInt.toNat + n.toInt.toNat ≤ 60), (by omega : w.toInt.toNat + n.toInt.toNat ≤ 60), q0 cn cA cB d1 e1 d3 e3⟩
          · first | refine And.intro (fun cd => absurd cd (by decide)) (fun _ => ?_) | refine And.intro (fun _ => ?_) (fun cd => absurd cd (by decide)) | refine And.intro (fun cd => ?_) (fun cd => ?_)
            exact sp_found 2 rfl (by decide) (q2 cn cA cB (by omega))
        · first | refine And.intro (fun cd => absurd cd (by decide)) (fun _ => ?_) | refine And.intro (fun _ => ?_) (fun cd => absurd cd (by decide)) | refine And.intro (fun cd => ?_) (fun cd => ?_)
          exact sp_found 2 rfl (by decide) (q2 cn cA cB (by omega))
      · exact sp_found 5 rfl (by decide) (hneg 5 1 (by decide) (by decide) hx hz (by omega))
    | 2, _ =>
      refine And.intro (fun cn => ?_) (fun cn => ?_)
      · refine And.intro (fun cA => sp_found 1 rfl (by decide) (q1 cn (Or.inl cA))) (fun cA => ?_)
        refine And.intro (fun cB => ?_) (fun cB => sp_found 1 rfl (by decide) (q1 cn (Or.inr cB)))
        refine sp_holds 5 (by decide) ⟨sa1, sa2⟩ (fun d1 d2 d3 => ?_) (fun d1 => ?_)
        · first | refine And.intro (fun cd => absurd cd (by decide)) (fun _ => ?_) | refine And.intro (fun _ => ?_) (fun cd => absurd cd (by decide)) | refine And.intro (fun cd => ?_) (fun cd => ?_)
          refine sp_holds 2 (by decide) ⟨sb1, sb2⟩ (fun e1 e2 e3 => ?_) (fun e1 => ?_)
          · first | refine And.intro (fun cd => absurd cd (by decide)) (fun _ => ?_) | refine And.intro (fun _ => ?_) (fun cd => absurd cd (by decide)) | refine And.intro (fun cd => ?_) (fun cd => ?_)
            exact ⟨y.toInt.toNat, w.toInt.toNat, n.toInt.toNat, by omega, by omega, by omega, (by omega : y.toInt.toNat + n.toInt.toNat ≤ 60), (by omega : w.toInt.toNat + n.toInt.toNat ≤ 60), q0 cn cA cB d1 e1 d3 e3⟩
          · first | refine And.intro (fun cd => absurd cd (by decide)) (fun _ => ?_) | refine And.intro (fun _ => ?_) (fun cd => absurd cd (by decide)) | refine And.intro (fun cd => ?_) (fun cd => ?_)
            exact sp_found 2 rfl (by decide) (q2 cn cA cB (by omega))
        · first | refine And.intro (fun cd => absurd cd (by decide)) (fun _ => ?_) | refine And.intro (fun _ => ?_) (fun cd => absurd cd (by decide)) | refine And.intro (fun cd => ?_) (fun cd => ?_)
          exact sp_found 2 rfl (by decide) (q2 cn cA cB (by omega))
      · exact sp_found 5 rfl (by decide) (hneg 5 2 (by decide) (by decide) hx hz (by omega))
    | 3, _ =>
      refine And.intro (fun cn => ?_) (fun cn => ?_)
      · refine And.intro (fun cA => sp_found 1 rfl (by decide) (q1 cn (Or.inl cA))) (fun cA => ?_)
        refine And.intro (fun cB => ?_) (fun cB => sp_found 1 rfl (by decide) (q1 cn (Or.inr cB)))
        refine sp_holds 5 (by decide) ⟨sa1, sa2⟩ (fun d1 d2 d3 => ?_) (fun d1 => ?_)
        · first | refine And.intro (fun cd => absurd cd (by decide)) (fun _ => ?_) | refine And.intro (fun _ => ?_) (fun cd => absurd cd (by decide)) | refine And.intro (fun cd => ?_) (fun cd => ?_)
          refine sp_holds 3 (by decide) ⟨sb1, sb2⟩ (fun e1 e2 e3 => ?_) (fun e1 => ?_)
          · first | refine And.intro (fun cd => absurd cd (by decide)) (fun _ => ?_) | refine And.intro (fun _ => ?_) (fun cd => absurd cd (by decide)) | refine And.intro (fun cd => ?_) (fun cd => ?_)
            exact ⟨y.toInt.toNat, w.toInt.toNat, n.toInt.toNat, by omega, by omega, by omega, (by omega : y.toInt.toNat + n.toInt.toNat ≤ 60), (by omega : w.toInt.toNat + n.toInt.toNat ≤ 60), q0 cn cA cB d1 e1 d3 e3⟩
          · first | refine And.intro (fun cd => absurd cd (by decide)) (fun _ => ?_) | refine And.intro (fun _ => ?_) (fun cd => absurd cd (by decide)) | refine And.intro (fun cd => ?_) (fun cd => ?_)
            exact sp_found 2 rfl (by decide) (q2 cn cA cB (by omega))
        · first | refine And.intro (fun cd => absurd cd (by decide)) (fun _ => ?_) | refine And.intro (fun _ => ?_) (fun cd => absurd cd (by decide)) | refine And.intro (fun cd => ?_) (fun cd => ?_)
          exact sp_found 2 rfl (by decide) (q2 cn cA cB (by omega))
      · exact sp_found 5 rfl (by decide) (hneg 5 3 (by decide) (by decide) hx hz (by omega))
    | 4, _ =>
      refine And.intro (fun cn => ?_) (fun cn => ?_)
      · refine And.intro (fun cA => sp_found 1 rfl (by decide) (q1 cn (Or.inl cA))) (fun cA => ?_)
        refine And.intro (fun cB => ?_) (fun cB => sp_found 1 rfl (by decide) (q1 cn (Or.inr cB)))
        refine sp_holds 5 (by decide) ⟨sa1, sa2⟩ (fun d1 d2 d3 => ?_) (fun d1 => ?_)
        · first | refine And.intro (fun cd => absurd cd (by decide)) (fun _ => ?_) | refine And.intro (fun _ => ?_) (fun cd => absurd cd (by decide)) | refine And.intro (fun cd => ?_) (fun cd => ?_)
          refine sp_holds 4 (by decide) ⟨sb1, sb2⟩ (fun e1 e2 e3 => ?_) (fun e1 => ?_)
          · first | refine And.intro (fun cd => absurd cd (by decide)) (fun _ => ?_) | refine And.intro (fun _ => ?_) (fun cd => absurd cd (by decide)) | refine And.intro (fun cd => ?_) (fun cd => ?_)
            exact ⟨y.toInt.toNat, w.toInt.toNat, n.toInt.toNat, by omega, by omega, by omega, (by omega : y.toInt.toNat + n.toInt.toNat ≤ 60), (by omega : w.toInt.toNat + n.toInt.toNat ≤ 60), q0 cn cA cB d1 e1 d3 e3⟩
          · first | refine And.intro (fun cd => absurd cd (by decide)) (fun _ => ?_) | refine And.intro (fun _ => ?_) (fun cd => absurd cd (by decide)) | refine And.intro (fun cd => ?_) (fun cd => ?_)
            exact sp_found 2 rfl (by decide) (q2 cn cA cB (by omega))
        · first | refine And.intro (fun cd => absurd cd (by decide)) (fun _ => ?_) | refine And.intro (fun _ => ?_) (fun cd => absurd cd (by decide)) | refine And.intro (fun cd => ?_) (fun cd => ?_)
          exact sp_found 2 rfl (by decide) (q2 cn cA cB (by omega))
      · exact sp_found 5 rfl (by decide) (hneg 5 4 (by decide) (by decide) hx hz (by omega))
    | 5, _ =>
      refine And.intro (fun cn => ?_) (fun cn => ?_)
      · refine And.intro (fun cA => sp_found 1 rfl (by decide) (q1 cn (Or.inl cA))) (fun cA => ?_)
        refine And.intro (fun cB => ?_) (fun cB => sp_found 1 rfl (by decide) (q1 cn (Or.inr cB)))
        refine sp_holds 5 (by decide) ⟨sa1, sa2⟩ (fun d1 d2 d3 => ?_) (fun d1 => ?_)
        · first | refine And.intro (fun cd => absurd cd (by decide)) (fun _ => ?_) | refine And.intro (fun _ => ?_) (fun cd => absurd cd (by decide)) | refine And.intro (fun cd => ?_) (fun cd => ?_)
          refine sp_holds 5 (by decide) ⟨sb1, sb2⟩ (fun e1 e2 e3 => ?_) (fun e1 => ?_)
          · first | refine And.intro (fun cd => absurd cd (by decide)) (fun _ => ?_) | refine And.intro (fun _ => ?_) (fun cd => absurd cd (by decide)) | refine And.intro (fun cd => ?_) (fun cd => ?_)
            exact ⟨y.toInt.toNat, w.toInt.toNat, n.toInt.toNat, by omega, by omega, by omega, (by omega : y.toInt.toNat + n.toInt.toNat ≤ 60), (by omega : w.toInt.toNat + n.toInt.toNat ≤ 60), q0 cn cA cB d1 e1 d3 e3⟩
          · first | refine And.intro (fun cd => absurd cd (by decide)) (fun _ => ?_) | refine And.intro (fun _ => ?_) (fun cd => absurd cd (by decide)) | refine And.intro (fun cd => ?_) (fun cd => ?_)
            exact sp_found 2 rfl (by decide) (q2 cn cA cB (by omega))
        · first | refine And.intro (fun cd => absurd cd (by decide)) (fun _ => ?_) | refine And.intro (fun _ => ?_) (fun cd => absurd cd (by decide)) | refine And.intro (fun cd => ?_) (fun cd => ?_)
          exact sp_found 2 rfl (by decide) (q2 cn cA cB (by omega))
      · exact sp_found 5 rfl (by decide) (hneg 5 5 (by decide) (by decide) hx hz (by omega))
end PC

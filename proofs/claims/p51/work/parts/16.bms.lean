/-! the steady machine's step is the small machine's (written by program) -/
theorem am_ld_mono {f g : Value → Prop} (hm : ∀ v, f v → g v) : ∀ (ls : am_L) (i : Nat), am_ld ls i f → am_ld ls i g
  | [], _, h => by cases h
  | none :: _, 0, h => by cases h
  | some v :: _, 0, h => hm v h
  | none :: r, i + 1, h => am_ld_mono hm r i h
  | some _ :: r, i + 1, h => am_ld_mono hm r i h
theorem am_set_mono : ∀ (ls : am_L) (i : Nat) (v : Value) {f g : am_L → Prop}, (∀ l, f l → g l) → am_set ls i v f → am_set ls i v g
  | [], _, _, _, _, _, h => by cases h
  | _ :: r, 0, v, _, _, hm, h => hm _ h
  | a :: r, 1, v, _, _, hm, h => am_set_mono r 0 v (fun l => hm _) h
  | a :: r, j + 2, v, _, _, hm, h => am_set_mono r (j + 1) v (fun l => hm _) h
theorem am_setL_mono : ∀ (ls : am_L) (i : Nat) (v : Value) {f g : am_L → Prop}, (∀ l, f l → g l) → am_setL ls i v f → am_setL ls i v g
  | [], _, _, _, _, _, h => by cases h
  | [_], 0, v, _, _, hm, h => by cases h
  | _ :: _ :: r, 0, v, _, _, hm, h => hm _ h
  | a :: r, 1, v, _, _, hm, h => am_setL_mono r 0 v (fun l => hm _) h
  | a :: r, j + 2, v, _, _, hm, h => am_setL_mono r (j + 1) v (fun l => hm _) h
theorem am_i_mono {v : Value} {f g : Int32 → Prop} (hm : ∀ x, f x → g x) (h : am_i v f) : am_i v g := by
  obtain ⟨x, rfl, h⟩ := am_i_spec h
  exact hm _ h
theorem am_l_mono {v : Value} {f g : Int64 → Prop} (hm : ∀ x, f x → g x) (h : am_l v f) : am_l v g := by
  obtain ⟨x, rfl, h⟩ := am_l_spec h
  exact hm _ h
theorem am_a_mono {v : Value} {f g : Prop} (hm : f → g) (h : am_a v f) : am_a v g := by
  cases v <;> first | exact hm h | exact h.elim
theorem am_pv_mono {st : List Value} {f g : Value → List Value → Prop} (hm : ∀ v r, f v r → g v r) (h : am_pv st f) : am_pv st g := by
  obtain ⟨v, r, rfl, h⟩ := am_pv_spec h
  exact hm _ _ h
theorem am_pi_mono {st : List Value} {f g : Int32 → List Value → Prop} (hm : ∀ v r, f v r → g v r) (h : am_pi st f) : am_pi st g := by
  obtain ⟨v, r, rfl, h⟩ := am_pi_spec h
  exact hm _ _ h
theorem am_pl_mono {st : List Value} {f g : Int64 → List Value → Prop} (hm : ∀ v r, f v r → g v r) (h : am_pl st f) : am_pl st g := by
  obtain ⟨v, r, rfl, h⟩ := am_pl_spec h
  exact hm _ _ h
theorem am_pr_mono {st : List Value} {f g : Nat → List Value → Prop} (hm : ∀ v r, f v r → g v r) (h : am_pr st f) : am_pr st g := by
  obtain ⟨v, r, rfl, h⟩ := am_pr_spec h
  exact hm _ _ h
theorem am_cat1_mono {v : Value} {f g : Prop} (hm : f → g) (h : am_cat1 v f) : am_cat1 v g := by
  cases v <;> first | exact hm h | exact h.elim
theorem am_if_mono {c d : Bool} {f g : Prop} (hc : c = true → d = true) (hm : f → g) (h : am_if c f) : am_if d g := by
  obtain ⟨e, h⟩ := am_if_spec h
  rw [hc e]
  exact hm h
theorem am_rv_mono {o : Option Nat} {f g : Value → Prop} (hm : ∀ v, f v → g v) (h : am_rv o f) : am_rv o g := by
  cases o <;> exact hm _ h
theorem am_nl_mono {v : Value} {f g f' g' : Prop} (hf : f → f') (hg : g → g') (h : am_nl v f g) : am_nl v f' g' := by
  cases v <;> first | exact hf h | exact hg h | exact h.elim
theorem am_arr_mono {v : Value} {f f' : Prop} {g g' : Nat → Prop} (hf : f → f') (hg : ∀ o, g o → g' o) (h : am_arr v f g) : am_arr v f' g' := by
  cases v <;> first | exact hf h | exact hg _ h | exact h.elim
theorem am_take_mono {f g : List Value → List Value → Prop} (hm : ∀ a r, f a r → g a r) : ∀ (n : Nat) (st acc : List Value), am_take n st acc f → am_take n st acc g
  | 0, st, acc, h => hm _ _ h
  | n + 1, [], acc, h => by cases h
  | n + 1, v :: st, acc, h => am_take_mono hm n st (v :: acc) h
theorem am_gv_mono {ty : Nat} {A B C A' B' C' : Prop} (ha : A → A') (hb : B → B') (hc : C → C') (h : am_gv ty A B C) : am_gv ty A' B' C' := by
  unfold am_gv at h ⊢
  split at h
  · exact ha h
  · exact hb h
  · exact hc h
theorem am_pty_mono {ty : Nat} {A B C D A' B' C' D' : Prop} (ha : A → A') (hb : B → B') (hc : C → C') (hd : D → D') (h : am_pty ty A B C D) : am_pty ty A' B' C' D' := by
  unfold am_pty at h ⊢
  split at h
  · exact ha h
  · exact hb h
  · exact hc h
  · exact hd h
  · exact h
theorem am_bz_mono {a : Nat} {x : Int32} {A B : Prop} (h : A → B) (q : am_bz a x A) : am_bz a x B := by
  unfold am_bz at q ⊢
  split at q
  · exact h q
  · exact ⟨q.1, h q.2⟩
theorem bm_sh_mono {nc : Nat} (hn : 61 ≤ nc) {t : am_T} {I : am_I} {L : am_J} {a : Nat} {f g : Nat → Nat → Prop} (hm : ∀ u n, f u n → g u n) (h : bm_sh a f) : am_sh (am_st nc t I L) a g := by
  unfold bm_sh at h
  unfold am_sh
  cases hb : Nat.ble (a + 1) 61 with
  | true =>
    rw [hb] at h
    have e : Nat.ble (a + 1) (am_st nc t I L).1.1 = true := Nat.ble_eq_true_of_le (Nat.le_trans (Nat.le_of_ble_eq_true hb) hn)
    rw [e]
    exact hm _ _ h
  | false => rw [hb] at h; exact h.elim
theorem bm_pR_mono {nc : Nat} {t : am_T} {I : am_I} {L : am_J} {o b p : Nat} {f : am_T → Prop} {g : am_S → Prop} (hm : ∀ t', f t' → g (am_st nc t' I L)) (h : bm_pR t o b p f) : g (am_uR (am_st nc t I L) o b (some p)) := by
  have key : ∀ t' : am_T, (∀ x y, am_RR t' x y = if x = o ∧ y = b then some p else am_RR t x y) → am_uR (am_st nc t I L) o b (some p) = am_st nc t' I L := by
    intro t' ht
    have e : (fun x y => if x = o ∧ y = b then some p else am_RR t x y) = am_RR t' := by
      funext x y
      exact (ht x y).symm
    show ((nc, am_SH), I, L, fun x y => if x = o ∧ y = b then some p else am_RR t x y) = am_st nc t' I L
    rw [e]
    rfl
  have beqT : ∀ {a b : Nat}, Nat.beq a b = true → a = b := fun h => Nat.eq_of_beq_eq_true h
  unfold bm_pR at h
  split at h
  · rename_i e
    obtain ⟨e1, e2⟩ := am_and e
    obtain rfl := beqT e1
    obtain rfl := beqT e2
    rw [key _ ?_]
    · exact hm _ h
    · intro x y
      unfold am_RR
      by_cases hx : x = 3 ∧ y = 8
      · obtain ⟨rfl, rfl⟩ := hx
        rfl
      · rw [if_neg hx]
        have : (Nat.beq x 3 && Nat.beq y 8) = false := by
          cases hb : (Nat.beq x 3 && Nat.beq y 8) with
          | false => rfl
          | true => obtain ⟨q1, q2⟩ := am_and hb; exact absurd ⟨beqT q1, beqT q2⟩ hx
        rw [this]
        rfl
  · split at h
    · rename_i e
      obtain ⟨e1, e2⟩ := am_and e
      obtain rfl := beqT e1
      obtain rfl := beqT e2
      rw [key _ ?_]
      · exact hm _ h
      · intro x y
        unfold am_RR
        by_cases hx : x = 25 ∧ y = 2
        · obtain ⟨rfl, rfl⟩ := hx
          rfl
        · rw [if_neg hx]
          have : (Nat.beq x 25 && Nat.beq y 2) = false := by
            cases hb : (Nat.beq x 25 && Nat.beq y 2) with
            | false => rfl
            | true => obtain ⟨q1, q2⟩ := am_and hb; exact absurd ⟨beqT q1, beqT q2⟩ hx
          rw [this]
          rfl
    · split at h
      · rename_i e
        obtain ⟨e1, e2⟩ := am_and e
        obtain rfl := beqT e1
        obtain rfl := beqT e2
        rw [key _ ?_]
        · exact hm _ h
        · intro x y
          unfold am_RR
          by_cases hx : x = 25 ∧ y = 5
          · obtain ⟨rfl, rfl⟩ := hx
            rfl
          · rw [if_neg hx]
            have : (Nat.beq x 25 && Nat.beq y 5) = false := by
              cases hb : (Nat.beq x 25 && Nat.beq y 5) with
              | false => rfl
              | true => obtain ⟨q1, q2⟩ := am_and hb; exact absurd ⟨beqT q1, beqT q2⟩ hx
            rw [this]
            rfl
      · exact h.elim
theorem bm_vin {p : Int32} {k n : Nat} (h : p.toInt = (k : Int)) (hk : k < n) : vp_in p n ∧ p.toNatClampNeg = k := by
  refine ⟨vp_in_iff.mpr ⟨by omega, by omega⟩, ?_⟩
  show p.toInt.toNat = k
  rw [h]
  rfl
theorem bm_nn {p : Int32} {k : Nat} (h : p.toInt = (k : Int)) : ¬ p < 0 ∧ p.toNatClampNeg = k := by
  refine ⟨fun q => ?_, ?_⟩
  · have q2 := Int32.lt_iff_toInt_lt.mp q
    have : (0 : Int32).toInt = 0 := rfl
    omega
  · show p.toInt.toNat = k
    rw [h]
    rfl
theorem bm_eq {p q : Int32} : p.toInt = q.toInt ↔ p = q := Int32.toInt_inj
theorem bm_eq0 {p : Int32} : p.toInt = 0 ↔ p = 0 := by
  rw [show (0 : Int) = (0 : Int32).toInt from rfl]
  exact Int32.toInt_inj
theorem bm_lt {p q : Int32} : p.toInt < q.toInt ↔ p < q := Int32.lt_iff_toInt_lt.symm
theorem bm_le {p q : Int32} : p.toInt ≤ q.toInt ↔ p ≤ q := Int32.le_iff_toInt_le.symm
theorem bm_sw {J K : Nat → Prop} (hm : ∀ t, J t → K t) {x : Int32} {d : Nat} : ∀ (sw : List (Int32 × Nat)), bm_swP J x.toInt d sw → am_swP K x d sw
  | [], h => hm _ h
  | (v, t) :: r, h => ⟨fun e => hm _ (h.1 (bm_eq.mpr e)), fun e => bm_sw hm r (h.2 (fun q => e (bm_eq.mp q)))⟩
theorem bm_max {p q : Int32} : (if p < q then q else p).toInt = max p.toInt q.toInt := by
  by_cases h : p < q
  · rw [if_pos h]
    have := bm_lt.mpr h
    omega
  · rw [if_neg h]
    have : ¬ p.toInt < q.toInt := fun e => h (bm_lt.mp e)
    omega
theorem bm_min {p q : Int32} : (if q < p then q else p).toInt = min p.toInt q.toInt := by
  by_cases h : q < p
  · rw [if_pos h]
    have := bm_lt.mpr h
    omega
  · rw [if_neg h]
    have : ¬ q.toInt < p.toInt := fun e => h (bm_lt.mp e)
    omega
theorem bm_WP_of {nc : Nat} (hn : 61 ≤ nc) (hn2 : nc ≤ 81) {G : am_G} {l : Launch} {a : Nat} {As : List Value} {t : am_T} {I : am_I} {L : am_J} {K : bm_P} {K' : Option Value → am_S → Prop} (h0 : am_al a = (0, 0)) (h : bm_C G l a As t I L K) (hk : ∀ v t I L, K v t I L → K' v (am_st nc t I L)) : am_WPm G l a As (am_st nc t I L) K' := by
  have h := h nc hn hn2
  unfold bm_Q at h
  rw [h0] at h
  refine am_WP.mono h ?_
  rintro v g ⟨t', I', L', rfl, q⟩
  exact hk _ _ _ _ q
theorem bm_al0 {a : Nat} (h1 : Nat.beq (am_al a).1 0 = true) (h2 : Nat.beq (am_al a).2 0 = true) : am_al a = (0, 0) := by
  have e1 := Nat.eq_of_beq_eq_true h1
  have e2 := Nat.eq_of_beq_eq_true h2
  generalize am_al a = q at e1 e2
  obtain ⟨q1, q2⟩ := q
  cases e1
  cases e2
  rfl
theorem bm_bler (n : Nat) : Nat.ble n n = true := Nat.ble_eq_true_of_le (Nat.le_refl n)
theorem bm_adl {c k : Nat} (h : k = 0) : am_ad c k = c := by rw [h]; rfl
set_option maxHeartbeats 4000000 in
theorem bm_sound {G : am_G} {l : Launch} {m pc : Nat} {J : Nat → am_L → List Value → am_T → am_I → am_J → Prop} {C : Nat → List Value → am_T → am_I → am_J → bm_P → Prop} {Q : bm_P} {ls : am_L} {st : List Value} {t : am_T} {I : am_I} {L : am_J} (hok : am_okM m)
    (hJ : ∀ (pc : Nat) (ls : am_L) (st : List Value) (t : am_T) (I : am_I) (L : am_J), J pc ls st t I L → bm_W G l m pc ls st t I L Q)
    (hCl : ∀ (a : Nat) (As : List Value) (t : am_T) (I : am_I) (L : am_J) (K : bm_P), C a As t I L K → bm_C G l a As t I L K) {en : am_E} (hen : am_code m pc = some en) (h : bm_step G m J C Q en ls st t I L) : bm_W G l m pc ls st t I L Q := by
  intro nc hn hn2
  refine am_sound (J := fun pc ls st c k g => c = (am_al m).1 ∧ k = (am_al m).2 ∧ ∃ t I L, g = am_st nc t I L ∧ J pc ls st t I L) (C := fun a As g K => am_al a = (0, 0) ∧ ∃ t I L K', g = am_st nc t I L ∧ C a As t I L K' ∧ ∀ v t I L, K' v t I L → K v (am_st nc t I L)) hok ?_ ?_ hen ?_
  · rintro pc ls st c k g ⟨rfl, rfl, t, I, L, rfl, hj⟩
    exact hJ _ _ _ _ _ _ hj nc hn hn2
  · rintro a As g K ⟨h0, t, I, L, K', rfl, hc, hk⟩
    exact bm_WP_of hn hn2 h0 (hCl _ _ _ _ _ _ hc) hk
  clear hen
  have jj : ∀ {pc : Nat} {ls : am_L} {st : List Value} {t : am_T} {I : am_I} {L : am_J}, J pc ls st t I L → (am_al m).1 = (am_al m).1 ∧ (am_al m).2 = (am_al m).2 ∧ ∃ t' I' L', am_st nc t I L = am_st nc t' I' L' ∧ J pc ls st t' I' L' := fun h => ⟨rfl, rfl, _, _, _, rfl, h⟩
  obtain ⟨cut, i, nx, tg, a, b, x, y, sw⟩ := en
  cases i with
  | aconst_null =>
    exact jj h
  | iconst _ =>
    exact jj h
  | bipush _ =>
    exact jj h
  | sipush _ =>
    exact jj h
  | ldc _ =>
    exact jj h
  | ldc_w _ =>
    exact jj h
  | lconst _ =>
    exact jj h
  | ldc2_w _ =>
    exact jj h
  | goto _ =>
    exact jj h
  | iload n =>
    exact am_ld_mono (fun v h => am_i_mono (fun z h => jj h) h) _ _ h
  | iload_n n =>
    exact am_ld_mono (fun v h => am_i_mono (fun z h => jj h) h) _ _ h
  | lload n =>
    exact am_ld_mono (fun v h => am_l_mono (fun z h => jj h) h) _ _ h
  | lload_n n =>
    exact am_ld_mono (fun v h => am_l_mono (fun z h => jj h) h) _ _ h
  | aload n =>
    exact am_ld_mono (fun v h => am_a_mono (fun h => jj h) h) _ _ h
  | aload_n n =>
    exact am_ld_mono (fun v h => am_a_mono (fun h => jj h) h) _ _ h
  | istore n =>
    exact am_pi_mono (fun z r h => am_set_mono _ _ _ (fun l h => jj h) h) h
  | istore_n n =>
    exact am_pi_mono (fun z r h => am_set_mono _ _ _ (fun l h => jj h) h) h
  | lstore n =>
    exact am_pl_mono (fun z r h => am_setL_mono _ _ _ (fun l h => jj h) h) h
  | lstore_n n =>
    exact am_pl_mono (fun z r h => am_setL_mono _ _ _ (fun l h => jj h) h) h
  | astore n =>
    exact am_pv_mono (fun z r h => am_a_mono (fun h => am_set_mono _ _ _ (fun l h => jj h) h) h) h
  | astore_n n =>
    exact am_pv_mono (fun z r h => am_a_mono (fun h => am_set_mono _ _ _ (fun l h => jj h) h) h) h
  | iinc n _ =>
    exact am_ld_mono (fun v h => am_i_mono (fun z h => am_set_mono _ _ _ (fun l h => jj h) h) h) _ _ h
  | iadd =>
    exact am_pi_mono (fun q r h => am_pi_mono (fun p r h => jj h) h) h
  | isub =>
    exact am_pi_mono (fun q r h => am_pi_mono (fun p r h => jj h) h) h
  | imul =>
    exact am_pi_mono (fun q r h => am_pi_mono (fun p r h => jj h) h) h
  | iand =>
    exact am_pi_mono (fun q r h => am_pi_mono (fun p r h => jj h) h) h
  | ior =>
    exact am_pi_mono (fun q r h => am_pi_mono (fun p r h => jj h) h) h
  | ixor =>
    exact am_pi_mono (fun q r h => am_pi_mono (fun p r h => jj h) h) h
  | ishl =>
    exact am_pi_mono (fun q r h => am_pi_mono (fun p r h => jj h) h) h
  | ishr =>
    exact am_pi_mono (fun q r h => am_pi_mono (fun p r h => jj h) h) h
  | iushr =>
    exact am_pi_mono (fun q r h => am_pi_mono (fun p r h => jj h) h) h
  | idiv =>
    exact am_pi_mono (fun q r h => am_pi_mono (fun p r h => ⟨fun e => h.1 (bm_eq0.mpr e), jj h.2⟩) h) h
  | irem =>
    exact am_pi_mono (fun q r h => am_pi_mono (fun p r h => ⟨fun e => h.1 (bm_eq0.mpr e), jj h.2⟩) h) h
  | ineg =>
    exact am_pi_mono (fun q r h => jj h) h
  | i2l =>
    exact am_pi_mono (fun q r h => jj h) h
  | i2b =>
    exact am_pi_mono (fun q r h => jj h) h
  | l2i =>
    exact am_pl_mono (fun q r h => jj h) h
  | ladd =>
    exact am_pl_mono (fun q r h => am_pl_mono (fun p r h => jj h) h) h
  | lmul =>
    exact am_pl_mono (fun q r h => am_pl_mono (fun p r h => jj h) h) h
  | lcmp =>
    exact am_pl_mono (fun q r h => am_pl_mono (fun p r h => jj h) h) h
  | ldiv =>
    exact am_pl_mono (fun q r h => am_pl_mono (fun p r h => ⟨h.1, jj h.2⟩) h) h
  | lrem =>
    exact am_pl_mono (fun q r h => am_pl_mono (fun p r h => ⟨h.1, jj h.2⟩) h) h
  | dup =>
    exact am_pv_mono (fun v r h => am_cat1_mono (fun h => jj h) h) h
  | pop =>
    exact am_pv_mono (fun v r h => am_cat1_mono (fun h => jj h) h) h
  | dup2 =>
    exact am_pv_mono (fun v r h => am_cat1_mono (fun h => am_pv_mono (fun w r h => am_cat1_mono (fun h => jj h) h) h) h) h
  | ifCond d _ =>
    refine am_pi_mono (fun p r h => ?_) h
    cases d with
      | eq => exact ⟨fun e => jj (h.1 (bm_eq0.mpr e)), fun e => jj (h.2 (fun q => e (bm_eq0.mp q)))⟩
      | ne => exact ⟨fun e => jj (h.1 (fun q => e (bm_eq0.mp q))), fun e => jj (h.2 (bm_eq0.mpr e))⟩
      | lt => exact ⟨fun e => jj (h.1 (bm_lt.mpr e)), fun e => jj (h.2 (Int.not_lt.mp (fun q => e (bm_lt.mp q))))⟩
      | ge => exact ⟨fun e => jj (h.1 (bm_le.mpr e)), fun e => jj (h.2 (Int.not_le.mp (fun q => e (bm_le.mp q))))⟩
      | gt => exact ⟨fun e => jj (h.1 (bm_lt.mpr e)), fun e => jj (h.2 (Int.not_lt.mp (fun q => e (bm_lt.mp q))))⟩
      | le => exact ⟨fun e => jj (h.1 (bm_le.mpr e)), fun e => jj (h.2 (Int.not_le.mp (fun q => e (bm_le.mp q))))⟩
  | if_icmp d _ =>
    refine am_pi_mono (fun q r h => am_pi_mono (fun p r h => ?_) h) h
    cases d with
      | eq => exact ⟨fun e => jj (h.1 (bm_eq.mpr e)), fun e => jj (h.2 (fun q => e (bm_eq.mp q)))⟩
      | ne => exact ⟨fun e => jj (h.1 (fun q => e (bm_eq.mp q))), fun e => jj (h.2 (bm_eq.mpr e))⟩
      | lt => exact ⟨fun e => jj (h.1 (bm_lt.mpr e)), fun e => jj (h.2 (Int.not_lt.mp (fun q => e (bm_lt.mp q))))⟩
      | ge => exact ⟨fun e => jj (h.1 (bm_le.mpr e)), fun e => jj (h.2 (Int.not_le.mp (fun q => e (bm_le.mp q))))⟩
      | gt => exact ⟨fun e => jj (h.1 (bm_lt.mpr e)), fun e => jj (h.2 (Int.not_lt.mp (fun q => e (bm_lt.mp q))))⟩
      | le => exact ⟨fun e => jj (h.1 (bm_le.mpr e)), fun e => jj (h.2 (Int.not_le.mp (fun q => e (bm_le.mp q))))⟩
  | ifnull _ =>
    exact am_pv_mono (fun v r h => am_nl_mono (fun h => jj h) (fun h => jj h) h) h
  | ifnonnull _ =>
    exact am_pv_mono (fun v r h => am_nl_mono (fun h => jj h) (fun h => jj h) h) h
  | tableswitch _ _ _ _ =>
    exact am_pi_mono (fun p r h => bm_sw (fun t h => jj h) _ h) h
  | lookupswitch _ _ =>
    exact am_pi_mono (fun p r h => bm_sw (fun t h => jj h) _ h) h
  | getfield _ =>
    exact am_pr_mono (fun o r h => bm_sh_mono hn (fun u n h => am_if_mono (fun e => e) (fun h => am_gv_mono (fun h => jj h) (fun h => am_rv_mono (fun v h => jj h) h) (fun h => jj h) h) h) h) h
  | putfield _ =>
    exact am_pty_mono
      (fun h => am_pi_mono (fun p r h => am_pr_mono (fun o r h => bm_sh_mono hn (fun u n h => am_if_mono (fun e => e) (fun h => jj h) h) h) h) h)
      (fun h => am_pi_mono (fun p r h => am_pr_mono (fun o r h => bm_sh_mono hn (fun u n h => am_if_mono (fun e => e) (fun h => ⟨h.1, jj h.2⟩) h) h) h) h)
      (fun h => am_pl_mono (fun p r h => am_pr_mono (fun o r h => bm_sh_mono hn (fun u n h => am_if_mono (fun e => e) (fun h => jj h) h) h) h) h)
      (fun h => am_pr_mono (fun p r h => am_pr_mono (fun o r h => bm_sh_mono hn (fun u n h => am_if_mono (fun e => e) (fun h => bm_pR_mono (g := fun s => (am_al m).1 = (am_al m).1 ∧ (am_al m).2 = (am_al m).2 ∧ ∃ t' I' L', s = am_st nc t' I' L' ∧ J nx ls r t' I' L') (fun t' h => jj h) h) h) h) h) h) h
  | iaload =>
    exact am_pi_mono (fun p r h => am_pv_mono (fun v r h => am_arr_mono (fun h => by obtain ⟨k, e1, e2, h⟩ := h; obtain ⟨f1, rfl⟩ := bm_vin e1 e2; exact ⟨f1, jj h⟩) (fun o h => bm_sh_mono hn (fun u n h => am_if_mono (fun e => e) (fun h => by obtain ⟨k, e1, e2, h⟩ := h; obtain ⟨f1, rfl⟩ := bm_vin e1 e2; exact ⟨f1, jj h⟩) h) h) h) h) h
  | aaload =>
    exact am_pi_mono (fun p r h => am_pr_mono (fun o r h => bm_sh_mono hn (fun u n h => am_if_mono (fun e => e) (fun h => by obtain ⟨k, e1, e2, h⟩ := h; obtain ⟨f1, rfl⟩ := bm_vin e1 e2; exact ⟨f1, am_rv_mono (fun v h => jj h) h⟩) h) h) h) h
  | iastore =>
    exact am_pi_mono (fun z r h => am_pi_mono (fun p r h => am_pr_mono (fun o r h => bm_sh_mono hn (fun u n h => am_if_mono (fun e => e) (fun h => by obtain ⟨k, e1, e2, h⟩ := h; obtain ⟨f1, rfl⟩ := bm_vin e1 e2; exact ⟨f1, jj h⟩) h) h) h) h) h
  | arraylength =>
    exact am_pv_mono (fun v r h => am_arr_mono (fun h => jj h) (fun o h => bm_sh_mono hn (fun u n h => am_if_mono (fun e => e) (fun h => jj h) h) h) h) h
  | invokestatic idx =>
    have dflt : (am_take b st [] fun As r => am_if (Nat.ble (am_cats r) 8 && Nat.ble (am_cats As) (am_ml a) && Nat.ble ((am_al m).1 + (am_al a).1) (am_cap m).1 && Nat.ble ((am_al m).2 + (am_al a).2) (am_cap m).2 && Nat.beq (am_al a).1 0 && Nat.beq (am_al a).2 0) (C a As t I L fun v t' I' L' => J nx ls (am_bk v r) t' I' L')) →
        am_take b st [] fun As r => am_if (Nat.ble (am_cats r) 8 && Nat.ble (am_cats As) (am_ml a) && Nat.ble ((am_al m).1 + (am_al a).1) (am_cap m).1 && Nat.ble ((am_al m).2 + (am_al a).2) (am_cap m).2) (am_al a = (0, 0) ∧ ∃ t' I' L' K', am_st nc t I L = am_st nc t' I' L' ∧ C a As t' I' L' K' ∧ ∀ v t I L, K' v t I L → am_ad (am_al m).1 (am_al a).1 = (am_al m).1 ∧ am_ad (am_al m).2 (am_al a).2 = (am_al m).2 ∧ ∃ t' I' L', am_st nc t I L = am_st nc t' I' L' ∧ J nx ls (am_bk v r) t' I' L') := by
      intro h
      refine am_take_mono (fun As r h => ?_) _ _ _ h
      obtain ⟨e, h⟩ := am_if_spec h
      obtain ⟨e, e6⟩ := am_and e
      obtain ⟨e, e5⟩ := am_and e
      rw [e]
      refine ⟨bm_al0 e5 e6, _, _, _, _, rfl, h, fun v t I L h => ?_⟩
      have z1 : (am_al a).1 = 0 := Nat.eq_of_beq_eq_true e5
      have z2 : (am_al a).2 = 0 := Nat.eq_of_beq_eq_true e6
      rw [bm_adl z1, bm_adl z2]
      exact jj h
    by_cases a0 : a = 1000
    · subst a0
      exact am_pi_mono (fun q r h => am_pi_mono (fun p r h => am_if_mono (fun e => e) (fun h => jj (h _ bm_max)) h) h) h
    · by_cases a1 : a = 1001
      · subst a1
        exact am_pi_mono (fun q r h => am_pi_mono (fun p r h => am_if_mono (fun e => e) (fun h => jj (h _ bm_min)) h) h) h
      · by_cases a2 : a = 1002
        · subst a2
          refine am_pi_mono (fun n r h => am_pi_mono (fun dp r h => am_pr_mono (fun o r h => am_pi_mono (fun sp r h => am_pr_mono (fun u r h => bm_sh_mono hn (fun t1 l1 h => bm_sh_mono hn (fun t2 l2 h => am_if_mono (fun e => e) (fun h => ?_) h) h) h) h) h) h) h) h
          obtain ⟨sp', dp', n', e1, e2, e3, e4, e5, h⟩ := h
          obtain ⟨f1, rfl⟩ := bm_nn e1
          obtain ⟨f2, rfl⟩ := bm_nn e2
          obtain ⟨f3, rfl⟩ := bm_nn e3
          exact ⟨f1, f2, f3, e4, e5, jj h⟩
        · simp only [bm_step] at h
          simp only [am_step]
          exact dflt h
  | invokevirtual idx =>
    refine am_take_mono (fun As r h => am_pr_mono (fun o r2 h => bm_sh_mono hn (fun u n h => ?_) h) h) _ _ _ h
    obtain ⟨e, h⟩ := am_if_spec h
    obtain ⟨e, e6⟩ := am_and e
    obtain ⟨e, e5⟩ := am_and e
    rw [e]
    refine ⟨bm_al0 e5 e6, _, _, _, _, rfl, h, fun v t I L h => ?_⟩
    have z1 : (am_al a).1 = 0 := Nat.eq_of_beq_eq_true e5
    have z2 : (am_al a).2 = 0 := Nat.eq_of_beq_eq_true e6
    rw [bm_adl z1, bm_adl z2]
    exact jj h
  | ireturn =>
    obtain ⟨x, rfl, h⟩ : ∃ x, st = [.int x] ∧ am_bz a x (Q (some (.int x)) t I L) := by
      cases st with
      | nil => exact h.elim
      | cons v r =>
        cases v <;> cases r <;> first | exact h.elim | exact ⟨_, rfl, h⟩
    simp only [am_step, Nat.beq_refl, bm_bler, Bool.true_or, Bool.and_self, am_if]
    exact am_bz_mono (fun h => ⟨_, _, _, rfl, h⟩) h
  | lreturn =>
    obtain ⟨x, rfl, h⟩ : ∃ x, st = [.long x] ∧ Q (some (.long x)) t I L := by
      cases st with
      | nil => exact h.elim
      | cons v r =>
        cases v <;> cases r <;> first | exact h.elim | exact ⟨_, rfl, h⟩
    simp only [am_step, Nat.beq_refl, bm_bler, Bool.true_or, Bool.and_self, am_if]
    exact ⟨_, _, _, rfl, h⟩
  | areturn =>
    cases st with
    | nil => exact h.elim
    | cons v r =>
      cases v <;> cases r <;> first
        | exact h.elim
        | (simp only [am_step, Nat.beq_refl, bm_bler, Bool.true_or, Bool.and_self, am_if]
           exact ⟨_, _, _, rfl, h⟩)
  | return_ =>
    cases st with
    | nil =>
      simp only [am_step, Nat.beq_refl, bm_bler, Bool.true_or, Bool.and_self, am_if]
      exact ⟨_, _, _, rfl, h⟩
    | cons v r => exact h.elim
  | _ => exact h.elim
def bm_seg (G : am_G) (l : Launch) (m : Nat) (Q : bm_P) : Nat → Nat → am_L → List Value → am_T → am_I → am_J → Prop
  | 0, pc, ls, st, t, I, L => bm_W G l m pc ls st t I L Q
  | n + 1, pc, ls, st, t, I, L => match am_code m pc with
    | none => False
    | some en => match en.1 with
      | true => bm_W G l m pc ls st t I L Q
      | false => bm_step G m (bm_seg G l m Q n) (bm_C G l) Q en ls st t I L
def bm_run (G : am_G) (l : Launch) (m : Nat) (Q : bm_P) (n pc : Nat) (ls : am_L) (st : List Value) (t : am_T) (I : am_I) (L : am_J) : Prop := match am_code m pc with
  | none => False
  | some en => bm_step G m (bm_seg G l m Q n) (bm_C G l) Q en ls st t I L
theorem bm_seg_sound {G : am_G} {l : Launch} {m : Nat} {Q : bm_P} (hok : am_okM m) : ∀ (n pc : Nat) (ls : am_L) (st : List Value) (t : am_T) (I : am_I) (L : am_J), bm_seg G l m Q n pc ls st t I L → bm_W G l m pc ls st t I L Q
  | 0, pc, ls, st, t, I, L, h => h
  | n + 1, pc, ls, st, t, I, L, h => by
    unfold bm_seg at h
    cases hc : am_code m pc with
    | none => rw [hc] at h; exact h.elim
    | some en =>
      rw [hc] at h
      obtain ⟨ct, en⟩ := en
      cases ct with
      | true => exact h
      | false => exact bm_sound hok (bm_seg_sound hok n) (fun _ _ _ _ _ _ q => q) hc h
theorem bm_go {G : am_G} {l : Launch} {m : Nat} {Q : bm_P} (hok : am_okM m) (n : Nat) {pc : Nat} {ls : am_L} {st : List Value} {t : am_T} {I : am_I} {L : am_J} (h : bm_run G l m Q n pc ls st t I L) : bm_W G l m pc ls st t I L Q := by
  unfold bm_run at h
  cases hc : am_code m pc with
  | none => rw [hc] at h; exact h.elim
  | some en =>
    rw [hc] at h
    exact bm_sound hok (bm_seg_sound hok n) (fun _ _ _ _ _ _ q => q) hc h

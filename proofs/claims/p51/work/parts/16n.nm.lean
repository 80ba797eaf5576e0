/-! the law's own methods: the number of cells is told, arrays can be made (written by program) -/
abbrev nm_P : Type := Nat → Option Value → am_T → am_I → am_J → Prop
def nm_Q (Q : nm_P) (v : Option Value) (s : am_S) : Prop := ∃ (n : Nat) (t : am_T) (I : am_I) (L : am_J), 61 ≤ n ∧ s = am_st n t I L ∧ Q n v t I L
def nm_W (G : am_G) (l : Launch) (m pc : Nat) (ls : am_L) (st : List Value) (n c k : Nat) (t : am_T) (I : am_I) (L : am_J) (Q : nm_P) : Prop := 61 ≤ n → am_WP G l m pc ls st c k (am_st n t I L) (nm_Q Q)
def nm_C (G : am_G) (l : Launch) (m : Nat) (As : List Value) (n : Nat) (t : am_T) (I : am_I) (L : am_J) (Q : nm_P) : Prop := nm_W G l m 0 (am_init (am_ml m) As) [] n 0 0 t I L Q
def mz (n : Nat) (I : am_I) : am_I := fun x y => if x = n then 0 else I x y
def mzL (n : Nat) (L : am_J) : am_J := fun x y => if x = n then 0 else L x y
def nm_step (G : am_G) (m : Nat) (J : Nat → am_L → List Value → Nat → Nat → Nat → am_T → am_I → am_J → Prop) (C : Nat → List Value → Nat → am_T → am_I → am_J → nm_P → Prop) (Q : nm_P) (e : am_E) (ls : am_L) (st : List Value) (n c k : Nat) (t : am_T) (I : am_I) (L : am_J) : Prop :=
  match e with
  | (_, i, nx, tg, a, b, x, y, _) => match i with
    | .iconst _ | .bipush _ | .sipush _ | .ldc _ | .ldc_w _ => J nx ls (.int x :: st) n c k t I L
    | .lconst _ | .ldc2_w _ => J nx ls (.long y :: st) n c k t I L
    | .iload j => am_ld ls j fun v => am_i v fun z => J nx ls (.int z :: st) n c k t I L
    | .iload_n j => am_ld ls (j : Nat) fun v => am_i v fun z => J nx ls (.int z :: st) n c k t I L
    | .lload j => am_ld ls j fun v => am_l v fun z => J nx ls (.long z :: st) n c k t I L
    | .lload_n j => am_ld ls (j : Nat) fun v => am_l v fun z => J nx ls (.long z :: st) n c k t I L
    | .aload j => am_ld ls j fun v => am_a v (J nx ls (v :: st) n c k t I L)
    | .aload_n j => am_ld ls (j : Nat) fun v => am_a v (J nx ls (v :: st) n c k t I L)
    | .istore j => am_pi st fun z r => am_set ls j (.int z) fun ls' => J nx ls' r n c k t I L
    | .istore_n j => am_pi st fun z r => am_set ls (j : Nat) (.int z) fun ls' => J nx ls' r n c k t I L
    | .lstore j => am_pl st fun z r => am_setL ls j (.long z) fun ls' => J nx ls' r n c k t I L
    | .lstore_n j => am_pl st fun z r => am_setL ls (j : Nat) (.long z) fun ls' => J nx ls' r n c k t I L
    | .astore j => am_pv st fun v r => am_a v (am_set ls j v fun ls' => J nx ls' r n c k t I L)
    | .astore_n j => am_pv st fun v r => am_a v (am_set ls (j : Nat) v fun ls' => J nx ls' r n c k t I L)
    | .iinc j _ => am_ld ls j fun v => am_i v fun z => am_set ls j (.int (z + x)) fun ls' => J nx ls' st n c k t I L
    | .iadd => am_pi st fun q r => am_pi r fun p r => J nx ls (.int (p + q) :: r) n c k t I L
    | .isub => am_pi st fun q r => am_pi r fun p r => J nx ls (.int (p - q) :: r) n c k t I L
    | .imul => am_pi st fun q r => am_pi r fun p r => J nx ls (.int (p * q) :: r) n c k t I L
    | .iand => am_pi st fun q r => am_pi r fun p r => J nx ls (.int (p &&& q) :: r) n c k t I L
    | .ior => am_pi st fun q r => am_pi r fun p r => J nx ls (.int (p ||| q) :: r) n c k t I L
    | .ixor => am_pi st fun q r => am_pi r fun p r => J nx ls (.int (p ^^^ q) :: r) n c k t I L
    | .ishl => am_pi st fun q r => am_pi r fun p r => J nx ls (.int (p <<< (q &&& 31)) :: r) n c k t I L
    | .ishr => am_pi st fun q r => am_pi r fun p r => J nx ls (.int (p >>> (q &&& 31)) :: r) n c k t I L
    | .idiv => am_pi st fun q r => am_pi r fun p r => ¬ q.toInt = 0 ∧ J nx ls (.int (p / q) :: r) n c k t I L
    | .irem => am_pi st fun q r => am_pi r fun p r => ¬ q.toInt = 0 ∧ J nx ls (.int (p - p / q * q) :: r) n c k t I L
    | .i2l => am_pi st fun p r => J nx ls (.long p.toInt64 :: r) n c k t I L
    | .l2i => am_pl st fun p r => J nx ls (.int p.toInt32 :: r) n c k t I L
    | .lcmp => am_pl st fun q r => am_pl r fun p r => J nx ls (.int (lg_cmp p q) :: r) n c k t I L
    | .dup => am_pv st fun v r => am_cat1 v (J nx ls (v :: v :: r) n c k t I L)
    | .pop => am_pv st fun v r => am_cat1 v (J nx ls r n c k t I L)
    | .goto _ => J tg ls st n c k t I L
    | .ifCond d _ => am_pi st fun p r => bm_cmp d p.toInt 0 (J tg ls r n c k t I L) (J nx ls r n c k t I L)
    | .if_icmp d _ => am_pi st fun q r => am_pi r fun p r => bm_cmp d p.toInt q.toInt (J tg ls r n c k t I L) (J nx ls r n c k t I L)
    | .iaload => am_pi st fun p r => am_pv r fun v r => am_arr v (∃ j : Nat, p.toInt = (j : Int) ∧ j < G.2.2.1 ∧ J nx ls (.int (G.2.2.2.1 j) :: r) n c k t I L) (fun o => ∃ len : Nat, (o < n ∧ am_SH o = (100, len)) ∧ ∃ j : Nat, p.toInt = (j : Int) ∧ j < len ∧ J nx ls (.int (I o j) :: r) n c k t I L)
    | .iastore => am_pi st fun z r => am_pi r fun p r => am_pr r fun o r => ∃ len : Nat, (o < n ∧ am_SH o = (100, len)) ∧ ∃ j : Nat, p.toInt = (j : Int) ∧ j < len ∧ J nx ls r n c k t (am_u I o j z) L
    | .arraylength => am_pv st fun v r => match v with
      | .float _ => J nx ls (.int (Int32.ofNat G.2.2.1) :: r) n c k t I L
      | _ => False
    | .newarray _ => am_pi st fun p r => ∃ len : Nat, p.toInt = (len : Int) ∧ am_SH n = (a, len) ∧ am_if (Nat.ble len 100000 && Nat.ble (c + 1) (am_cap m).1 && Nat.ble (k + len) (am_cap m).2) (J nx ls (.ref n :: r) (n + 1) (c + 1) (k + len) t (mz n I) (mzL n L))
    | .invokestatic _ => match a with
      | 1000 => False
      | 1001 => False
      | 1002 => False
      | a => am_take b st [] fun As r => am_if (Nat.ble (am_cats r) 8 && Nat.ble (am_cats As) (am_ml a) && Nat.ble (c + (am_al a).1) (am_cap m).1 && Nat.ble (k + (am_al a).2) (am_cap m).2) (C a As n t I L fun n' v t' I' L' => J nx ls (am_bk v r) n' (am_ad c (am_al a).1) (am_ad k (am_al a).2) t' I' L')
    | .invokevirtual _ => am_take b st [] fun As r => am_pr As fun o _ => bm_sh o fun u _ => am_if (Nat.beq u (am_ow a) && Nat.ble u 11 && Nat.ble (am_cats r) 8 && Nat.ble (am_cats As) (am_ml a) && Nat.ble (c + (am_al a).1) (am_cap m).1 && Nat.ble (k + (am_al a).2) (am_cap m).2) (C a As n t I L fun n' v t' I' L' => J nx ls (am_bk v r) n' (am_ad c (am_al a).1) (am_ad k (am_al a).2) t' I' L')
    | .ireturn => match st with
      | [.int x] => am_if ((Nat.beq c (am_al m).1 || (am_vr m && Nat.ble c (am_al m).1)) && Nat.ble k (am_al m).2) (am_bz a x (Q n (some (.int x)) t I L))
      | _ => False
    | _ => False
theorem am_RC_61 : ∀ v, 61 ≤ v → ∀ j, am_RC v j = none
  | 61, _ => fun _ => rfl
  | 62, _ => fun _ => rfl
  | 63, _ => fun _ => rfl
  | 64, _ => fun _ => rfl
  | 65, _ => fun _ => rfl
  | 66, _ => fun _ => rfl
  | 67, _ => fun _ => rfl
  | 68, _ => fun _ => rfl
  | 69, _ => fun _ => rfl
  | 70, _ => fun _ => rfl
  | 71, _ => fun _ => rfl
  | 72, _ => fun _ => rfl
  | 73, _ => fun _ => rfl
  | 74, _ => fun _ => rfl
  | 75, _ => fun _ => rfl
  | 76, _ => fun _ => rfl
  | 77, _ => fun _ => rfl
  | 78, _ => fun _ => rfl
  | 79, _ => fun _ => rfl
  | 80, _ => fun _ => rfl
  | n + 81, _ => fun j => by
    have e : Nat.ble (n + 81) 80 = false := by
      cases hb : Nat.ble (n + 81) 80 with
      | false => rfl
      | true => exact absurd (Nat.le_of_ble_eq_true hb) (by omega)
    unfold am_RC
    rw [e]
    rfl
  | 0, h => absurd h (by decide)
  | 1, h => absurd h (by decide)
  | 2, h => absurd h (by decide)
  | 3, h => absurd h (by decide)
  | 4, h => absurd h (by decide)
  | 5, h => absurd h (by decide)
  | 6, h => absurd h (by decide)
  | 7, h => absurd h (by decide)
  | 8, h => absurd h (by decide)
  | 9, h => absurd h (by decide)
  | 10, h => absurd h (by decide)
  | 11, h => absurd h (by decide)
  | 12, h => absurd h (by decide)
  | 13, h => absurd h (by decide)
  | 14, h => absurd h (by decide)
  | 15, h => absurd h (by decide)
  | 16, h => absurd h (by decide)
  | 17, h => absurd h (by decide)
  | 18, h => absurd h (by decide)
  | 19, h => absurd h (by decide)
  | 20, h => absurd h (by decide)
  | 21, h => absurd h (by decide)
  | 22, h => absurd h (by decide)
  | 23, h => absurd h (by decide)
  | 24, h => absurd h (by decide)
  | 25, h => absurd h (by decide)
  | 26, h => absurd h (by decide)
  | 27, h => absurd h (by decide)
  | 28, h => absurd h (by decide)
  | 29, h => absurd h (by decide)
  | 30, h => absurd h (by decide)
  | 31, h => absurd h (by decide)
  | 32, h => absurd h (by decide)
  | 33, h => absurd h (by decide)
  | 34, h => absurd h (by decide)
  | 35, h => absurd h (by decide)
  | 36, h => absurd h (by decide)
  | 37, h => absurd h (by decide)
  | 38, h => absurd h (by decide)
  | 39, h => absurd h (by decide)
  | 40, h => absurd h (by decide)
  | 41, h => absurd h (by decide)
  | 42, h => absurd h (by decide)
  | 43, h => absurd h (by decide)
  | 44, h => absurd h (by decide)
  | 45, h => absurd h (by decide)
  | 46, h => absurd h (by decide)
  | 47, h => absurd h (by decide)
  | 48, h => absurd h (by decide)
  | 49, h => absurd h (by decide)
  | 50, h => absurd h (by decide)
  | 51, h => absurd h (by decide)
  | 52, h => absurd h (by decide)
  | 53, h => absurd h (by decide)
  | 54, h => absurd h (by decide)
  | 55, h => absurd h (by decide)
  | 56, h => absurd h (by decide)
  | 57, h => absurd h (by decide)
  | 58, h => absurd h (by decide)
  | 59, h => absurd h (by decide)
  | 60, h => absurd h (by decide)
theorem am_RR_61 {t : am_T} {v : Nat} (h : 61 ≤ v) (j : Nat) : am_RR t v j = none := by
  have e3 : Nat.beq v 3 = false := by
    cases hb : Nat.beq v 3 with
    | false => rfl
    | true => exact absurd (Nat.eq_of_beq_eq_true hb) (by omega)
  have e25 : Nat.beq v 25 = false := by
    cases hb : Nat.beq v 25 with
    | false => rfl
    | true => exact absurd (Nat.eq_of_beq_eq_true hb) (by omega)
  unfold am_RR
  rw [e3, e25]
  exact am_RC_61 v h j
theorem nm_new {n a b : Nat} {t : am_T} {I : am_I} {L : am_J} (hn : 61 ≤ n) (h : am_SH n = (a, b)) : am_new (am_st n t I L) a b = am_st (n + 1) t (mz n I) (mzL n L) := by
  have e : (fun x => if x = n then (a, b) else am_SH x) = am_SH := by
    funext x
    by_cases q : x = n
    · rw [if_pos q, q, h]
    · rw [if_neg q]
  have e2 : (fun x y => if x = n then none else am_RR t x y) = am_RR t := by
    funext x y
    by_cases q : x = n
    · rw [if_pos q, q, am_RR_61 hn]
    · rw [if_neg q]
  show ((n + 1, fun x => if x = n then (a, b) else am_SH x), (fun x y => if x = n then (0 : Int32) else I x y), (fun x y => if x = n then (0 : Int64) else L x y), fun x y => if x = n then none else am_RR t x y) = ((n + 1, am_SH), _, _, _)
  rw [e, e2]
  rfl
theorem nm_sh {nc o len : Nat} {t : am_T} {I : am_I} {L : am_J} (h : o < nc ∧ am_SH o = (100, len)) {F : Nat → Prop} (hF : F len) : am_sh (am_st nc t I L) o (fun u n => am_if (Nat.beq u 100) (F n)) := by
  unfold am_sh
  have e : Nat.ble (o + 1) (am_st nc t I L).1.1 = true := Nat.ble_eq_true_of_le h.1
  rw [e]
  show am_if (Nat.beq (am_SH o).1 100) (F (am_SH o).2)
  rw [h.2]
  exact hF
/-- a method that makes nothing, called from the law -/
theorem nm_b {G : am_G} {l : Launch} {a : Nat} {As : List Value} {n : Nat} {t : am_T} {I : am_I} {L : am_J} {K : nm_P} (hn2 : n ≤ 81) (h : bm_C G l a As t I L (fun v t I L => K n v t I L)) (h0 : am_al a = (0, 0) := by rfl) : nm_C G l a As n t I L K := by
  intro hn
  have h := h n hn hn2
  rw [h0] at h
  refine am_WP.mono h ?_
  rintro v g ⟨t', I', L', rfl, q⟩
  exact ⟨n, t', I', L', hn, rfl, q⟩
theorem am_WP.wide {G : am_G} {l : Launch} {m pc : Nat} {ls : am_L} {st : List Value} {c k c' k' : Nat} {g : am_S} {Q : Option Value → am_S → Prop} (hm : am_ix m = true) (hc : c ≤ c') (hk : k ≤ k') (h : am_WP G l m pc ls st c' k' g Q) : am_WP G l m pc ls st c k g Q :=
  fun p e s mid args below meth cc H locs lsA Z h1 h2 h3 h4 h5 h6 => W.widen hc hk (h p e s mid args below meth cc H locs lsA Z h1 h2 h3 ⟨⟨Nat.le_trans h4.1.1 (Nat.add_le_add_left hc _), fun q => by rw [hm] at q; cases q⟩, h4.2⟩ h5 h6)
theorem nm_wide {G : am_G} {l : Launch} {m pc : Nat} {ls : am_L} {st : List Value} {n c k c' k' : Nat} {t : am_T} {I : am_I} {L : am_J} {Q : nm_P} (hm : am_ix m = true) (hc : c ≤ c') (hk : k ≤ k') (h : nm_W G l m pc ls st n c' k' t I L Q) : nm_W G l m pc ls st n c k t I L Q := fun hn => am_WP.wide hm hc hk (h hn)
theorem nm_if {c : Bool} {f : Prop} (h : c = true) (hf : f) : am_if c f := by rw [h]; exact hf
set_option maxHeartbeats 4000000 in
theorem nm_sound {G : am_G} {l : Launch} {m pc : Nat} {J : Nat → am_L → List Value → Nat → Nat → Nat → am_T → am_I → am_J → Prop} {C : Nat → List Value → Nat → am_T → am_I → am_J → nm_P → Prop} {Q : nm_P} {ls : am_L} {st : List Value} {n c k : Nat} {t : am_T} {I : am_I} {L : am_J} (hok : am_okM m)
    (hJ : ∀ (pc : Nat) (ls : am_L) (st : List Value) (n c k : Nat) (t : am_T) (I : am_I) (L : am_J), J pc ls st n c k t I L → nm_W G l m pc ls st n c k t I L Q)
    (hCl : ∀ (a : Nat) (As : List Value) (n : Nat) (t : am_T) (I : am_I) (L : am_J) (K : nm_P), C a As n t I L K → nm_C G l a As n t I L K) {en : am_E} (hen : am_code m pc = some en) (h : nm_step G m J C Q en ls st n c k t I L) : nm_W G l m pc ls st n c k t I L Q := by
  intro hn
  refine am_sound (J := fun pc ls st c k g => ∃ n t I L, 61 ≤ n ∧ g = am_st n t I L ∧ J pc ls st n c k t I L) (C := fun a As g K => ∃ n t I L K', 61 ≤ n ∧ g = am_st n t I L ∧ C a As n t I L K' ∧ ∀ n v t I L, 61 ≤ n → K' n v t I L → K v (am_st n t I L)) hok ?_ ?_ hen ?_
  · rintro pc ls st c k g ⟨n, t, I, L, hn, rfl, hj⟩
    exact hJ _ _ _ _ _ _ _ _ _ hj hn
  · rintro a As g K ⟨n, t, I, L, K', hn, rfl, hc, hk⟩
    refine am_WP.mono (hCl _ _ _ _ _ _ _ hc hn) ?_
    rintro v g ⟨n', t', I', L', hn', rfl, q⟩
    exact hk _ _ _ _ _ hn' q
  clear hen
  have jj : ∀ {pc : Nat} {ls : am_L} {st : List Value} {n c k : Nat} {t : am_T} {I : am_I} {L : am_J}, 61 ≤ n → J pc ls st n c k t I L → ∃ n' t' I' L', 61 ≤ n' ∧ am_st n t I L = am_st n' t' I' L' ∧ J pc ls st n' c k t' I' L' := fun hn h => ⟨_, _, _, _, hn, rfl, h⟩
  obtain ⟨cut, i, nx, tg, a, b, x, y, sw⟩ := en
  cases i with
  | iconst _ =>
    exact jj hn h
  | bipush _ =>
    exact jj hn h
  | sipush _ =>
    exact jj hn h
  | ldc _ =>
    exact jj hn h
  | ldc_w _ =>
    exact jj hn h
  | lconst _ =>
    exact jj hn h
  | ldc2_w _ =>
    exact jj hn h
  | goto _ =>
    exact jj hn h
  | iload j =>
    exact am_ld_mono (fun v h => am_i_mono (fun z h => jj hn h) h) _ _ h
  | iload_n j =>
    exact am_ld_mono (fun v h => am_i_mono (fun z h => jj hn h) h) _ _ h
  | lload j =>
    exact am_ld_mono (fun v h => am_l_mono (fun z h => jj hn h) h) _ _ h
  | lload_n j =>
    exact am_ld_mono (fun v h => am_l_mono (fun z h => jj hn h) h) _ _ h
  | aload j =>
    exact am_ld_mono (fun v h => am_a_mono (fun h => jj hn h) h) _ _ h
  | aload_n j =>
    exact am_ld_mono (fun v h => am_a_mono (fun h => jj hn h) h) _ _ h
  | istore j =>
    exact am_pi_mono (fun z r h => am_set_mono _ _ _ (fun l h => jj hn h) h) h
  | istore_n j =>
    exact am_pi_mono (fun z r h => am_set_mono _ _ _ (fun l h => jj hn h) h) h
  | lstore j =>
    exact am_pl_mono (fun z r h => am_setL_mono _ _ _ (fun l h => jj hn h) h) h
  | lstore_n j =>
    exact am_pl_mono (fun z r h => am_setL_mono _ _ _ (fun l h => jj hn h) h) h
  | astore j =>
    exact am_pv_mono (fun z r h => am_a_mono (fun h => am_set_mono _ _ _ (fun l h => jj hn h) h) h) h
  | astore_n j =>
    exact am_pv_mono (fun z r h => am_a_mono (fun h => am_set_mono _ _ _ (fun l h => jj hn h) h) h) h
  | iinc j _ =>
    exact am_ld_mono (fun v h => am_i_mono (fun z h => am_set_mono _ _ _ (fun l h => jj hn h) h) h) _ _ h
  | iadd =>
    exact am_pi_mono (fun q r h => am_pi_mono (fun p r h => jj hn h) h) h
  | isub =>
    exact am_pi_mono (fun q r h => am_pi_mono (fun p r h => jj hn h) h) h
  | imul =>
    exact am_pi_mono (fun q r h => am_pi_mono (fun p r h => jj hn h) h) h
  | iand =>
    exact am_pi_mono (fun q r h => am_pi_mono (fun p r h => jj hn h) h) h
  | ior =>
    exact am_pi_mono (fun q r h => am_pi_mono (fun p r h => jj hn h) h) h
  | ixor =>
    exact am_pi_mono (fun q r h => am_pi_mono (fun p r h => jj hn h) h) h
  | ishl =>
    exact am_pi_mono (fun q r h => am_pi_mono (fun p r h => jj hn h) h) h
  | ishr =>
    exact am_pi_mono (fun q r h => am_pi_mono (fun p r h => jj hn h) h) h
  | idiv =>
    exact am_pi_mono (fun q r h => am_pi_mono (fun p r h => ⟨fun e => h.1 (bm_eq0.mpr e), jj hn h.2⟩) h) h
  | irem =>
    exact am_pi_mono (fun q r h => am_pi_mono (fun p r h => ⟨fun e => h.1 (bm_eq0.mpr e), jj hn h.2⟩) h) h
  | i2l =>
    exact am_pi_mono (fun q r h => jj hn h) h
  | l2i =>
    exact am_pl_mono (fun q r h => jj hn h) h
  | lcmp =>
    exact am_pl_mono (fun q r h => am_pl_mono (fun p r h => jj hn h) h) h
  | dup =>
    exact am_pv_mono (fun v r h => am_cat1_mono (fun h => jj hn h) h) h
  | pop =>
    exact am_pv_mono (fun v r h => am_cat1_mono (fun h => jj hn h) h) h
  | ifCond d _ =>
    refine am_pi_mono (fun p r h => ?_) h
    cases d with
      | eq => exact ⟨fun e => jj hn (h.1 (bm_eq0.mpr e)), fun e => jj hn (h.2 (fun q => e (bm_eq0.mp q)))⟩
      | ne => exact ⟨fun e => jj hn (h.1 (fun q => e (bm_eq0.mp q))), fun e => jj hn (h.2 (bm_eq0.mpr e))⟩
      | lt => exact ⟨fun e => jj hn (h.1 (bm_lt.mpr e)), fun e => jj hn (h.2 (Int.not_lt.mp (fun q => e (bm_lt.mp q))))⟩
      | ge => exact ⟨fun e => jj hn (h.1 (bm_le.mpr e)), fun e => jj hn (h.2 (Int.not_le.mp (fun q => e (bm_le.mp q))))⟩
      | gt => exact ⟨fun e => jj hn (h.1 (bm_lt.mpr e)), fun e => jj hn (h.2 (Int.not_lt.mp (fun q => e (bm_lt.mp q))))⟩
      | le => exact ⟨fun e => jj hn (h.1 (bm_le.mpr e)), fun e => jj hn (h.2 (Int.not_le.mp (fun q => e (bm_le.mp q))))⟩
  | if_icmp d _ =>
    refine am_pi_mono (fun q r h => am_pi_mono (fun p r h => ?_) h) h
    cases d with
      | eq => exact ⟨fun e => jj hn (h.1 (bm_eq.mpr e)), fun e => jj hn (h.2 (fun q => e (bm_eq.mp q)))⟩
      | ne => exact ⟨fun e => jj hn (h.1 (fun q => e (bm_eq.mp q))), fun e => jj hn (h.2 (bm_eq.mpr e))⟩
      | lt => exact ⟨fun e => jj hn (h.1 (bm_lt.mpr e)), fun e => jj hn (h.2 (Int.not_lt.mp (fun q => e (bm_lt.mp q))))⟩
      | ge => exact ⟨fun e => jj hn (h.1 (bm_le.mpr e)), fun e => jj hn (h.2 (Int.not_le.mp (fun q => e (bm_le.mp q))))⟩
      | gt => exact ⟨fun e => jj hn (h.1 (bm_lt.mpr e)), fun e => jj hn (h.2 (Int.not_lt.mp (fun q => e (bm_lt.mp q))))⟩
      | le => exact ⟨fun e => jj hn (h.1 (bm_le.mpr e)), fun e => jj hn (h.2 (Int.not_le.mp (fun q => e (bm_le.mp q))))⟩
  | iaload =>
    exact am_pi_mono (fun p r h => am_pv_mono (fun v r h => am_arr_mono (fun h => by obtain ⟨j, e1, e2, h⟩ := h; obtain ⟨f1, rfl⟩ := bm_vin e1 e2; exact ⟨f1, jj hn h⟩) (fun o h => by obtain ⟨len, hs, j, e1, e2, h⟩ := h; obtain ⟨f1, rfl⟩ := bm_vin e1 e2; exact nm_sh (F := fun len => vp_in p len ∧ _) hs ⟨f1, jj hn h⟩) h) h) h
  | iastore =>
    exact am_pi_mono (fun z r h => am_pi_mono (fun p r h => am_pr_mono (fun o r h => by obtain ⟨len, hs, j, e1, e2, h⟩ := h; obtain ⟨f1, rfl⟩ := bm_vin e1 e2; exact nm_sh (F := fun len => vp_in p len ∧ _) hs ⟨f1, jj hn h⟩) h) h) h
  | arraylength =>
    refine am_pv_mono (fun v r h => ?_) h
    cases v <;> first | exact jj hn h | exact h.elim
  | newarray ty =>
    refine am_pi_mono (fun p r h => ?_) h
    obtain ⟨len, e1, e2, h⟩ := h
    obtain ⟨f1, rfl⟩ := bm_nn e1
    refine ⟨f1, am_if_mono (fun e => e) (fun h => ?_) h⟩
    rw [nm_new hn e2]
    exact jj (Nat.le_trans hn (Nat.le_succ n)) h
  | invokestatic idx =>
    have dflt : (am_take b st [] fun As r => am_if (Nat.ble (am_cats r) 8 && Nat.ble (am_cats As) (am_ml a) && Nat.ble (c + (am_al a).1) (am_cap m).1 && Nat.ble (k + (am_al a).2) (am_cap m).2) (C a As n t I L fun n' v t' I' L' => J nx ls (am_bk v r) n' (am_ad c (am_al a).1) (am_ad k (am_al a).2) t' I' L')) →
        am_take b st [] fun As r => am_if (Nat.ble (am_cats r) 8 && Nat.ble (am_cats As) (am_ml a) && Nat.ble (c + (am_al a).1) (am_cap m).1 && Nat.ble (k + (am_al a).2) (am_cap m).2) (∃ n' t' I' L' K', 61 ≤ n' ∧ am_st n t I L = am_st n' t' I' L' ∧ C a As n' t' I' L' K' ∧ ∀ n v t I L, 61 ≤ n → K' n v t I L → ∃ n' t' I' L', 61 ≤ n' ∧ am_st n t I L = am_st n' t' I' L' ∧ J nx ls (am_bk v r) n' (am_ad c (am_al a).1) (am_ad k (am_al a).2) t' I' L') := by
      intro h
      exact am_take_mono (fun As r h => am_if_mono (fun e => e) (fun h => ⟨_, _, _, _, _, hn, rfl, h, fun n v t I L hn h => jj hn h⟩) h) _ _ _ h
    by_cases a0 : a = 1000
    · subst a0
      exact h.elim
    · by_cases a1 : a = 1001
      · subst a1
        exact h.elim
      · by_cases a2 : a = 1002
        · subst a2
          exact h.elim
        · simp only [nm_step] at h
          simp only [am_step]
          exact dflt h
  | invokevirtual idx =>
    exact am_take_mono (fun As r h => am_pr_mono (fun o r2 h => bm_sh_mono hn (fun u n' h => am_if_mono (fun e => e) (fun h => ⟨_, _, _, _, _, hn, rfl, h, fun n v t I L hn h => jj hn h⟩) h) h) h) _ _ _ h
  | ireturn =>
    cases st with
    | nil => exact h.elim
    | cons v r =>
      cases v <;> cases r <;> first
        | exact h.elim
        | exact am_if_mono (fun e => e) (fun h => am_bz_mono (fun h => ⟨_, _, _, _, hn, rfl, h⟩) h) h
  | _ => exact h.elim
def nm_seg (G : am_G) (l : Launch) (m : Nat) (Q : nm_P) : Nat → Nat → am_L → List Value → Nat → Nat → Nat → am_T → am_I → am_J → Prop
  | 0, pc, ls, st, n, c, k, t, I, L => nm_W G l m pc ls st n c k t I L Q
  | f + 1, pc, ls, st, n, c, k, t, I, L => match am_code m pc with
    | none => False
    | some en => match en.1 with
      | true => nm_W G l m pc ls st n c k t I L Q
      | false => nm_step G m (nm_seg G l m Q f) (nm_C G l) Q en ls st n c k t I L
def nm_run (G : am_G) (l : Launch) (m : Nat) (Q : nm_P) (f pc : Nat) (ls : am_L) (st : List Value) (n c k : Nat) (t : am_T) (I : am_I) (L : am_J) : Prop := match am_code m pc with
  | none => False
  | some en => nm_step G m (nm_seg G l m Q f) (nm_C G l) Q en ls st n c k t I L
theorem nm_seg_sound {G : am_G} {l : Launch} {m : Nat} {Q : nm_P} (hok : am_okM m) : ∀ (f pc : Nat) (ls : am_L) (st : List Value) (n c k : Nat) (t : am_T) (I : am_I) (L : am_J), nm_seg G l m Q f pc ls st n c k t I L → nm_W G l m pc ls st n c k t I L Q
  | 0, pc, ls, st, n, c, k, t, I, L, h => h
  | f + 1, pc, ls, st, n, c, k, t, I, L, h => by
    unfold nm_seg at h
    cases hc : am_code m pc with
    | none => rw [hc] at h; exact h.elim
    | some en =>
      rw [hc] at h
      obtain ⟨ct, en⟩ := en
      cases ct with
      | true => exact h
      | false => exact nm_sound hok (nm_seg_sound hok f) (fun _ _ _ _ _ _ _ q => q) hc h
theorem nm_go {G : am_G} {l : Launch} {m : Nat} {Q : nm_P} (hok : am_okM m) (f : Nat) {pc : Nat} {ls : am_L} {st : List Value} {n c k : Nat} {t : am_T} {I : am_I} {L : am_J} (h : nm_run G l m Q f pc ls st n c k t I L) : nm_W G l m pc ls st n c k t I L Q := by
  unfold nm_run at h
  cases hc : am_code m pc with
  | none => rw [hc] at h; exact h.elim
  | some en =>
    rw [hc] at h
    exact nm_sound hok (nm_seg_sound hok f) (fun _ _ _ _ _ _ _ q => q) hc h

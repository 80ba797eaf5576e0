/-! the steady state: the small machine over the cells as the constructors leave them; conditions by toInt -/
abbrev bm_P : Type := Option Value → am_T → am_I → am_J → Prop
def bm_Q (Q : bm_P) (n : Nat) (v : Option Value) (s : am_S) : Prop := ∃ (t : am_T) (I : am_I) (L : am_J), s = am_st n t I L ∧ Q v t I L
/-- whatever else there is behind the class's 61 cells -/
def bm_W (G : am_G) (l : Launch) (m pc : Nat) (ls : am_L) (st : List Value) (t : am_T) (I : am_I) (L : am_J) (Q : bm_P) : Prop := ∀ n : Nat, 61 ≤ n → n ≤ 81 → am_WP G l m pc ls st (am_al m).1 (am_al m).2 (am_st n t I L) (bm_Q Q n)
def bm_C (G : am_G) (l : Launch) (m : Nat) (As : List Value) (t : am_T) (I : am_I) (L : am_J) (Q : bm_P) : Prop := bm_W G l m 0 (am_init (am_ml m) As) [] t I L Q
def bm_sh (a : Nat) (f : Nat → Nat → Prop) : Prop := match Nat.ble (a + 1) 61 with
  | true => f (am_SH a).1 (am_SH a).2
  | false => False
def bm_cpy (I : am_I) (u o sp dp n : Nat) : am_I := fun x y => if x = o then va_cpy (I u) (I o) sp dp n y else I x y
def bm_pR (t : am_T) (o b p : Nat) (f : am_T → Prop) : Prop := match Nat.beq o 3 && Nat.beq b 8 with
  | true => f (some p, t.2)
  | false => match Nat.beq o 25 && Nat.beq b 2 with
    | true => f (t.1, some p, t.2.2)
    | false => match Nat.beq o 25 && Nat.beq b 5 with
      | true => f (t.1, t.2.1, some p)
      | false => False
def bm_cmp (d : Jvm.ClassFile.Cond) (p q : Int) (A B : Prop) : Prop := match d with
  | .eq => (p = q → A) ∧ (¬ p = q → B)
  | .ne => (¬ p = q → A) ∧ (p = q → B)
  | .lt => (p < q → A) ∧ (q ≤ p → B)
  | .ge => (q ≤ p → A) ∧ (p < q → B)
  | .gt => (q < p → A) ∧ (p ≤ q → B)
  | .le => (p ≤ q → A) ∧ (q < p → B)
def bm_swP (J : Nat → Prop) (x : Int) (d : Nat) : List (Int32 × Nat) → Prop
  | [] => J d
  | (v, t) :: r => (x = v.toInt → J t) ∧ (¬ x = v.toInt → bm_swP J x d r)
def bm_step (G : am_G) (m : Nat) (J : Nat → am_L → List Value → am_T → am_I → am_J → Prop) (C : Nat → List Value → am_T → am_I → am_J → bm_P → Prop) (Q : bm_P) (e : am_E) (ls : am_L) (st : List Value) (t : am_T) (I : am_I) (L : am_J) : Prop :=
  match e with
  | (_, i, nx, tg, a, b, x, y, sw) => match i with
    | .iconst _ | .bipush _ | .sipush _ | .ldc _ | .ldc_w _ => J nx ls (.int x :: st) t I L
    | .lconst _ | .ldc2_w _ => J nx ls (.long y :: st) t I L
    | .aconst_null => J nx ls (.null :: st) t I L
    | .iload n => am_ld ls n fun v => am_i v fun z => J nx ls (.int z :: st) t I L
    | .iload_n n => am_ld ls (n : Nat) fun v => am_i v fun z => J nx ls (.int z :: st) t I L
    | .lload n => am_ld ls n fun v => am_l v fun z => J nx ls (.long z :: st) t I L
    | .lload_n n => am_ld ls (n : Nat) fun v => am_l v fun z => J nx ls (.long z :: st) t I L
    | .aload n => am_ld ls n fun v => am_a v (J nx ls (v :: st) t I L)
    | .aload_n n => am_ld ls (n : Nat) fun v => am_a v (J nx ls (v :: st) t I L)
    | .istore n => am_pi st fun z r => am_set ls n (.int z) fun ls' => J nx ls' r t I L
    | .istore_n n => am_pi st fun z r => am_set ls (n : Nat) (.int z) fun ls' => J nx ls' r t I L
    | .lstore n => am_pl st fun z r => am_setL ls n (.long z) fun ls' => J nx ls' r t I L
    | .lstore_n n => am_pl st fun z r => am_setL ls (n : Nat) (.long z) fun ls' => J nx ls' r t I L
    | .astore n => am_pv st fun v r => am_a v (am_set ls n v fun ls' => J nx ls' r t I L)
    | .astore_n n => am_pv st fun v r => am_a v (am_set ls (n : Nat) v fun ls' => J nx ls' r t I L)
    | .iinc n _ => am_ld ls n fun v => am_i v fun z => am_set ls n (.int (z + x)) fun ls' => J nx ls' st t I L
    | .iadd => am_pi st fun q r => am_pi r fun p r => J nx ls (.int (p + q) :: r) t I L
    | .isub => am_pi st fun q r => am_pi r fun p r => J nx ls (.int (p - q) :: r) t I L
    | .imul => am_pi st fun q r => am_pi r fun p r => J nx ls (.int (p * q) :: r) t I L
    | .iand => am_pi st fun q r => am_pi r fun p r => J nx ls (.int (p &&& q) :: r) t I L
    | .ior => am_pi st fun q r => am_pi r fun p r => J nx ls (.int (p ||| q) :: r) t I L
    | .ixor => am_pi st fun q r => am_pi r fun p r => J nx ls (.int (p ^^^ q) :: r) t I L
    | .ishl => am_pi st fun q r => am_pi r fun p r => J nx ls (.int (p <<< (q &&& 31)) :: r) t I L
    | .ishr => am_pi st fun q r => am_pi r fun p r => J nx ls (.int (p >>> (q &&& 31)) :: r) t I L
    | .iushr => am_pi st fun q r => am_pi r fun p r => J nx ls (.int (p.toUInt32 >>> (q.toUInt32 &&& Int32.toUInt32 31)).toInt32 :: r) t I L
    | .idiv => am_pi st fun q r => am_pi r fun p r => ¬ q.toInt = 0 ∧ J nx ls (.int (p / q) :: r) t I L
    | .irem => am_pi st fun q r => am_pi r fun p r => ¬ q.toInt = 0 ∧ J nx ls (.int (p - p / q * q) :: r) t I L
    | .ineg => am_pi st fun p r => J nx ls (.int (-p) :: r) t I L
    | .i2l => am_pi st fun p r => J nx ls (.long p.toInt64 :: r) t I L
    | .l2i => am_pl st fun p r => J nx ls (.int p.toInt32 :: r) t I L
    | .i2b => am_pi st fun p r => J nx ls (.int p.toInt8.toInt32 :: r) t I L
    | .ladd => am_pl st fun q r => am_pl r fun p r => J nx ls (.long (p + q) :: r) t I L
    | .lmul => am_pl st fun q r => am_pl r fun p r => J nx ls (.long (p * q) :: r) t I L
    | .ldiv => am_pl st fun q r => am_pl r fun p r => ¬ q = 0 ∧ J nx ls (.long (p / q) :: r) t I L
    | .lrem => am_pl st fun q r => am_pl r fun p r => ¬ q = 0 ∧ J nx ls (.long (p - p / q * q) :: r) t I L
    | .lcmp => am_pl st fun q r => am_pl r fun p r => J nx ls (.int (lg_cmp p q) :: r) t I L
    | .dup => am_pv st fun v r => am_cat1 v (J nx ls (v :: v :: r) t I L)
    | .pop => am_pv st fun v r => am_cat1 v (J nx ls r t I L)
    | .dup2 => am_pv st fun v r => am_cat1 v (am_pv r fun w r => am_cat1 w (J nx ls (v :: w :: v :: w :: r) t I L))
    | .goto _ => J tg ls st t I L
    | .ifCond d _ => am_pi st fun p r => bm_cmp d p.toInt 0 (J tg ls r t I L) (J nx ls r t I L)
    | .if_icmp d _ => am_pi st fun q r => am_pi r fun p r => bm_cmp d p.toInt q.toInt (J tg ls r t I L) (J nx ls r t I L)
    | .ifnull _ => am_pv st fun v r => am_nl v (J tg ls r t I L) (J nx ls r t I L)
    | .ifnonnull _ => am_pv st fun v r => am_nl v (J nx ls r t I L) (J tg ls r t I L)
    | .tableswitch _ _ _ _ | .lookupswitch _ _ => am_pi st fun p r => bm_swP (fun t' => J t' ls r t I L) p.toInt tg sw
    | .getfield _ => am_pr st fun o r => bm_sh o fun u n => am_if (Nat.beq u a && Nat.ble (b + 1) n) (am_gv (am_ft a b) (J nx ls (.long (L o b) :: r) t I L) (am_rv (am_RR t o b) fun v => J nx ls (v :: r) t I L) (J nx ls (.int (I o b) :: r) t I L))
    | .putfield _ => am_pty (am_ft a b)
        (am_pi st fun p r => am_pr r fun o r => bm_sh o fun u n => am_if (Nat.beq u a && Nat.ble (b + 1) n) (J nx ls r t (am_u I o b p) L))
        (am_pi st fun p r => am_pr r fun o r => bm_sh o fun u n => am_if (Nat.beq u a && Nat.ble (b + 1) n) ((p = 0 ∨ p = 1) ∧ J nx ls r t (am_u I o b p) L))
        (am_pl st fun p r => am_pr r fun o r => bm_sh o fun u n => am_if (Nat.beq u a && Nat.ble (b + 1) n) (J nx ls r t I (am_uJ L o b p)))
        (am_pr st fun p r => am_pr r fun o r => bm_sh o fun u n => am_if (Nat.beq u a && Nat.ble (b + 1) n) (bm_pR t o b p fun t' => J nx ls r t' I L))
    | .iaload => am_pi st fun p r => am_pv r fun v r => am_arr v (∃ k : Nat, p.toInt = (k : Int) ∧ k < G.2.2.1 ∧ J nx ls (.int (G.2.2.2.1 k) :: r) t I L) (fun o => bm_sh o fun u n => am_if (Nat.beq u 100) (∃ k : Nat, p.toInt = (k : Int) ∧ k < n ∧ J nx ls (.int (I o k) :: r) t I L))
    | .aaload => am_pi st fun p r => am_pr r fun o r => bm_sh o fun u n => am_if (Nat.beq u 102 || Nat.beq u 103) (∃ k : Nat, p.toInt = (k : Int) ∧ k < n ∧ am_rv (am_RR t o k) fun v => J nx ls (v :: r) t I L)
    | .iastore => am_pi st fun z r => am_pi r fun p r => am_pr r fun o r => bm_sh o fun u n => am_if (Nat.beq u 100) (∃ k : Nat, p.toInt = (k : Int) ∧ k < n ∧ J nx ls r t (am_u I o k z) L)
    | .arraylength => am_pv st fun v r => am_arr v (J nx ls (.int (Int32.ofNat G.2.2.1) :: r) t I L) (fun o => bm_sh o fun u n => am_if (Nat.ble 100 u && Nat.ble u 103) (J nx ls (.int (Int32.ofNat n) :: r) t I L))
    | .invokestatic _ => match a with
      | 1000 => am_pi st fun q r => am_pi r fun p r => am_if (Nat.ble (am_cats r) 8 && Nat.ble (am_al m).1 (am_cap m).1 && Nat.ble (am_al m).2 (am_cap m).2) (∀ z : Int32, z.toInt = max p.toInt q.toInt → J nx ls (.int z :: r) t I L)
      | 1001 => am_pi st fun q r => am_pi r fun p r => am_if (Nat.ble (am_cats r) 8 && Nat.ble (am_al m).1 (am_cap m).1 && Nat.ble (am_al m).2 (am_cap m).2) (∀ z : Int32, z.toInt = min p.toInt q.toInt → J nx ls (.int z :: r) t I L)
      | 1002 => am_pi st fun n r => am_pi r fun dp r => am_pr r fun o r => am_pi r fun sp r => am_pr r fun u r => bm_sh o fun t1 l1 => bm_sh u fun t2 l2 => am_if (Nat.beq t1 100 && Nat.beq t2 100 && Nat.ble (am_cats r) 8) (∃ sp' dp' n' : Nat, sp.toInt = (sp' : Int) ∧ dp.toInt = (dp' : Int) ∧ n.toInt = (n' : Int) ∧ sp' + n' ≤ l2 ∧ dp' + n' ≤ l1 ∧ J nx ls r t (bm_cpy I u o sp' dp' n') L)
      | a => am_take b st [] fun As r => am_if (Nat.ble (am_cats r) 8 && Nat.ble (am_cats As) (am_ml a) && Nat.ble ((am_al m).1 + (am_al a).1) (am_cap m).1 && Nat.ble ((am_al m).2 + (am_al a).2) (am_cap m).2 && Nat.beq (am_al a).1 0 && Nat.beq (am_al a).2 0) (C a As t I L fun v t' I' L' => J nx ls (am_bk v r) t' I' L')
    | .invokevirtual _ => am_take b st [] fun As r => am_pr As fun o _ => bm_sh o fun u _ => am_if (Nat.beq u (am_ow a) && Nat.ble u 11 && Nat.ble (am_cats r) 8 && Nat.ble (am_cats As) (am_ml a) && Nat.ble ((am_al m).1 + (am_al a).1) (am_cap m).1 && Nat.ble ((am_al m).2 + (am_al a).2) (am_cap m).2 && Nat.beq (am_al a).1 0 && Nat.beq (am_al a).2 0) (C a As t I L fun v t' I' L' => J nx ls (am_bk v r) t' I' L')
    | .ireturn => match st with
      | [.int x] => am_bz a x (Q (some (.int x)) t I L)
      | _ => False
    | .lreturn => match st with
      | [.long x] => Q (some (.long x)) t I L
      | _ => False
    | .areturn => match st with
      | [.ref x] => Q (some (.ref x)) t I L
      | [.null] => Q (some .null) t I L
      | _ => False
    | .return_ => match st with
      | [] => Q none t I L
      | _ => False
    | _ => False

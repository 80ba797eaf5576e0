/-! the small machine: a state of named cells, a step, what it says of the machine -/
/-- cells: how many and of what shape; ints; longs; references -/
abbrev am_S : Type := (Nat × (Nat → Nat × Nat)) × (Nat → Nat → Int32) × (Nat → Nat → Int64) × (Nat → Nat → Option Nat)
abbrev am_L : Type := List (Option Value)
/-- first cell's address, the script's address, its length, its ints, the tables' numbers, the classes of four kinds of arrays -/
abbrev am_G : Type := Nat × Nat × Nat × (Nat → Int32) × va_G × ClassId × ClassId × ClassId × ClassId
def am_cv (G : am_G) (v : Value) : Value := match v with
  | .ref k => .ref (G.1 + k)
  | .float _ => .ref G.2.1
  | v => v
def am_fv (G : am_G) (s : am_S) (ty a j : Nat) : Value := match ty with
  | 2 => .long (s.2.2.1 a j)
  | 3 => va_rf ((s.2.2.2 a j).map (fun q => G.1 + q))
  | _ => .int (s.2.1 a j)
def am_cell (G : am_G) (s : am_S) (a : Nat) : va_E := match (s.1.2 a).1 with
  | 100 => .inl (G.2.2.2.2.2.1, (s.1.2 a).2, .inl (s.2.1 a))
  | 101 => .inl (G.2.2.2.2.2.2.1, (s.1.2 a).2, .inl (s.2.1 a))
  | 102 => .inl (G.2.2.2.2.2.2.2.1, (s.1.2 a).2, .inr (.inr (.inr (.inr (fun j => (s.2.2.2 a j).map (fun q => G.1 + q))))))
  | 103 => .inl (G.2.2.2.2.2.2.2.2, (s.1.2 a).2, .inr (.inr (.inr (.inr (fun j => (s.2.2.2 a j).map (fun q => G.1 + q))))))
  | t => .inr (t, (List.range (s.1.2 a).2).map (fun j => am_fv G s (am_ft t j) a j))
def am_ws (G : am_G) (s : am_S) : va_W := (List.range s.1.1).map (fun a => (G.1 + a, am_cell G s a))
def am_tys (G : am_G) : List (ClassId × FieldType) := [(G.2.2.2.2.2.1, .int), (G.2.2.2.2.2.2.1, .int), (G.2.2.2.2.2.2.2.1, .object "OwnLight$Strip"), (G.2.2.2.2.2.2.2.2, .object "OwnLight$Stand")]
def am_rel (G : am_G) (g : am_S) (s : State) (H : Heap) : Prop := H.size = G.1 + g.1.1 ∧ va_P G.2.2.2.2.1 am_cls (am_ws G g) H ∧ va_X G.2.1 G.2.2.1 G.2.2.2.1 s H ∧ G.2.1 < G.1
/-- words of the tables that keep, and those of nest mates -/
def am_gw : List Jvm.Cond := lw_tbl.filter goodWord
def am_isN (w : Jvm.Cond) : Bool := match w with
  | .methodLinkNest _ _ _ _ => true
  | _ => false
def am_nw : List Jvm.Cond := lw_tbl.filter am_isN
def am_F (G : am_G) (s : State) : Prop := va_K G.2.2.2.2.1 am_cls (am_tys G) s ∧ (∀ w ∈ am_nw, va_Nw w s) ∧ va_AO "OwnLight$Strip" s ∧ va_AO "OwnLight$Stand" s
def am_w (m : Nat) : List Jvm.Cond := Jvm.Cond.code (am_y m) (am_by m) (am_ml m) (am_rty m) :: am_gw
def am_rm (m : Nat) : Room := { frames := am_fr m, cells := (am_cap m).1, slots := (am_cap m).2, locals := am_lo m }
/-- how long an instruction is -/
def am_len (i : Instr) : Nat := match i with
  | .iload _ | .lload _ | .aload _ | .istore _ | .lstore _ | .astore _ | .bipush _ | .ldc _ | .newarray _ => 2
  | .sipush _ | .ldc_w _ | .ldc2_w _ | .iinc _ _ | .if_icmp _ _ | .ifCond _ _ | .goto _ | .ifnull _ | .ifnonnull _ | .getfield _ | .putfield _ | .new _ | .anewarray _ | .invokespecial _ | .invokestatic _ | .invokevirtual _ => 3
  | _ => 1
/-- what a program checks of a row: it is the code's, its numbers are right, its links are those of the tables -/
def am_chkT (m pc : Nat) (e : am_E) : Bool := match e with
  | (_, i, nx, tg, a, b, x, y, sw) => match i with
    | .if_icmp _ o | .ifCond _ o | .goto o | .ifnull o | .ifnonnull o => decide ((pc : Int) + o = (tg : Int))
    | .iconst n => decide (Int32.ofInt n = x)
    | .bipush n => decide ((Int8.ofInt n).toInt32 = x)
    | .sipush n => decide ((Int16.ofInt n).toInt32 = x)
    | .lconst n => decide (Int64.ofNat (n : Nat) = y)
    | .iinc _ n => decide (Int32.ofInt n = x)
    | .ldc k | .ldc_w k => am_lk.contains (am_ow m, k, x)
    | .ldc2_w k => am_lk2.contains (am_ow m, k, y)
    | .getfield k => am_lf.contains (am_ow m, k, a, b) && Nat.blt b (am_Nt a) && Nat.blt a 12
    | .putfield k => am_lf.contains (am_ow m, k, a, b) && Nat.blt b (am_Nt a) && Nat.blt a 12 && ((am_Tt a b).2.2.2 == false || ((am_y m).name == "<init>" && am_ow m == a))
    | .new k => am_lc.contains (am_ow m, k, a) && b == am_Nt a && Nat.blt a 12
    | .anewarray k => am_lc.contains (am_ow m, k, b) && ((a == 102 && b == 10) || (a == 103 && b == 5))
    | .newarray t => t == .int && a == 100
    | .invokestatic k => (a == 1000 && am_lm.contains (am_ow m, k, a) && Nat.ble 1 (am_fr m) && Nat.ble 21 (am_lo m)) || (a == 1001 && am_lm.contains (am_ow m, k, a) && Nat.ble 1 (am_fr m) && Nat.ble 21 (am_lo m)) || (a == 1002 && am_lm.contains (am_ow m, k, a) && Nat.ble 1 (am_fr m) && Nat.ble 30 (am_lo m)) || (Nat.blt a 267 && a != 264 && am_ids_s.contains a && (am_lm.contains (am_ow m, k, a) || am_ln.contains (am_ow m, k, a)) && decide ((parseMethodDescriptor (am_y a).desc).map (fun d => d.parameters.length) = some b) && Nat.ble (am_fr a + 1) (am_fr m) && Nat.ble (8 + (am_ml a + 11) + am_lo a) (am_lo m))
    | .invokevirtual k => Nat.blt a 267 && a != 264 && am_ids_i.contains a && am_ids_v.contains a && (am_lm.contains (am_ow m, k, a) || am_ln.contains (am_ow m, k, a)) && decide ((parseMethodDescriptor (am_y a).desc).map (fun d => d.parameters.length + 1) = some b) && Nat.ble (am_fr a + 1) (am_fr m) && Nat.ble (8 + (am_ml a + 11) + am_lo a) (am_lo m)
    | .invokespecial k => (a == 1003 && b == 1 && am_lm.contains (am_ow m, k, a) && Nat.ble 1 (am_fr m) && Nat.ble 20 (am_lo m)) || (Nat.blt a 267 && a != 264 && am_ids_i.contains a && (am_y a).name == "<init>" && (am_lm.contains (am_ow m, k, a) || am_ln.contains (am_ow m, k, a)) && decide ((parseMethodDescriptor (am_y a).desc).map (fun d => d.parameters.length + 1) = some b) && Nat.ble (am_fr a + 1) (am_fr m) && Nat.ble (8 + (am_ml a + 11) + am_lo a) (am_lo m))
    | .tableswitch d lo hi os => decide ((pc : Int) + d = (tg : Int)) && decide (-1000 < lo) && decide (hi < 1000) && decide (sw.length = (hi + 1 - lo).toNat) && decide (os.size = sw.length) && (List.range sw.length).all (fun k => decide ((sw.getD k (0, 0)).1 = Int32.ofInt (lo + (k : Int))) && decide ((pc : Int) + os.getD k 0 = ((sw.getD k (0, 0)).2 : Int)))
    | .lookupswitch d ps => decide ((pc : Int) + d = (tg : Int)) && decide (sw.length = ps.toList.length) && (ps.toList.zip (ps.toList.drop 1)).all (fun (a, next) => decide (a.1 < next.1)) && (ps.toList.zip sw).all (fun q => decide ((-1000 : Int) < q.1.1) && decide (q.1.1 < 1000) && decide (q.2.1 = Int32.ofInt q.1.1) && decide ((pc : Int) + q.1.2 = (q.2.2 : Int)))
    | .ireturn => (a == 0 && decide (am_rty m = some .int)) || (a == 1 && decide (am_rty m = some .boolean))
    | .lreturn => decide (am_rty m = some .long)
    | .return_ => decide (am_rty m = none)
    | .areturn => match am_rty m with
      | some (.object _) => true
      | _ => false
    | _ => true
def am_isSw (i : Instr) : Bool := match i with
  | .tableswitch _ _ _ _ | .lookupswitch _ _ => true
  | _ => false
def am_chkV (m : Nat) (e : am_E) : Bool := match e with
  | (_, i, _, _, a, _, _, _, _) => match i with
    | .putfield _ | .iastore | .bastore | .aastore => !am_ix m
    | .invokestatic _ => (a != 1002 || !am_ix m) && (am_ix m || !am_vr a)
    | .invokevirtual _ | .invokespecial _ => am_ix m || !am_vr a
    | _ => true
def am_chk (m pc : Nat) (e : am_E) : Bool := am_chkV m e && (decide (decode (am_by m) pc = .ok (e.2.1, bif am_isSw e.2.1 then e.2.2.1 - pc else am_len e.2.1)) && (am_isSw e.2.1 || decide (e.2.2.1 = pc + am_len e.2.1)) && am_chkT m pc e)
def am_okM (m : Nat) : Prop := ∀ (pc : Nat) (e : am_E), am_code m pc = some e → am_chk m pc e = true
/-! locals and stacks, by continuations -/
def am_ld : am_L → Nat → (Value → Prop) → Prop
  | some v :: _, 0, f => f v
  | _ :: r, i + 1, f => am_ld r i f
  | _, _, _ => False
def am_kl (a : Option Value) : Option Value := match a with
  | some (.long _) => none
  | some (.double _) => none
  | a => a
def am_set : am_L → Nat → Value → (am_L → Prop) → Prop
  | [], _, _, _ => False
  | _ :: r, 0, v, f => f (some v :: r)
  | a :: r, i + 1, v, f => match i with
    | 0 => am_set r 0 v (fun r' => f (am_kl a :: r'))
    | j + 1 => am_set r (j + 1) v (fun r' => f (a :: r'))
def am_setL : am_L → Nat → Value → (am_L → Prop) → Prop
  | [], _, _, _ => False
  | _ :: r, 0, v, f => match r with
    | _ :: r' => f (some v :: none :: r')
    | [] => False
  | a :: r, i + 1, v, f => match i with
    | 0 => am_setL r 0 v (fun r' => f (am_kl a :: r'))
    | j + 1 => am_setL r (j + 1) v (fun r' => f (a :: r'))
def am_i (v : Value) (f : Int32 → Prop) : Prop := match v with
  | .int x => f x
  | _ => False
def am_l (v : Value) (f : Int64 → Prop) : Prop := match v with
  | .long x => f x
  | _ => False
/-- a reference, null, or the script -/
def am_a (v : Value) (f : Prop) : Prop := match v with
  | .ref _ => f
  | .null => f
  | .float _ => f
  | _ => False
def am_pv (st : List Value) (f : Value → List Value → Prop) : Prop := match st with
  | v :: r => f v r
  | [] => False
def am_pi (st : List Value) (f : Int32 → List Value → Prop) : Prop := match st with
  | .int x :: r => f x r
  | _ => False
def am_pl (st : List Value) (f : Int64 → List Value → Prop) : Prop := match st with
  | .long x :: r => f x r
  | _ => False
def am_pr (st : List Value) (f : Nat → List Value → Prop) : Prop := match st with
  | .ref x :: r => f x r
  | _ => False
def am_cat1 (v : Value) (f : Prop) : Prop := match v with
  | .long _ => False
  | .double _ => False
  | _ => f
/-- a cell: its kind and size -/
def am_sh (s : am_S) (a : Nat) (f : Nat → Nat → Prop) : Prop := match Nat.ble (a + 1) s.1.1 with
  | true => f (s.1.2 a).1 (s.1.2 a).2
  | false => False
def am_if (c : Bool) (f : Prop) : Prop := match c with
  | true => f
  | false => False
def am_rv (o : Option Nat) (f : Value → Prop) : Prop := match o with
  | some q => f (.ref q)
  | none => f .null
def am_take : Nat → List Value → List Value → (List Value → List Value → Prop) → Prop
  | 0, st, acc, f => f acc st
  | n + 1, v :: st, acc, f => am_take n st (v :: acc) f
  | _ + 1, [], _, _ => False
def am_ia : List Value → am_L
  | [] => []
  | v :: vs => match v with
    | .long _ => some v :: none :: am_ia vs
    | .double _ => some v :: none :: am_ia vs
    | _ => some v :: am_ia vs
def am_pad : Nat → am_L → am_L
  | 0, _ => []
  | n + 1, [] => none :: am_pad n []
  | n + 1, a :: r => a :: am_pad n r
def am_init (n : Nat) (As : List Value) : am_L := am_pad n (am_ia As)
def am_cats (vs : List Value) : Nat := match vs with
  | [] => 0
  | v :: r => v.category + am_cats r
def am_uI (s : am_S) (a j : Nat) (v : Int32) : am_S := (s.1, (fun x y => if x = a ∧ y = j then v else s.2.1 x y), s.2.2)
def am_uL (s : am_S) (a j : Nat) (v : Int64) : am_S := (s.1, s.2.1, (fun x y => if x = a ∧ y = j then v else s.2.2.1 x y), s.2.2.2)
def am_uR (s : am_S) (a j : Nat) (v : Option Nat) : am_S := (s.1, s.2.1, s.2.2.1, (fun x y => if x = a ∧ y = j then v else s.2.2.2 x y))
def am_new (s : am_S) (t n : Nat) : am_S := ((s.1.1 + 1, fun a => if a = s.1.1 then (t, n) else s.1.2 a), (fun x y => if x = s.1.1 then 0 else s.2.1 x y), (fun x y => if x = s.1.1 then 0 else s.2.2.1 x y), (fun x y => if x = s.1.1 then none else s.2.2.2 x y))
def am_cpy (s : am_S) (a b sp dp n : Nat) : am_S := (s.1, (fun x y => if x = b then va_cpy (s.2.1 a) (s.2.1 b) sp dp n y else s.2.1 x y), s.2.2)
def am_gv (ty : Nat) (A B C : Prop) : Prop := match ty with
  | 2 => A
  | 3 => B
  | _ => C
def am_pty (ty : Nat) (A B C D : Prop) : Prop := match ty with
  | 0 => A
  | 1 => B
  | 2 => C
  | 3 => D
  | _ => False
def am_bz (a : Nat) (x : Int32) (A : Prop) : Prop := match a with
  | 0 => A
  | _ => (x = 0 ∨ x = 1) ∧ A
/-- a place of an array: of the script, or of one of the cells -/
def am_arr (v : Value) (f : Prop) (g : Nat → Prop) : Prop := match v with
  | .float _ => f
  | .ref o => g o
  | _ => False
def am_nl (v : Value) (f g : Prop) : Prop := match v with
  | .null => f
  | .ref _ => g
  | _ => False
def am_swP (J : Nat → Prop) (x : Int32) (d : Nat) : List (Int32 × Nat) → Prop
  | [] => J d
  | (v, t) :: r => (x = v → J t) ∧ (¬ x = v → am_swP J x d r)
/-- behind a call -/
def am_bk (v : Option Value) (r : List Value) : List Value := match v with
  | some w => w :: r
  | none => r
def am_ad (n : Nat) (k : Nat) : Nat := match k with
  | 0 => n
  | k + 1 => n + k + 1
/-- one step: J goes on at a place, C calls a method, Q is the end -/
def am_step (G : am_G) (m : Nat) (J : Nat → am_L → List Value → Nat → Nat → am_S → Prop) (C : Nat → List Value → am_S → (Option Value → am_S → Prop) → Prop) (Q : Option Value → am_S → Prop) (e : am_E) (ls : am_L) (st : List Value) (c k : Nat) (s : am_S) : Prop :=
  match e with
  | (_, i, nx, tg, a, b, x, y, sw) => match i with
    | .iconst _ | .bipush _ | .sipush _ | .ldc _ | .ldc_w _ => J nx ls (.int x :: st) c k s
    | .lconst _ | .ldc2_w _ => J nx ls (.long y :: st) c k s
    | .aconst_null => J nx ls (.null :: st) c k s
    | .iload n => am_ld ls n fun v => am_i v fun z => J nx ls (.int z :: st) c k s
    | .iload_n n => am_ld ls (n : Nat) fun v => am_i v fun z => J nx ls (.int z :: st) c k s
    | .lload n => am_ld ls n fun v => am_l v fun z => J nx ls (.long z :: st) c k s
    | .lload_n n => am_ld ls (n : Nat) fun v => am_l v fun z => J nx ls (.long z :: st) c k s
    | .aload n => am_ld ls n fun v => am_a v (J nx ls (v :: st) c k s)
    | .aload_n n => am_ld ls (n : Nat) fun v => am_a v (J nx ls (v :: st) c k s)
    | .istore n => am_pi st fun z r => am_set ls n (.int z) fun ls' => J nx ls' r c k s
    | .istore_n n => am_pi st fun z r => am_set ls (n : Nat) (.int z) fun ls' => J nx ls' r c k s
    | .lstore n => am_pl st fun z r => am_setL ls n (.long z) fun ls' => J nx ls' r c k s
    | .lstore_n n => am_pl st fun z r => am_setL ls (n : Nat) (.long z) fun ls' => J nx ls' r c k s
    | .astore n => am_pv st fun v r => am_a v (am_set ls n v fun ls' => J nx ls' r c k s)
    | .astore_n n => am_pv st fun v r => am_a v (am_set ls (n : Nat) v fun ls' => J nx ls' r c k s)
    | .iinc n _ => am_ld ls n fun v => am_i v fun z => am_set ls n (.int (z + x)) fun ls' => J nx ls' st c k s
    | .iadd => am_pi st fun q r => am_pi r fun p r => J nx ls (.int (p + q) :: r) c k s
    | .isub => am_pi st fun q r => am_pi r fun p r => J nx ls (.int (p - q) :: r) c k s
    | .imul => am_pi st fun q r => am_pi r fun p r => J nx ls (.int (p * q) :: r) c k s
    | .iand => am_pi st fun q r => am_pi r fun p r => J nx ls (.int (p &&& q) :: r) c k s
    | .ior => am_pi st fun q r => am_pi r fun p r => J nx ls (.int (p ||| q) :: r) c k s
    | .ixor => am_pi st fun q r => am_pi r fun p r => J nx ls (.int (p ^^^ q) :: r) c k s
    | .ishl => am_pi st fun q r => am_pi r fun p r => J nx ls (.int (p <<< (q &&& 31)) :: r) c k s
    | .ishr => am_pi st fun q r => am_pi r fun p r => J nx ls (.int (p >>> (q &&& 31)) :: r) c k s
    | .iushr => am_pi st fun q r => am_pi r fun p r => J nx ls (.int (p.toUInt32 >>> (q.toUInt32 &&& Int32.toUInt32 31)).toInt32 :: r) c k s
    | .idiv => am_pi st fun q r => am_pi r fun p r => ¬ q = 0 ∧ J nx ls (.int (p / q) :: r) c k s
    | .irem => am_pi st fun q r => am_pi r fun p r => ¬ q = 0 ∧ J nx ls (.int (p - p / q * q) :: r) c k s
    | .ineg => am_pi st fun p r => J nx ls (.int (-p) :: r) c k s
    | .i2l => am_pi st fun p r => J nx ls (.long p.toInt64 :: r) c k s
    | .l2i => am_pl st fun p r => J nx ls (.int p.toInt32 :: r) c k s
    | .i2b => am_pi st fun p r => J nx ls (.int p.toInt8.toInt32 :: r) c k s
    | .ladd => am_pl st fun q r => am_pl r fun p r => J nx ls (.long (p + q) :: r) c k s
    | .lmul => am_pl st fun q r => am_pl r fun p r => J nx ls (.long (p * q) :: r) c k s
    | .ldiv => am_pl st fun q r => am_pl r fun p r => ¬ q = 0 ∧ J nx ls (.long (p / q) :: r) c k s
    | .lrem => am_pl st fun q r => am_pl r fun p r => ¬ q = 0 ∧ J nx ls (.long (p - p / q * q) :: r) c k s
    | .lcmp => am_pl st fun q r => am_pl r fun p r => J nx ls (.int (lg_cmp p q) :: r) c k s
    | .dup => am_pv st fun v r => am_cat1 v (J nx ls (v :: v :: r) c k s)
    | .pop => am_pv st fun v r => am_cat1 v (J nx ls r c k s)
    | .dup2 => am_pv st fun v r => am_cat1 v (am_pv r fun w r => am_cat1 w (J nx ls (v :: w :: v :: w :: r) c k s))
    | .goto _ => J tg ls st c k s
    | .ifCond d _ => am_pi st fun p r => match d with
      | .eq => (p = 0 → J tg ls r c k s) ∧ (¬ p = 0 → J nx ls r c k s)
      | .ne => (¬ p = 0 → J tg ls r c k s) ∧ (p = 0 → J nx ls r c k s)
      | .lt => (p < 0 → J tg ls r c k s) ∧ (¬ p < 0 → J nx ls r c k s)
      | .ge => (0 ≤ p → J tg ls r c k s) ∧ (¬ 0 ≤ p → J nx ls r c k s)
      | .gt => (0 < p → J tg ls r c k s) ∧ (¬ 0 < p → J nx ls r c k s)
      | .le => (p ≤ 0 → J tg ls r c k s) ∧ (¬ p ≤ 0 → J nx ls r c k s)
    | .if_icmp d _ => am_pi st fun q r => am_pi r fun p r => match d with
      | .eq => (p = q → J tg ls r c k s) ∧ (¬ p = q → J nx ls r c k s)
      | .ne => (¬ p = q → J tg ls r c k s) ∧ (p = q → J nx ls r c k s)
      | .lt => (p < q → J tg ls r c k s) ∧ (¬ p < q → J nx ls r c k s)
      | .ge => (q ≤ p → J tg ls r c k s) ∧ (¬ q ≤ p → J nx ls r c k s)
      | .gt => (q < p → J tg ls r c k s) ∧ (¬ q < p → J nx ls r c k s)
      | .le => (p ≤ q → J tg ls r c k s) ∧ (¬ p ≤ q → J nx ls r c k s)
    | .ifnull _ => am_pv st fun v r => am_nl v (J tg ls r c k s) (J nx ls r c k s)
    | .ifnonnull _ => am_pv st fun v r => am_nl v (J nx ls r c k s) (J tg ls r c k s)
    | .tableswitch _ _ _ _ | .lookupswitch _ _ => am_pi st fun p r => am_swP (fun t => J t ls r c k s) p tg sw
    | .getfield _ => am_pr st fun o r => am_sh s o fun t n => am_if (Nat.beq t a && Nat.ble (b + 1) n) (am_gv (am_ft a b) (J nx ls (.long (s.2.2.1 o b) :: r) c k s) (am_rv (s.2.2.2 o b) fun v => J nx ls (v :: r) c k s) (J nx ls (.int (s.2.1 o b) :: r) c k s))
    | .putfield _ => am_pty (am_ft a b)
        (am_pi st fun p r => am_pr r fun o r => am_sh s o fun t n => am_if (Nat.beq t a && Nat.ble (b + 1) n) (J nx ls r c k (am_uI s o b p)))
        (am_pi st fun p r => am_pr r fun o r => am_sh s o fun t n => am_if (Nat.beq t a && Nat.ble (b + 1) n) ((p = 0 ∨ p = 1) ∧ J nx ls r c k (am_uI s o b p)))
        (am_pl st fun p r => am_pr r fun o r => am_sh s o fun t n => am_if (Nat.beq t a && Nat.ble (b + 1) n) (J nx ls r c k (am_uL s o b p)))
        (am_pr st fun p r => am_pr r fun o r => am_sh s o fun t n => am_if (Nat.beq t a && Nat.ble (b + 1) n) (J nx ls r c k (am_uR s o b (some p))))
    | .iaload => am_pi st fun p r => am_pv r fun v r => am_arr v (vp_in p G.2.2.1 ∧ J nx ls (.int (G.2.2.2.1 p.toNatClampNeg) :: r) c k s) (fun o => am_sh s o fun t n => am_if (Nat.beq t 100) (vp_in p n ∧ J nx ls (.int (s.2.1 o p.toNatClampNeg) :: r) c k s))
    | .aaload => am_pi st fun p r => am_pr r fun o r => am_sh s o fun t n => am_if (Nat.beq t 102 || Nat.beq t 103) (vp_in p n ∧ am_rv (s.2.2.2 o p.toNatClampNeg) fun v => J nx ls (v :: r) c k s)
    | .iastore => am_pi st fun z r => am_pi r fun p r => am_pr r fun o r => am_sh s o fun t n => am_if (Nat.beq t 100) (vp_in p n ∧ J nx ls r c k (am_uI s o p.toNatClampNeg z))
    | .aastore => am_pr st fun z r => am_pi r fun p r => am_pr r fun o r => am_sh s o fun t n => am_sh s z fun u _ => am_if ((Nat.beq t 102 && Nat.beq u 10) || (Nat.beq t 103 && Nat.beq u 5)) (vp_in p n ∧ J nx ls r c k (am_uR s o p.toNatClampNeg (some z)))
    | .arraylength => am_pv st fun v r => am_arr v (J nx ls (.int (Int32.ofNat G.2.2.1) :: r) c k s) (fun o => am_sh s o fun t n => am_if (Nat.ble 100 t && Nat.ble t 103) (J nx ls (.int (Int32.ofNat n) :: r) c k s))
    | .new _ => am_if (Nat.ble (c + 1) (am_cap m).1 && Nat.ble (k + b) (am_cap m).2) (J nx ls (.ref s.1.1 :: st) (c + 1) (k + b) (am_new s a b))
    | .newarray _ | .anewarray _ => am_pi st fun p r => ¬ p < 0 ∧ am_if (Nat.ble p.toNatClampNeg 100000 && Nat.ble (c + 1) (am_cap m).1 && Nat.ble (k + p.toNatClampNeg) (am_cap m).2) (J nx ls (.ref s.1.1 :: r) (c + 1) (k + p.toNatClampNeg) (am_new s a p.toNatClampNeg))
    | .invokestatic _ => match a with
      | 1000 => am_pi st fun q r => am_pi r fun p r => am_if (Nat.ble (am_cats r) 8 && Nat.ble c (am_cap m).1 && Nat.ble k (am_cap m).2) (J nx ls (.int (if p < q then q else p) :: r) c k s)
      | 1001 => am_pi st fun q r => am_pi r fun p r => am_if (Nat.ble (am_cats r) 8 && Nat.ble c (am_cap m).1 && Nat.ble k (am_cap m).2) (J nx ls (.int (if q < p then q else p) :: r) c k s)
      | 1002 => am_pi st fun n r => am_pi r fun dp r => am_pr r fun o r => am_pi r fun sp r => am_pr r fun u r => am_sh s o fun t l => am_sh s u fun t2 l2 => am_if (Nat.beq t 100 && Nat.beq t2 100 && Nat.ble (am_cats r) 8) (¬ sp < 0 ∧ ¬ dp < 0 ∧ ¬ n < 0 ∧ sp.toNatClampNeg + n.toNatClampNeg ≤ l2 ∧ dp.toNatClampNeg + n.toNatClampNeg ≤ l ∧ J nx ls r c k (am_cpy s u o sp.toNatClampNeg dp.toNatClampNeg n.toNatClampNeg))
      | a => am_take b st [] fun As r => am_if (Nat.ble (am_cats r) 8 && Nat.ble (am_cats As) (am_ml a) && Nat.ble (c + (am_al a).1) (am_cap m).1 && Nat.ble (k + (am_al a).2) (am_cap m).2) (C a As s fun v s' => J nx ls (am_bk v r) (am_ad c (am_al a).1) (am_ad k (am_al a).2) s')
    | .invokevirtual _ => am_take b st [] fun As r => am_pr As fun o _ => am_sh s o fun t _ => am_if (Nat.beq t (am_ow a) && Nat.ble t 11 && Nat.ble (am_cats r) 8 && Nat.ble (am_cats As) (am_ml a) && Nat.ble (c + (am_al a).1) (am_cap m).1 && Nat.ble (k + (am_al a).2) (am_cap m).2) (C a As s fun v s' => J nx ls (am_bk v r) (am_ad c (am_al a).1) (am_ad k (am_al a).2) s')
    | .invokespecial _ => match a with
      | 1003 => am_pr st fun _ r => am_if (Nat.ble (am_cats r) 8) (J nx ls r c k s)
      | a => am_take b st [] fun As r => am_pr As fun _ _ => am_if (Nat.ble (am_cats r) 8 && Nat.ble (am_cats As) (am_ml a) && Nat.ble (c + (am_al a).1) (am_cap m).1 && Nat.ble (k + (am_al a).2) (am_cap m).2) (C a As s fun v s' => J nx ls (am_bk v r) (am_ad c (am_al a).1) (am_ad k (am_al a).2) s')
    | .ireturn => match st with
      | [.int x] => am_if ((Nat.beq c (am_al m).1 || (am_vr m && Nat.ble c (am_al m).1)) && Nat.ble k (am_al m).2) (am_bz a x (Q (some (.int x)) s))
      | _ => False
    | .lreturn => match st with
      | [.long x] => am_if ((Nat.beq c (am_al m).1 || (am_vr m && Nat.ble c (am_al m).1)) && Nat.ble k (am_al m).2) (Q (some (.long x)) s)
      | _ => False
    | .areturn => match st with
      | [.ref x] => am_if ((Nat.beq c (am_al m).1 || (am_vr m && Nat.ble c (am_al m).1)) && Nat.ble k (am_al m).2) (Q (some (.ref x)) s)
      | [.null] => am_if ((Nat.beq c (am_al m).1 || (am_vr m && Nat.ble c (am_al m).1)) && Nat.ble k (am_al m).2) (Q (some .null) s)
      | _ => False
    | .return_ => match st with
      | [] => am_if ((Nat.beq c (am_al m).1 || (am_vr m && Nat.ble c (am_al m).1)) && Nat.ble k (am_al m).2) (Q none s)
      | _ => False
    | _ => False
/-! what the small machine's places say of the machine -/
def am_rt (m pc : Nat) (v : Option Value) : Prop := match v with
  | none => decode (am_by m) pc = .ok (.return_, 1) ∧ am_rty m = none
  | some (.int x) => decode (am_by m) pc = .ok (.ireturn, 1) ∧ (am_rty m = some .int ∨ (am_rty m = some .boolean ∧ (x = 0 ∨ x = 1)))
  | some (.long _) => decode (am_by m) pc = .ok (.lreturn, 1) ∧ am_rty m = some .long
  | some (.ref _) => decode (am_by m) pc = .ok (.areturn, 1) ∧ ∃ n, am_rty m = some (.object n)
  | some .null => decode (am_by m) pc = .ok (.areturn, 1) ∧ ∃ n, am_rty m = some (.object n)
  | _ => False
def am_lok (G : am_G) (n : Nat) (ls : am_L) (lsA : Array Slot) : Prop := lsA.size = n ∧ ls.length ≤ n ∧ lv_wf lsA ∧ ∀ (i : Nat) (v : Value), ls[i]? = some (some v) → lsA[i]? = some (.val (am_cv G v))
def am_Cx (G : am_G) (m : Nat) (p : Program) (s : State) (mid : MethodId) (args : Array Value) (meth : Method) (cc : Code) : Prop :=
  p.tables.exec = Jvm.exec ∧ cc.code = am_by m ∧ cc.maxLocals = am_ml m ∧ s.vm.findClass (am_y m).cls = some mid.cls ∧ (∀ w ∈ am_gw, w.before args s = true) ∧ am_F G s ∧ ((am_y m).name = "<init>" → meth.name = "<init>") ∧ m < 267
def am_WP (G : am_G) (l : Launch) (m pc : Nat) (ls : am_L) (st : List Value) (c k : Nat) (g : am_S) (Q : Option Value → am_S → Prop) : Prop :=
  ∀ (p : Program) (e : Env) (s : State) (mid : MethodId) (args : Array Value) (below : List Frame) (meth : Method) (cc : Code) (H : Heap) (locs : List Loc) (lsA : Array Slot) (Z : State → Prop),
    am_Cx G m p s mid args meth cc → am_rel G g s H → va_S (fun q : Nat => G.1 ≤ q) s.heap H locs → ((G.1 + g.1.1 ≤ s.heap.size + c ∧ (am_ix m = false → s.heap.size + c = G.1 + g.1.1)) ∧ G.1 ≤ s.heap.size) → am_lok G (am_ml m) ls lsA →
    (∀ (v : Option Value) (g' : am_S) (H' : Heap) (locs' : List Loc) (pc' : Nat) (lsA' : Array Slot), Q v g' → am_rel G g' s H' → va_S (fun q : Nat => G.1 ≤ q) s.heap H' locs' → (G.1 + g'.1.1 ≤ s.heap.size + (am_al m).1 ∧ (am_vr m = false → s.heap.size + (am_al m).1 = G.1 + g'.1.1)) → am_rt m pc' v → W p l e (am_rm m) s mid args below meth cc H' locs' (am_al m).1 (am_al m).2 Z (F0 mid pc' lsA' ((v.map (am_cv G)).toList))) →
    W p l e (am_rm m) s mid args below meth cc H locs c k Z (F0 mid pc lsA (st.map (am_cv G)))
def am_WPm (G : am_G) (l : Launch) (m : Nat) (As : List Value) (g : am_S) (Q : Option Value → am_S → Prop) : Prop := am_WP G l m 0 (am_init (am_ml m) As) [] 0 0 g Q
theorem am_WP.mono {G : am_G} {l : Launch} {m pc : Nat} {ls : am_L} {st : List Value} {c k : Nat} {g : am_S} {Q Q' : Option Value → am_S → Prop} (h : am_WP G l m pc ls st c k g Q) (hq : ∀ v g, Q v g → Q' v g) : am_WP G l m pc ls st c k g Q' :=
  fun p e s mid args below meth cc H locs lsA Z h1 h2 h3 h4 h5 h6 => h p e s mid args below meth cc H locs lsA Z h1 h2 h3 h4 h5 (fun v g' H' locs' pc' lsA' q => h6 v g' H' locs' pc' lsA' (hq v g' q))
theorem am_vi {m : Nat} (h : am_vr m = false) : am_ix m = false := by
  unfold am_vr at h
  unfold am_ix
  cases hb : Nat.beq m 264 with
  | false => rfl
  | true => rw [hb, Bool.or_true] at h; cases h
theorem am_rc {m c : Nat} (h : (Nat.beq c (am_al m).1 || (am_vr m && Nat.ble c (am_al m).1)) = true) : c ≤ (am_al m).1 ∧ (am_vr m = false → c = (am_al m).1) := by
  rcases Bool.or_eq_true_iff.mp h with h | h
  · have e := Nat.eq_of_beq_eq_true h
    exact ⟨by omega, fun _ => e⟩
  · obtain ⟨h1, h2⟩ := Bool.and_eq_true_iff.mp h
    exact ⟨Nat.le_of_ble_eq_true h2, fun q => by rw [q] at h1; cases h1⟩
theorem am_rb {m c x y : Nat} (h : x ≤ y + c ∧ (am_ix m = false → y + c = x)) (hc : c ≤ (am_al m).1 ∧ (am_vr m = false → c = (am_al m).1)) : x ≤ y + (am_al m).1 ∧ (am_vr m = false → y + (am_al m).1 = x) :=
  ⟨by omega, fun q => by rw [← hc.2 q]; exact h.2 (am_vi q)⟩
theorem am_nix {b : Bool} (h : (!b) = true) : b = false := by
  cases b with
  | false => rfl
  | true => cases h

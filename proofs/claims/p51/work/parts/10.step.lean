/-! one step of the small machine is the machine's -/
theorem am_desc1 {d : String} {b : Nat} (h : (parseMethodDescriptor d).map (fun d => d.parameters.length + 1) = some b) : ∃ n, (parseMethodDescriptor d).map (fun d => d.parameters.length) = some n ∧ b = n + 1 := by
  cases hp : parseMethodDescriptor d with
  | none => rw [hp] at h; cases h
  | some x =>
    rw [hp] at h
    exact ⟨x.parameters.length, rfl, (Option.some.inj h).symm⟩
theorem am_gv_3 {A B C : Prop} (h : am_gv 3 A B C) : B := h
theorem am_arr_ref {o : Nat} {f : Prop} {g : Nat → Prop} (h : am_arr (.ref o) f g) : g o := h
theorem am_ini_void : ∀ a, a < 267 → (am_y a).name = "<init>" → am_rty a = none := by decide +kernel
theorem am_ltF {a n : Nat} (h : a = n) (hn : 267 ≤ n) : Nat.blt a 267 = false := by
  cases hb : Nat.blt a 267 with
  | false => rfl
  | true => exact absurd (Nat.le_of_ble_eq_true hb) (by omega)
section AS
variable {G : am_G} {m pc cut nx tg a b idx : Nat} {J : Nat → am_L → List Value → Nat → Nat → am_S → Prop} {C : Nat → List Value → am_S → (Option Value → am_S → Prop) → Prop} {Q : Option Value → am_S → Prop} {ls : am_L} {st : List Value} {c k : Nat} {g : am_S} {ct : Bool} {x : Int32} {y : Int64} {sw : List (Int32 × Nat)}
theorem am_stat (a0 : ¬ a = 1000) (a1 : ¬ a = 1001) (a2 : ¬ a = 1002) (h : am_step G m J C Q (ct, .invokestatic idx, nx, tg, a, b, x, y, sw) ls st c k g) : am_take b st [] fun As r => am_if (Nat.ble (am_cats r) 8 && Nat.ble (am_cats As) (am_ml a) && Nat.ble (c + (am_al a).1) (am_cap m).1 && Nat.ble (k + (am_al a).2) (am_cap m).2) (C a As g fun v s' => J nx ls (am_bk v r) (am_ad c (am_al a).1) (am_ad k (am_al a).2) s') := by
  simp only [am_step] at h
  exact h
theorem am_spc (a0 : ¬ a = 1003) (h : am_step G m J C Q (ct, .invokespecial idx, nx, tg, a, b, x, y, sw) ls st c k g) : am_take b st [] fun As r => am_pr As fun _ _ => am_if (Nat.ble (am_cats r) 8 && Nat.ble (am_cats As) (am_ml a) && Nat.ble (c + (am_al a).1) (am_cap m).1 && Nat.ble (k + (am_al a).2) (am_cap m).2) (C a As g fun v s' => J nx ls (am_bk v r) (am_ad c (am_al a).1) (am_ad k (am_al a).2) s') := by
  simp only [am_step] at h
  exact h
theorem am_statT (a0 : ¬ a = 1000) (a1 : ¬ a = 1001) (a2 : ¬ a = 1002) (h : am_chkT m pc (ct, .invokestatic idx, nx, tg, a, b, x, y, sw) = true) : (Nat.blt a 267 && a != 264 && am_ids_s.contains a && (am_lm.contains (am_ow m, idx, a) || am_ln.contains (am_ow m, idx, a)) && decide ((parseMethodDescriptor (am_y a).desc).map (fun d => d.parameters.length) = some b) && Nat.ble (am_fr a + 1) (am_fr m) && Nat.ble (8 + (am_ml a + 11) + am_lo a) (am_lo m)) = true := by
  have f : ∀ n, ¬ a = n → (a == n) = false := fun n hn => by simpa using hn
  simp only [am_chkT, f 1000 a0, f 1001 a1, f 1002 a2, Bool.false_and, Bool.false_or] at h
  exact h
theorem am_spcT2 (a0 : ¬ a = 1003) (h : am_chkT m pc (ct, .invokespecial idx, nx, tg, a, b, x, y, sw) = true) : (Nat.blt a 267 && a != 264 && am_ids_i.contains a && (am_y a).name == "<init>" && (am_lm.contains (am_ow m, idx, a) || am_ln.contains (am_ow m, idx, a)) && decide ((parseMethodDescriptor (am_y a).desc).map (fun d => d.parameters.length + 1) = some b) && Nat.ble (am_fr a + 1) (am_fr m) && Nat.ble (8 + (am_ml a + 11) + am_lo a) (am_lo m)) = true := by
  have f : (a == 1003) = false := by simpa using a0
  simp only [am_chkT, f, Bool.false_and, Bool.false_or] at h
  exact h
theorem am_spcT (h : am_chkT m pc (ct, .invokespecial idx, nx, tg, 1003, b, x, y, sw) = true) : (((b = 1 ∧ am_lm.contains (am_ow m, idx, 1003) = true) ∧ Nat.ble 1 (am_fr m) = true) ∧ Nat.ble 20 (am_lo m) = true) := by
  rcases Bool.or_eq_true_iff.mp h with h | h
  · obtain ⟨h, t4⟩ := am_and h
    obtain ⟨h, t3⟩ := am_and h
    obtain ⟨h, t2⟩ := am_and h
    obtain ⟨t0, t1⟩ := am_and h
    exact ⟨⟨⟨by simpa using t1, t2⟩, t3⟩, t4⟩
  · obtain ⟨h, -⟩ := am_and h
    obtain ⟨h, -⟩ := am_and h
    obtain ⟨h, -⟩ := am_and h
    obtain ⟨h, -⟩ := am_and h
    obtain ⟨h, -⟩ := am_and h
    obtain ⟨h, -⟩ := am_and h
    obtain ⟨h, -⟩ := am_and h
    exact absurd (Nat.le_of_ble_eq_true h) (by omega)
end AS
section AP
variable {G : am_G} {l : Launch} {m : Nat} {pc : Nat} {J : Nat → am_L → List Value → Nat → Nat → am_S → Prop} {C : Nat → List Value → am_S → (Option Value → am_S → Prop) → Prop} {Q : Option Value → am_S → Prop} {ls : am_L} {st : List Value} {c k : Nat} {g : am_S}
theorem am_lnk {p : Program} {s : State} {mid : MethodId} {args : Array Value} {meth : Method} {cc : Code} (hC : am_Cx G m p s mid args meth cc) {idx a : Nat} (h : (am_lm.contains (am_ow m, idx, a) || am_ln.contains (am_ow m, idx, a)) = true) (ha : a < 267) : (Jvm.Cond.methodLink (am_cn (am_ow m)) idx (am_y a)).before args s = true ∨ (Jvm.Cond.methodLinkNest (am_cn (am_ow m)) idx (am_y a) "OwnLight").before args s = true := by
  rcases (by simpa using h : (am_ow m, idx, a) ∈ am_lm ∨ (am_ow m, idx, a) ∈ am_ln) with h | h
  · left
    have h2 := hC.2.2.2.2.1 _ (am_lm_ok _ (List.mem_map.mpr ⟨_, h, rfl⟩))
    have e : am_yy a = am_y a := by
      have f : ∀ n, 267 ≤ n → Nat.beq a n = false := by
        intro n hn
        cases hb : Nat.beq a n with
        | false => rfl
        | true => exact absurd (Nat.eq_of_beq_eq_true hb) (by omega)
      unfold am_yy
      rw [f 1000 (by omega), f 1001 (by omega), f 1002 (by omega), f 1003 (by omega)]
      rfl
    have h3 : (Jvm.Cond.methodLink (am_cn (am_ow m)) idx (am_yy a)).before args s = true := h2
    rw [e] at h3
    exact h3
  · right
    exact va_Nw.use rfl (hC.2.2.2.2.2.1.2.1 _ (am_ln_ok _ (List.mem_map.mpr ⟨_, h, rfl⟩)))
theorem am_recv {s : State} {H : Heap} (hF : am_F G s) (hR : am_rel G g s H) {o t : Nat} (ho : o < g.1.1) (hty : (g.1.2 o).1 = t) (ht : t < 12) : ∃ cell : Cell, H[G.1 + o]? = some cell ∧ cell.vm.isStatics = false ∧ s.vm.findClass (am_cn t) = some cell.cls :=
  va_recv hF.1 hR.2.1 (am_cls_at t ht) (q0 := o) (by rw [am_ws_at ho, am_cell_o hty (by omega)])
theorem am_sw_tab {f : Nat → Prop} {x : Int32} {d : Nat} : ∀ (sw : List (Int32 × Nat)), am_swP f x d sw → (∃ (i : Nat) (v : Int32 × Nat), sw[i]? = some v ∧ x = v.1 ∧ f v.2) ∨ ((∀ v ∈ sw, x ≠ v.1) ∧ f d)
  | [], h => Or.inr ⟨fun v hv => absurd hv (List.not_mem_nil), h⟩
  | (v, t) :: r, h => by
    by_cases e : x = v
    · exact Or.inl ⟨0, (v, t), rfl, e, h.1 e⟩
    · rcases am_sw_tab r (h.2 e) with ⟨i, w, h1, h2, h3⟩ | ⟨h1, h2⟩
      · exact Or.inl ⟨i + 1, w, by simpa using h1, h2, h3⟩
      · refine Or.inr ⟨fun w hw => ?_, h2⟩
        rcases List.mem_cons.mp hw with rfl | hw
        · exact e
        · exact h1 w hw
theorem am_ofInt_toInt {z : Int} (h1 : -1000 < z) (h2 : z < 1000) : (Int32.ofInt z).toInt = z := by
  rw [Int32.toInt_ofInt]
  have e : Int32.size = 4294967296 := rfl
  exact Int.bmod_eq_of_le (by omega) (by omega)
theorem am_lkoff (x : Int) (d : Int) : ∀ (ps : List (Int × Int)), (∃ q ∈ ps, q.1 = x ∧ Op.lookupswitch.offset ps d x = q.2) ∨ ((∀ q ∈ ps, q.1 ≠ x) ∧ Op.lookupswitch.offset ps d x = d) := by
  intro ps
  induction ps with
  | nil => exact Or.inr ⟨fun q h => absurd h (List.not_mem_nil), rfl⟩
  | cons a r ih =>
    by_cases e : a.1 = x
    · exact Or.inl ⟨a, List.mem_cons_self, e, by simp [Op.lookupswitch.offset, e]⟩
    · rcases ih with ⟨q, h1, h2, h3⟩ | ⟨h1, h2⟩
      · exact Or.inl ⟨q, List.mem_cons_of_mem _ h1, h2, by simpa [Op.lookupswitch.offset, e] using h3⟩
      · refine Or.inr ⟨fun q hq => ?_, by simpa [Op.lookupswitch.offset, e] using h2⟩
        rcases List.mem_cons.mp hq with rfl | hq
        · exact e
        · exact h1 q hq
set_option maxHeartbeats 4000000 in
theorem am_sound (hok : am_okM m) (hJ : ∀ (pc : Nat) (ls : am_L) (st : List Value) (c k : Nat) (g : am_S), J pc ls st c k g → am_WP G l m pc ls st c k g Q) (hCl : ∀ (a : Nat) (As : List Value) (g : am_S) (K : Option Value → am_S → Prop), C a As g K → am_WPm G l a As g K) {en : am_E} (hen : am_code m pc = some en) (h : am_step G m J C Q en ls st c k g) : am_WP G l m pc ls st c k g Q := by
  intro p e s mid args below meth cc H locs lsA Z hC hR hS hB hL hZ
  have hck0 := hok pc en hen
  clear hen
  obtain ⟨cut, i, nx, tg, a, b, x, y, sw⟩ := en
  obtain ⟨hV, hck2⟩ := am_and hck0
  clear hck0
  obtain ⟨hck1, hT⟩ := am_and hck2
  clear hck2
  obtain ⟨hd0, hn0⟩ := am_and hck1
  clear hck1
  have hd : decode (am_by m) pc = .ok (i, bif am_isSw i then nx - pc else am_len i) := of_decide_eq_true hd0
  clear hd0
  have hn : am_isSw i = true ∨ nx = pc + am_len i := by
    rcases (Bool.or_eq_true_iff.mp hn0) with q | q
    · exact Or.inl q
    · exact Or.inr (of_decide_eq_true q)
  clear hn0
  have hx := hC.1
  have hb := hC.2.1
  have hml := hC.2.2.1
  have hts := hC.2.2.2.2.1
  have hF := hC.2.2.2.2.2.1
  have hm := hC.2.2.2.2.2.2.2
  have hown := hC.own
  have hfix : CallFix p mid cc (am_by m) lsA.size s args am_gw (am_cn (am_ow m)) := ⟨hx, hb, by rw [hml, hL.1], hown, hts⟩
  have go : ∀ {pc' : Nat} {st' : List Value}, J pc' ls st' c k g → W p l e (am_rm m) s mid args below meth cc H locs c k Z (F0 mid pc' lsA (st'.map (am_cv G))) :=
    fun h => hJ _ _ _ _ _ _ h p e s mid args below meth cc H locs lsA Z hC hR hS hB hL hZ
  have gol : ∀ {pc' : Nat} {st' : List Value} {ls' : am_L} {lsB : Array Slot}, am_lok G (am_ml m) ls' lsB → J pc' ls' st' c k g → W p l e (am_rm m) s mid args below meth cc H locs c k Z (F0 mid pc' lsB (st'.map (am_cv G))) :=
    fun h1 h => hJ _ _ _ _ _ _ h p e s mid args below meth cc H locs _ Z hC hR hS hB h1 hZ
  have goh : ∀ {pc' : Nat} {st' : List Value} {g' : am_S} {H1 : Heap} {locs1 : List Loc}, am_rel G g' s H1 → va_S (fun q : Nat => G.1 ≤ q) s.heap H1 locs1 → J pc' ls st' c k g' → g'.1.1 = g.1.1 → W p l e (am_rm m) s mid args below meth cc H1 locs1 c k Z (F0 mid pc' lsA (st'.map (am_cv G))) :=
    fun h2 h3 h h1 => hJ _ _ _ _ _ _ h p e s mid args below meth cc _ _ lsA Z hC h2 h3 ⟨by rw [h1]; exact hB.1, hB.2⟩ hL hZ
  cases i with
  | iadd =>
    obtain ⟨q, r, rfl, hZ⟩ := am_pi_spec h
    clear h
    have h := hZ
    clear hZ
    obtain ⟨q2, r, rfl, hZ⟩ := am_pi_spec h
    clear h
    have h := hZ
    clear hZ
    obtain rfl := am_nsw hn rfl
    exact lv_iadd hx hb hd (go h)
  | isub =>
    obtain ⟨q, r, rfl, hZ⟩ := am_pi_spec h
    clear h
    have h := hZ
    clear hZ
    obtain ⟨q2, r, rfl, hZ⟩ := am_pi_spec h
    clear h
    have h := hZ
    clear hZ
    obtain rfl := am_nsw hn rfl
    exact lv_isub hx hb hd (go h)
  | imul =>
    obtain ⟨q, r, rfl, hZ⟩ := am_pi_spec h
    clear h
    have h := hZ
    clear hZ
    obtain ⟨q2, r, rfl, hZ⟩ := am_pi_spec h
    clear h
    have h := hZ
    clear hZ
    obtain rfl := am_nsw hn rfl
    exact lv_imul hx hb hd (go h)
  | iand =>
    obtain ⟨q, r, rfl, hZ⟩ := am_pi_spec h
    clear h
    have h := hZ
    clear hZ
    obtain ⟨q2, r, rfl, hZ⟩ := am_pi_spec h
    clear h
    have h := hZ
    clear hZ
    obtain rfl := am_nsw hn rfl
    exact lv_iand hx hb hd (go h)
  | ior =>
    obtain ⟨q, r, rfl, hZ⟩ := am_pi_spec h
    clear h
    have h := hZ
    clear hZ
    obtain ⟨q2, r, rfl, hZ⟩ := am_pi_spec h
    clear h
    have h := hZ
    clear hZ
    obtain rfl := am_nsw hn rfl
    exact lv_ior hx hb hd (go h)
  | ixor =>
    obtain ⟨q, r, rfl, hZ⟩ := am_pi_spec h
    clear h
    have h := hZ
    clear hZ
    obtain ⟨q2, r, rfl, hZ⟩ := am_pi_spec h
    clear h
    have h := hZ
    clear hZ
    obtain rfl := am_nsw hn rfl
    exact lv_ixor hx hb hd (go h)
  | ishl =>
    obtain ⟨q, r, rfl, hZ⟩ := am_pi_spec h
    clear h
    have h := hZ
    clear hZ
    obtain ⟨q2, r, rfl, hZ⟩ := am_pi_spec h
    clear h
    have h := hZ
    clear hZ
    obtain rfl := am_nsw hn rfl
    exact lv_ishl hx hb hd (go h)
  | ishr =>
    obtain ⟨q, r, rfl, hZ⟩ := am_pi_spec h
    clear h
    have h := hZ
    clear hZ
    obtain ⟨q2, r, rfl, hZ⟩ := am_pi_spec h
    clear h
    have h := hZ
    clear hZ
    obtain rfl := am_nsw hn rfl
    exact lv_ishr hx hb hd (go h)
  | iushr =>
    obtain ⟨q, r, rfl, hZ⟩ := am_pi_spec h
    clear h
    have h := hZ
    clear hZ
    obtain ⟨q2, r, rfl, hZ⟩ := am_pi_spec h
    clear h
    have h := hZ
    clear hZ
    obtain rfl := am_nsw hn rfl
    exact lv_iushr hx hb hd rfl (go h)
  | idiv =>
    obtain ⟨q, r, rfl, hZ⟩ := am_pi_spec h
    clear h
    have h := hZ
    clear hZ
    obtain ⟨q2, r, rfl, hZ⟩ := am_pi_spec h
    clear h
    have h := hZ
    clear hZ
    obtain rfl := am_nsw hn rfl
    exact lv_idiv hx hb hd h.1 (go h.2)
  | irem =>
    obtain ⟨q, r, rfl, hZ⟩ := am_pi_spec h
    clear h
    have h := hZ
    clear hZ
    obtain ⟨q2, r, rfl, hZ⟩ := am_pi_spec h
    clear h
    have h := hZ
    clear hZ
    obtain rfl := am_nsw hn rfl
    exact lv_irem hx hb hd h.1 (go h.2)
  | ldiv =>
    obtain ⟨q, r, rfl, hZ⟩ := am_pl_spec h
    clear h
    have h := hZ
    clear hZ
    obtain ⟨q2, r, rfl, hZ⟩ := am_pl_spec h
    clear h
    have h := hZ
    clear hZ
    obtain rfl := am_nsw hn rfl
    exact lv_ldiv hx hb hd h.1 (go h.2)
  | lrem =>
    obtain ⟨q, r, rfl, hZ⟩ := am_pl_spec h
    clear h
    have h := hZ
    clear hZ
    obtain ⟨q2, r, rfl, hZ⟩ := am_pl_spec h
    clear h
    have h := hZ
    clear hZ
    obtain rfl := am_nsw hn rfl
    exact lv_lrem hx hb hd h.1 (go h.2)
  | ladd =>
    obtain ⟨q, r, rfl, hZ⟩ := am_pl_spec h
    clear h
    have h := hZ
    clear hZ
    obtain ⟨q2, r, rfl, hZ⟩ := am_pl_spec h
    clear h
    have h := hZ
    clear hZ
    obtain rfl := am_nsw hn rfl
    exact lv_ladd hx hb hd (go h)
  | lmul =>
    obtain ⟨q, r, rfl, hZ⟩ := am_pl_spec h
    clear h
    have h := hZ
    clear hZ
    obtain ⟨q2, r, rfl, hZ⟩ := am_pl_spec h
    clear h
    have h := hZ
    clear hZ
    obtain rfl := am_nsw hn rfl
    exact lv_lmul hx hb hd (go h)
  | lcmp =>
    obtain ⟨q, r, rfl, hZ⟩ := am_pl_spec h
    clear h
    have h := hZ
    clear hZ
    obtain ⟨q2, r, rfl, hZ⟩ := am_pl_spec h
    clear h
    have h := hZ
    clear hZ
    obtain rfl := am_nsw hn rfl
    exact W.lcmp hx hb hd (go h)
  | ineg =>
    obtain ⟨q, r, rfl, hZ⟩ := am_pi_spec h
    clear h
    have h := hZ
    clear hZ
    obtain rfl := am_nsw hn rfl
    exact lv_ineg hx hb hd (go h)
  | i2l =>
    obtain ⟨q, r, rfl, hZ⟩ := am_pi_spec h
    clear h
    have h := hZ
    clear hZ
    obtain rfl := am_nsw hn rfl
    exact lv_i2l hx hb hd rfl (go h)
  | i2b =>
    obtain ⟨q, r, rfl, hZ⟩ := am_pi_spec h
    clear h
    have h := hZ
    clear hZ
    obtain rfl := am_nsw hn rfl
    exact lv_i2b hx hb hd rfl (go h)
  | l2i =>
    obtain ⟨q, r, rfl, hZ⟩ := am_pl_spec h
    clear h
    have h := hZ
    clear hZ
    obtain rfl := am_nsw hn rfl
    exact lv_l2i hx hb hd rfl (go h)
  | iconst n =>
    obtain rfl := am_nsw hn rfl
    exact lv_iconst hx hb hd (of_decide_eq_true hT) (go h)
  | bipush n =>
    obtain rfl := am_nsw hn rfl
    exact lv_bipush hx hb hd (of_decide_eq_true hT) (go h)
  | sipush n =>
    obtain rfl := am_nsw hn rfl
    exact lv_sipush hx hb hd (of_decide_eq_true hT) (go h)
  | lconst n =>
    obtain rfl := am_nsw hn rfl
    exact lv_lconst hx hb hd (of_decide_eq_true hT) (go h)
  | ldc n =>
    obtain rfl := am_nsw hn rfl
    exact lv_ldc hx hb hown (hts _ (am_lk_ok _ (List.mem_map.mpr ⟨_, am_mem hT, rfl⟩))) hd (go h)
  | ldc_w n =>
    obtain rfl := am_nsw hn rfl
    exact lv_ldcw hx hb hown (hts _ (am_lk_ok _ (List.mem_map.mpr ⟨_, am_mem hT, rfl⟩))) hd (go h)
  | ldc2_w n =>
    obtain rfl := am_nsw hn rfl
    exact lv_ldc2 hx hb hown (hts _ (am_lk2_ok _ (List.mem_map.mpr ⟨_, am_mem hT, rfl⟩))) hd (go h)
  | aconst_null =>
    obtain rfl := am_nsw hn rfl
    exact lv_null hx hb hd (go h)
  | iload n =>
    obtain ⟨v, hv, hZ⟩ := am_ld_spec _ _ h
    clear h
    have h := hZ
    clear hZ
    obtain ⟨z, rfl, hZ⟩ := am_i_spec h
    clear h
    have h := hZ
    clear hZ
    obtain rfl := am_nsw hn rfl
    exact lv_iload hx hb hd (hL.2.2.2 _ _ hv) (go h)
  | iload_n n =>
    obtain ⟨v, hv, hZ⟩ := am_ld_spec _ _ h
    clear h
    have h := hZ
    clear hZ
    obtain ⟨z, rfl, hZ⟩ := am_i_spec h
    clear h
    have h := hZ
    clear hZ
    obtain rfl := am_nsw hn rfl
    exact lv_iload_n hx hb hd rfl (hL.2.2.2 _ _ hv) (go h)
  | lload n =>
    obtain ⟨v, hv, hZ⟩ := am_ld_spec _ _ h
    clear h
    have h := hZ
    clear hZ
    obtain ⟨z, rfl, hZ⟩ := am_l_spec h
    clear h
    have h := hZ
    clear hZ
    obtain rfl := am_nsw hn rfl
    exact lv_lload hx hb hd (hL.2.2.2 _ _ hv) (go h)
  | lload_n n =>
    obtain ⟨v, hv, hZ⟩ := am_ld_spec _ _ h
    clear h
    have h := hZ
    clear hZ
    obtain ⟨z, rfl, hZ⟩ := am_l_spec h
    clear h
    have h := hZ
    clear hZ
    obtain rfl := am_nsw hn rfl
    exact lv_lload_n hx hb hd rfl (hL.2.2.2 _ _ hv) (go h)
  | aload n =>
    obtain ⟨v, hv, hZ⟩ := am_ld_spec _ _ h
    clear h
    have h := hZ
    clear hZ
    obtain ⟨hv3, hZ⟩ := am_a_spec h
    clear h
    have h := hZ
    clear hZ
    obtain rfl := am_nsw hn rfl
    rcases hv3 with ⟨q, rfl⟩ | rfl | ⟨q, rfl⟩
    · exact lv_aload hx hb hd (hL.2.2.2 _ _ hv) (go h)
    · exact lv_aloadN hx hb hd (hL.2.2.2 _ _ hv) (go h)
    · exact lv_aload hx hb hd (hL.2.2.2 _ _ hv) (go h)
  | istore n =>
    obtain ⟨z, r, rfl, hZ⟩ := am_pi_spec h
    clear h
    have h := hZ
    clear hZ
    obtain ⟨ls', hZ, h1, h2, h3⟩ := am_set_spec _ _ _ _ h
    clear h
    have h := hZ
    clear hZ
    obtain rfl := am_nsw hn rfl
    exact lv_istore hx hb hd hL.has (Nat.lt_of_lt_of_le h1 hL.2.1) rfl (fun ls2 hl2 => gol (hL.st (v := .int z) h2 h3 hl2) h)
  | lstore n =>
    obtain ⟨z, r, rfl, hZ⟩ := am_pl_spec h
    clear h
    have h := hZ
    clear hZ
    obtain ⟨ls', hZ, h1, h2, h3⟩ := am_setL_spec _ _ _ _ h
    clear h
    have h := hZ
    clear hZ
    obtain rfl := am_nsw hn rfl
    exact lv_lstore hx hb hd hL.has (Nat.lt_of_lt_of_le h1 hL.2.1) rfl (fun ls2 hl2 => gol (hL.stL (v := .long z) h2 h3 hl2) h)
  | astore n =>
    obtain ⟨v, r, rfl, hZ⟩ := am_pv_spec h
    clear h
    have h := hZ
    clear hZ
    obtain ⟨hv3, hZ⟩ := am_a_spec h
    clear h
    have h := hZ
    clear hZ
    obtain ⟨ls', hZ, h1, h2, h3⟩ := am_set_spec _ _ _ _ h
    clear h
    have h := hZ
    clear hZ
    obtain rfl := am_nsw hn rfl
    rcases hv3 with ⟨q, rfl⟩ | rfl | ⟨q, rfl⟩
    · exact lv_astore hx hb hd hL.has (Nat.lt_of_lt_of_le h1 hL.2.1) rfl (fun ls2 hl2 => gol (hL.st (v := .ref q) h2 h3 hl2) h)
    · exact lv_astoreN hx hb hd hL.has (Nat.lt_of_lt_of_le h1 hL.2.1) rfl (fun ls2 hl2 => gol (hL.st (v := .null) h2 h3 hl2) h)
    · exact lv_astore hx hb hd hL.has (Nat.lt_of_lt_of_le h1 hL.2.1) rfl (fun ls2 hl2 => gol (hL.st (v := .float q) h2 h3 hl2) h)
  | aload_n n =>
    obtain ⟨v, hv, hZ⟩ := am_ld_spec _ _ h
    clear h
    have h := hZ
    clear hZ
    obtain ⟨hv3, hZ⟩ := am_a_spec h
    clear h
    have h := hZ
    clear hZ
    obtain rfl := am_nsw hn rfl
    rcases hv3 with ⟨q, rfl⟩ | rfl | ⟨q, rfl⟩
    · exact lv_aload_n hx hb hd rfl (hL.2.2.2 _ _ hv) (go h)
    · exact lv_aload_nN hx hb hd rfl (hL.2.2.2 _ _ hv) (go h)
    · exact lv_aload_n hx hb hd rfl (hL.2.2.2 _ _ hv) (go h)
  | istore_n n =>
    obtain ⟨z, r, rfl, hZ⟩ := am_pi_spec h
    clear h
    have h := hZ
    clear hZ
    obtain ⟨ls', hZ, h1, h2, h3⟩ := am_set_spec _ _ _ _ h
    clear h
    have h := hZ
    clear hZ
    obtain rfl := am_nsw hn rfl
    exact lv_istore_n hx hb hd rfl hL.has (Nat.lt_of_lt_of_le h1 hL.2.1) rfl (fun ls2 hl2 => gol (hL.st (v := .int z) h2 h3 hl2) h)
  | lstore_n n =>
    obtain ⟨z, r, rfl, hZ⟩ := am_pl_spec h
    clear h
    have h := hZ
    clear hZ
    obtain ⟨ls', hZ, h1, h2, h3⟩ := am_setL_spec _ _ _ _ h
    clear h
    have h := hZ
    clear hZ
    obtain rfl := am_nsw hn rfl
    exact lv_lstore_n hx hb hd rfl hL.has (Nat.lt_of_lt_of_le h1 hL.2.1) rfl (fun ls2 hl2 => gol (hL.stL (v := .long z) h2 h3 hl2) h)
  | astore_n n =>
    obtain ⟨v, r, rfl, hZ⟩ := am_pv_spec h
    clear h
    have h := hZ
    clear hZ
    obtain ⟨hv3, hZ⟩ := am_a_spec h
    clear h
    have h := hZ
    clear hZ
    obtain ⟨ls', hZ, h1, h2, h3⟩ := am_set_spec _ _ _ _ h
    clear h
    have h := hZ
    clear hZ
    obtain rfl := am_nsw hn rfl
    rcases hv3 with ⟨q, rfl⟩ | rfl | ⟨q, rfl⟩
    · exact lv_astore_n hx hb hd rfl hL.has (Nat.lt_of_lt_of_le h1 hL.2.1) rfl (fun ls2 hl2 => gol (hL.st (v := .ref q) h2 h3 hl2) h)
    · exact lv_astore_nN hx hb hd rfl hL.has (Nat.lt_of_lt_of_le h1 hL.2.1) rfl (fun ls2 hl2 => gol (hL.st (v := .null) h2 h3 hl2) h)
    · exact lv_astore_n hx hb hd rfl hL.has (Nat.lt_of_lt_of_le h1 hL.2.1) rfl (fun ls2 hl2 => gol (hL.st (v := .float q) h2 h3 hl2) h)
  | iinc n z =>
    obtain ⟨v, hv, hZ⟩ := am_ld_spec _ _ h
    clear h
    have h := hZ
    clear hZ
    obtain ⟨u, rfl, hZ⟩ := am_i_spec h
    clear h
    have h := hZ
    clear hZ
    obtain ⟨ls', hZ, h1, h2, h3⟩ := am_set_spec _ _ _ _ h
    clear h
    have h := hZ
    clear hZ
    obtain rfl := am_nsw hn rfl
    obtain ⟨kk, hkk⟩ := List.getElem?_of_mem (am_al1_mem.mpr ⟨_, hv, rfl⟩ : _ ∈ am_al1 G ls)
    have e : Int32.ofInt z = x := of_decide_eq_true hT
    exact lv_iinc (v := u + x) hx hb hd hL.has hkk (by rw [e]) (Nat.lt_of_lt_of_le h1 hL.2.1) rfl (fun ls2 hl2 => gol (hL.st (v := .int (u + x)) h2 h3 hl2) h)
  | dup =>
    obtain ⟨v, r, rfl, hZ⟩ := am_pv_spec h
    clear h
    have h := hZ
    clear hZ
    obtain ⟨hc, hZ⟩ := am_cat1_spec h
    clear h
    have h := hZ
    clear hZ
    obtain rfl := am_nsw hn rfl
    exact lv_dup hx hb hd (by rw [am_cv_cat]; exact hc) (go h)
  | pop =>
    obtain ⟨v, r, rfl, hZ⟩ := am_pv_spec h
    clear h
    have h := hZ
    clear hZ
    obtain ⟨hc, hZ⟩ := am_cat1_spec h
    clear h
    have h := hZ
    clear hZ
    obtain rfl := am_nsw hn rfl
    exact lv_pop hx hb hd (by rw [am_cv_cat]; exact hc) (go h)
  | dup2 =>
    obtain ⟨v, r, rfl, hZ⟩ := am_pv_spec h
    clear h
    have h := hZ
    clear hZ
    obtain ⟨hc, hZ⟩ := am_cat1_spec h
    clear h
    have h := hZ
    clear hZ
    obtain ⟨v2, r, rfl, hZ⟩ := am_pv_spec h
    clear h
    have h := hZ
    clear hZ
    obtain ⟨hc2, hZ⟩ := am_cat1_spec h
    clear h
    have h := hZ
    clear hZ
    obtain rfl := am_nsw hn rfl
    exact lv_dup2_11 hx hb hd (by rw [am_cv_cat]; exact hc) (by rw [am_cv_cat]; exact hc2) (go h)
  | goto o =>
    exact lv_goto hx hb hd (of_decide_eq_true hT) (go h)
  | ifCond d o =>
    obtain ⟨q, r, rfl, hZ⟩ := am_pi_spec h
    clear h
    have h := hZ
    clear hZ
    obtain rfl := am_nsw hn rfl
    cases d
    · exact lv_if_eq hx hb hd (of_decide_eq_true hT) (fun w => go (h.1 w)) (fun w => go (h.2 w))
    · exact lv_if_ne hx hb hd (of_decide_eq_true hT) (fun w => go (h.1 w)) (fun w => go (h.2 w))
    · exact lv_if_lt hx hb hd (of_decide_eq_true hT) (fun w => go (h.1 w)) (fun w => go (h.2 w))
    · exact lv_if_ge hx hb hd (of_decide_eq_true hT) (fun w => go (h.1 w)) (fun w => go (h.2 w))
    · exact lv_if_gt hx hb hd (of_decide_eq_true hT) (fun w => go (h.1 w)) (fun w => go (h.2 w))
    · exact lv_if_le hx hb hd (of_decide_eq_true hT) (fun w => go (h.1 w)) (fun w => go (h.2 w))
  | if_icmp d o =>
    obtain ⟨q, r, rfl, hZ⟩ := am_pi_spec h
    clear h
    have h := hZ
    clear hZ
    obtain ⟨q2, r, rfl, hZ⟩ := am_pi_spec h
    clear h
    have h := hZ
    clear hZ
    obtain rfl := am_nsw hn rfl
    cases d
    · exact lv_icmp_eq hx hb hd (of_decide_eq_true hT) (fun w => go (h.1 w)) (fun w => go (h.2 w))
    · exact lv_icmp_ne hx hb hd (of_decide_eq_true hT) (fun w => go (h.1 w)) (fun w => go (h.2 w))
    · exact lv_icmp_lt hx hb hd (of_decide_eq_true hT) (fun w => go (h.1 w)) (fun w => go (h.2 w))
    · exact lv_icmp_ge hx hb hd (of_decide_eq_true hT) (fun w => go (h.1 w)) (fun w => go (h.2 w))
    · exact lv_icmp_gt hx hb hd (of_decide_eq_true hT) (fun w => go (h.1 w)) (fun w => go (h.2 w))
    · exact lv_icmp_le hx hb hd (of_decide_eq_true hT) (fun w => go (h.1 w)) (fun w => go (h.2 w))
  | ifnull o =>
    obtain ⟨v, r, rfl, hZ⟩ := am_pv_spec h
    clear h
    have h := hZ
    clear hZ
    obtain rfl := am_nsw hn rfl
    cases v <;> first | exact lv_ifnullN hx hb hd (of_decide_eq_true hT) (go h) | exact lv_ifnull hx hb hd (go h) | exact h.elim
  | ifnonnull o =>
    obtain ⟨v, r, rfl, hZ⟩ := am_pv_spec h
    clear h
    have h := hZ
    clear hZ
    obtain rfl := am_nsw hn rfl
    cases v <;> first | exact lv_ifnonnullN hx hb hd (go h) | exact lv_ifnonnull hx hb hd (of_decide_eq_true hT) (go h) | exact h.elim
  | tableswitch d lo hi os =>
    obtain ⟨q, r, rfl, hZ⟩ := am_pi_spec h
    clear h
    have h := hZ
    clear hZ
    obtain ⟨hTZ, t6⟩ := am_and hT
    clear hT
    have hT := hTZ
    clear hTZ
    obtain ⟨hTZ, t5⟩ := am_and hT
    clear hT
    have hT := hTZ
    clear hTZ
    obtain ⟨hTZ, t4⟩ := am_and hT
    clear hT
    have hT := hTZ
    clear hTZ
    obtain ⟨hTZ, t3⟩ := am_and hT
    clear hT
    have hT := hTZ
    clear hTZ
    obtain ⟨t1, t2⟩ := am_and hT
    have t1 := of_decide_eq_true t1
    have t2 := of_decide_eq_true t2
    have t3 := of_decide_eq_true t3
    have t4 := of_decide_eq_true t4
    have t5 := of_decide_eq_true t5
    have ent : ∀ i, i < sw.length → (sw.getD i (0, 0)).1 = Int32.ofInt (lo + (i : Int)) ∧ (pc : Int) + os.getD i 0 = ((sw.getD i (0, 0)).2 : Int) := by
      intro i hi
      have w := List.all_eq_true.mp t6 i (List.mem_range.mpr hi)
      obtain ⟨w1, w2⟩ := am_and w
      exact ⟨of_decide_eq_true w1, of_decide_eq_true w2⟩
    rcases am_sw_tab sw h with ⟨i, v, h1, h2, h3⟩ | ⟨h1, h2⟩
    · have hi := (List.getElem?_eq_some_iff.mp h1).1
      have hg : sw.getD i (0, 0) = v := by rw [List.getD_eq_getElem?_getD, h1]; rfl
      obtain ⟨e1, e2⟩ := ent i hi
      rw [hg] at e1 e2
      have ev : q.toInt = lo + (i : Int) := by
        rw [h2, e1]
        exact am_ofInt_toInt (by omega) (by omega)
      have e3 : (q.toInt - lo).toNat = i := by omega
      have hos : os[i]? = some (os.getD i 0) := by
        have hi2 : i < os.size := by omega
        rw [Array.getD_eq_getD_getElem?, Array.getElem?_eq_getElem hi2]
        rfl
      exact lv_tableIn hx hb hd (by omega) (by omega) (by rw [e3]; exact hos) e2 (go h3)
    · refine lv_tableOut hx hb hd ?_ t1 (go h2)
      apply Classical.byContradiction
      intro hne
      have hlt : (q.toInt - lo).toNat < sw.length := by omega
      obtain ⟨e1, e2⟩ := ent _ hlt
      have hmem : sw.getD (q.toInt - lo).toNat (0, 0) ∈ sw := by
        rw [List.getD_eq_getElem?_getD, List.getElem?_eq_getElem hlt]
        exact List.getElem_mem hlt
      refine h1 _ hmem ?_
      rw [e1, show lo + ((q.toInt - lo).toNat : Int) = q.toInt by omega]
      exact (Int32.ofInt_toInt q).symm
  | lookupswitch d ps =>
    obtain ⟨q, r, rfl, hZ⟩ := am_pi_spec h
    clear h
    have h := hZ
    clear hZ
    obtain ⟨hTZ, t4⟩ := am_and hT
    clear hT
    have hT := hTZ
    clear hTZ
    obtain ⟨hTZ, t3⟩ := am_and hT
    clear hT
    have hT := hTZ
    clear hTZ
    obtain ⟨t1, t2⟩ := am_and hT
    have t1 := of_decide_eq_true t1
    have t2 := of_decide_eq_true t2
    have ent : ∀ (i : Nat) (u : Int × Int) (v : Int32 × Nat), ps.toList[i]? = some u → sw[i]? = some v → -1000 < u.1 ∧ u.1 < 1000 ∧ v.1 = Int32.ofInt u.1 ∧ (pc : Int) + u.2 = (v.2 : Int) := by
      intro i u v hu hv
      have hz : (ps.toList.zip sw)[i]? = some (u, v) := by
        rw [List.getElem?_zip_eq_some]
        exact ⟨hu, hv⟩
      have w := List.all_eq_true.mp t4 _ (List.mem_of_getElem? hz)
      obtain ⟨w, w4⟩ := am_and w
      obtain ⟨w, w3⟩ := am_and w
      obtain ⟨w1, w2⟩ := am_and w
      exact ⟨of_decide_eq_true w1, of_decide_eq_true w2, of_decide_eq_true w3, of_decide_eq_true w4⟩
    rcases am_lkoff q.toInt d ps.toList with ⟨u, hu, hu2, hu3⟩ | ⟨hu, hu2⟩
    · obtain ⟨i, hi⟩ := List.getElem?_of_mem hu
      have hlt := (List.getElem?_eq_some_iff.mp hi).1
      have hsw : i < sw.length := by omega
      obtain ⟨e1, e2, e3, e4⟩ := ent i u sw[i] hi (List.getElem?_eq_getElem hsw)
      have hq : q = sw[i].1 := by
        rw [e3, hu2]
        exact (Int32.ofInt_toInt q).symm
      rcases am_sw_tab sw h with ⟨j, v, h1, h2, h3⟩ | ⟨h1, h2⟩
      · have hj := (List.getElem?_eq_some_iff.mp h1).1
        obtain ⟨f1, f2, f3, f4⟩ := ent j _ v (List.getElem?_eq_getElem (by omega : j < ps.toList.length)) h1
        have hqj : q.toInt = ps.toList[j].1 := by
          rw [h2, f3]
          exact am_ofInt_toInt f1 f2
        have hij : i = j := by
          apply Classical.byContradiction
          intro hne
          have pw : ∀ (a b : Nat) (ha : a < ps.toList.length) (hb : b < ps.toList.length), a < b → ps.toList[a].1 < ps.toList[b].1 := by
            intro a b ha hb hab
            induction b with
            | zero => omega
            | succ b ih =>
              have hzz : (ps.toList.zip (ps.toList.drop 1))[b]? = some (ps.toList[b], ps.toList[b + 1]) := by
                rw [List.getElem?_zip_eq_some]
                refine ⟨List.getElem?_eq_getElem (by omega), ?_⟩
                rw [List.getElem?_drop, Nat.add_comm 1 b]
                exact List.getElem?_eq_getElem hb
              have w := of_decide_eq_true (List.all_eq_true.mp t3 _ (List.mem_of_getElem? hzz))
              have w : ps.toList[b].1 < ps.toList[b + 1].1 := w
              by_cases hab2 : a = b
              · subst hab2
                exact w
              · exact Int.lt_trans (ih (by omega) (by omega)) w
          have hui : ps.toList[i].1 = q.toInt := by
            have := (List.getElem?_eq_some_iff.mp hi).2
            rw [this]
            exact hu2
          rcases Nat.lt_or_gt_of_ne hne with hlt2 | hlt2
          · have := pw i j hlt (by omega) hlt2
            omega
          · have := pw j i (by omega) hlt hlt2
            omega
        subst hij
        have hv : sw[i] = v := (List.getElem?_eq_some_iff.mp h1).2
        rw [hv] at e4
        exact lv_lookup hx hb hd t3 hu3 e4 (go h3)
      · exact absurd hq (h1 _ (List.getElem_mem _))
    · rcases am_sw_tab sw h with ⟨j, v, h1, h2, h3⟩ | ⟨h1, h2⟩
      · have hj := (List.getElem?_eq_some_iff.mp h1).1
        obtain ⟨f1, f2, f3, f4⟩ := ent j _ v (List.getElem?_eq_getElem (by omega : j < ps.toList.length)) h1
        exfalso
        refine hu _ (List.getElem_mem (by omega : j < ps.toList.length)) ?_
        rw [h2, f3]
        exact (am_ofInt_toInt f1 f2).symm
      · exact lv_lookup hx hb hd t3 hu2 t1 (go h2)
  | getfield idx =>
    obtain ⟨o, r, rfl, hZ⟩ := am_pr_spec h
    clear h
    have h := hZ
    clear hZ
    obtain ⟨ho, hZ⟩ := am_sh_spec h
    clear h
    have h := hZ
    clear hZ
    obtain ⟨hc, hZ⟩ := am_if_spec h
    clear h
    have h := hZ
    clear hZ
    obtain rfl := am_nsw hn rfl
    obtain ⟨hc1, hc2⟩ := am_and hc
    have hty : (g.1.2 o).1 = a := Nat.eq_of_beq_eq_true hc1
    have hbn : b < (g.1.2 o).2 := Nat.le_of_ble_eq_true hc2
    obtain ⟨hTZ, t3⟩ := am_and hT
    clear hT
    have hT := hTZ
    clear hTZ
    obtain ⟨t1, t2⟩ := am_and hT
    have ha : a < 12 := Nat.le_of_ble_eq_true t3
    have hbN : b < am_Nt a := Nat.le_of_ble_eq_true t2
    have key : ∃ v, am_fv G g (am_ft a b) o b = am_cv G v ∧ J (pc + 3) ls (v :: r) c k g := by
      revert h
      generalize am_ft a b = ty
      intro h
      match ty, h with
      | 0, h => exact ⟨_, rfl, h⟩
      | 1, h => exact ⟨_, rfl, h⟩
      | 2, h => exact ⟨.long _, rfl, h⟩
      | 3, h =>
        obtain ⟨v, e, h2⟩ := am_rv_spec (G := G) (am_gv_3 h)
        exact ⟨v, e, h2⟩
      | n + 4, h => exact ⟨_, rfl, h⟩
    obtain ⟨v, ev, h⟩ := key
    exact va_get hx hb hts (am_u_in a ha) hown hF.1 hR.2.1 o (by rw [am_ws_at ho, am_cell_o hty (by omega)]) (am_cls_at a ha) b hbN (hts _ (am_lf_ok _ (List.mem_map.mpr ⟨_, am_mem t1, rfl⟩))) (fun _ h9 => h9) (by simp [hbn, ev]) hd (go h)
  | putfield idx =>
    obtain rfl := am_nsw hn rfl
    have h : am_pty (am_ft a b) _ _ _ _ := h
    obtain ⟨hTZ, t4⟩ := am_and hT
    clear hT
    have hT := hTZ
    clear hTZ
    obtain ⟨hTZ, t3⟩ := am_and hT
    clear hT
    have hT := hTZ
    clear hTZ
    obtain ⟨t1, t2⟩ := am_and hT
    have ha : a < 12 := Nat.le_of_ble_eq_true t3
    have hbN : b < am_Nt a := Nat.le_of_ble_eq_true t2
    have hlf := am_mem t1
    have hfin : (am_Tt a b).2.2.2 = false ∨ ((am_y m).name = "<init>" ∧ am_ow m = a) := by simpa using t4
    have hft := am_ft_ok a ha b hbN
    rcases hq : am_ft a b with _ | _ | _ | _ | n
    · rw [hq] at h hft
      obtain ⟨z, r, rfl, hZ⟩ := am_pi_spec h
      clear h
      have h := hZ
      clear hZ
      obtain ⟨o, r, rfl, hZ⟩ := am_pr_spec h
      clear h
      have h := hZ
      clear hZ
      obtain ⟨ho, hZ⟩ := am_sh_spec h
      clear h
      have h := hZ
      clear hZ
      obtain ⟨hc, hZ⟩ := am_if_spec h
      clear h
      have h := hZ
      clear hZ
      obtain ⟨hc1, hc2⟩ := am_and hc
      have hty : (g.1.2 o).1 = a := Nat.eq_of_beq_eq_true hc1
      have hbn : b < (g.1.2 o).2 := Nat.le_of_ble_eq_true hc2
      skip
      exact am_putW hC hR hS ⟨hB.1.2 (am_nix hV), hB.2⟩ hd hlf hbN ha hfin ho hty hbn (v := .int z) (by rw [am_tyok_0 hft]; rfl) (by rw [am_tyok_0 hft]; rfl) (g' := am_uI g o b z) rfl (fun x hx => am_cell_congr rfl (fun j => by simp [am_uI, hx]) (fun _ => rfl) (fun _ => rfl))
        (by rw [hq]; simp [am_fv, am_uI]) (fun j hj => by unfold am_fv am_uI; simp [hj]) (fun H1 locs1 hR1 hS1 => goh hR1 hS1 h rfl)
    · rw [hq] at h hft
      obtain ⟨z, r, rfl, hZ⟩ := am_pi_spec h
      clear h
      have h := hZ
      clear hZ
      obtain ⟨o, r, rfl, hZ⟩ := am_pr_spec h
      clear h
      have h := hZ
      clear hZ
      obtain ⟨ho, hZ⟩ := am_sh_spec h
      clear h
      have h := hZ
      clear hZ
      obtain ⟨hc, hZ⟩ := am_if_spec h
      clear h
      have h := hZ
      clear hZ
      obtain ⟨hc1, hc2⟩ := am_and hc
      have hty : (g.1.2 o).1 = a := Nat.eq_of_beq_eq_true hc1
      have hbn : b < (g.1.2 o).2 := Nat.le_of_ble_eq_true hc2
      obtain ⟨h01, h⟩ := h
      exact am_putW hC hR hS ⟨hB.1.2 (am_nix hV), hB.2⟩ hd hlf hbN ha hfin ho hty hbn (v := .int z) (by rw [am_tyok_1 hft]; exact (am_bool_nf h01).1) (by rw [am_tyok_1 hft]; exact (am_bool_nf h01).2) (g' := am_uI g o b z) rfl (fun x hx => am_cell_congr rfl (fun j => by simp [am_uI, hx]) (fun _ => rfl) (fun _ => rfl))
        (by rw [hq]; simp [am_fv, am_uI]) (fun j hj => by unfold am_fv am_uI; simp [hj]) (fun H1 locs1 hR1 hS1 => goh hR1 hS1 h rfl)
    · rw [hq] at h hft
      obtain ⟨z, r, rfl, hZ⟩ := am_pl_spec h
      clear h
      have h := hZ
      clear hZ
      obtain ⟨o, r, rfl, hZ⟩ := am_pr_spec h
      clear h
      have h := hZ
      clear hZ
      obtain ⟨ho, hZ⟩ := am_sh_spec h
      clear h
      have h := hZ
      clear hZ
      obtain ⟨hc, hZ⟩ := am_if_spec h
      clear h
      have h := hZ
      clear hZ
      obtain ⟨hc1, hc2⟩ := am_and hc
      have hty : (g.1.2 o).1 = a := Nat.eq_of_beq_eq_true hc1
      have hbn : b < (g.1.2 o).2 := Nat.le_of_ble_eq_true hc2
      skip
      exact am_putW hC hR hS ⟨hB.1.2 (am_nix hV), hB.2⟩ hd hlf hbN ha hfin ho hty hbn (v := .long z) (by rw [am_tyok_2 hft]; rfl) (by rw [am_tyok_2 hft]; rfl) (g' := am_uL g o b z) rfl (fun x hx => am_cell_congr rfl (fun _ => rfl) (fun j => by simp [am_uL, hx]) (fun _ => rfl))
        (by rw [hq]; simp [am_fv, am_uL]) (fun j hj => by unfold am_fv am_uL; simp [hj]) (fun H1 locs1 hR1 hS1 => goh hR1 hS1 h rfl)
    · rw [hq] at h hft
      obtain ⟨z, r, rfl, hZ⟩ := am_pr_spec h
      clear h
      have h := hZ
      clear hZ
      obtain ⟨o, r, rfl, hZ⟩ := am_pr_spec h
      clear h
      have h := hZ
      clear hZ
      obtain ⟨ho, hZ⟩ := am_sh_spec h
      clear h
      have h := hZ
      clear hZ
      obtain ⟨hc, hZ⟩ := am_if_spec h
      clear h
      have h := hZ
      clear hZ
      obtain ⟨hc1, hc2⟩ := am_and hc
      have hty : (g.1.2 o).1 = a := Nat.eq_of_beq_eq_true hc1
      have hbn : b < (g.1.2 o).2 := Nat.le_of_ble_eq_true hc2
      skip
      exact am_putW hC hR hS ⟨hB.1.2 (am_nix hV), hB.2⟩ hd hlf hbN ha hfin ho hty hbn (v := .ref (G.1 + z)) (am_tyok_3 hft _).1 (am_tyok_3 hft _).2 (g' := am_uR g o b (some z)) rfl (fun x hx => am_cell_congr rfl (fun _ => rfl) (fun _ => rfl) (fun j => by simp [am_uR, hx]))
        (by rw [hq]; simp [am_fv, am_uR, va_rf]) (fun j hj => by unfold am_fv am_uR; simp [hj]) (fun H1 locs1 hR1 hS1 => goh hR1 hS1 h rfl)
    · rw [hq] at h
      exact h.elim
  | iaload =>
    obtain ⟨q, r, rfl, hZ⟩ := am_pi_spec h
    clear h
    have h := hZ
    clear hZ
    obtain ⟨v, r, rfl, hZ⟩ := am_pv_spec h
    clear h
    have h := hZ
    clear hZ
    obtain rfl := am_nsw hn rfl
    cases v with
    | ref o =>
      replace h := am_arr_ref h
      obtain ⟨ho, hZ⟩ := am_sh_spec h
      clear h
      have h := hZ
      clear hZ
      obtain ⟨hc, hZ⟩ := am_if_spec h
      clear h
      have h := hZ
      clear hZ
      have hty := Nat.eq_of_beq_eq_true hc
      exact va_iald hx hb hF.1 hR.2.1 o 0 (by rw [am_ws_at ho, am_cell_i hty]) rfl h.1 hd (go h.2)
    | float z =>
      obtain ⟨scr, h1, h2, h3, h4, h5⟩ := hR.2.2.1
      have hlt : q.toNatClampNeg < G.2.2.1 := Nat.not_le.mp fun w => h.1 (Or.inr w)
      exact W.iald (v := .int (G.2.2.2.1 q.toNatClampNeg)) hx hb h1 h2 h3 (by rw [h4]; exact h.1) (h5 _ hlt) rfl rfl hd (go h.2)
    | int z => exact h.elim
    | long z => exact h.elim
    | double z => exact h.elim
    | null => exact h.elim
    | retAddr z => exact h.elim
  | aaload =>
    obtain ⟨q, r, rfl, hZ⟩ := am_pi_spec h
    clear h
    have h := hZ
    clear hZ
    obtain ⟨o, r, rfl, hZ⟩ := am_pr_spec h
    clear h
    have h := hZ
    clear hZ
    obtain ⟨ho, hZ⟩ := am_sh_spec h
    clear h
    have h := hZ
    clear hZ
    obtain ⟨hc, hZ⟩ := am_if_spec h
    clear h
    have h := hZ
    clear hZ
    obtain rfl := am_nsw hn rfl
    obtain ⟨hi, h⟩ := h
    obtain ⟨v, ev, hZ⟩ := am_rv_spec (G := G) h
    clear h
    have h := hZ
    clear hZ
    have w := go h
    rw [List.map_cons, ← ev] at w
    rcases Bool.or_eq_true_iff.mp hc with hc | hc
    · have hty := Nat.eq_of_beq_eq_true hc
      exact va_aldq (f := fun j => (g.2.2.2 o j).map (fun q => G.1 + q)) hx hb hF.1 hR.2.1 o 2 (by rw [am_ws_at ho, am_cell_s hty]) rfl hi hd w
    · have hty := Nat.eq_of_beq_eq_true hc
      exact va_aldq (f := fun j => (g.2.2.2 o j).map (fun q => G.1 + q)) hx hb hF.1 hR.2.1 o 3 (by rw [am_ws_at ho, am_cell_t hty]) rfl hi hd w
  | iastore =>
    obtain ⟨z, r, rfl, hZ⟩ := am_pi_spec h
    clear h
    have h := hZ
    clear hZ
    obtain ⟨q, r, rfl, hZ⟩ := am_pi_spec h
    clear h
    have h := hZ
    clear hZ
    obtain ⟨o, r, rfl, hZ⟩ := am_pr_spec h
    clear h
    have h := hZ
    clear hZ
    obtain ⟨ho, hZ⟩ := am_sh_spec h
    clear h
    have h := hZ
    clear hZ
    obtain ⟨hc, hZ⟩ := am_if_spec h
    clear h
    have h := hZ
    clear hZ
    obtain rfl := am_nsw hn rfl
    exact am_iastW hC hR hS ⟨hB.1.2 (am_nix hV), hB.2⟩ hd ho (Nat.eq_of_beq_eq_true hc) h.1 (fun H1 locs1 hR1 hS1 => goh hR1 hS1 h.2 rfl)
  | aastore =>
    obtain ⟨z, r, rfl, hZ⟩ := am_pr_spec h
    clear h
    have h := hZ
    clear hZ
    obtain ⟨q, r, rfl, hZ⟩ := am_pi_spec h
    clear h
    have h := hZ
    clear hZ
    obtain ⟨o, r, rfl, hZ⟩ := am_pr_spec h
    clear h
    have h := hZ
    clear hZ
    obtain ⟨ho, hZ⟩ := am_sh_spec h
    clear h
    have h := hZ
    clear hZ
    obtain ⟨hz, hZ⟩ := am_sh_spec h
    clear h
    have h := hZ
    clear hZ
    obtain ⟨hc, hZ⟩ := am_if_spec h
    clear h
    have h := hZ
    clear hZ
    obtain rfl := am_nsw hn rfl
    refine am_aastW hC hR hS ⟨hB.1.2 (am_nix hV), hB.2⟩ hd ho hz ?_ h.1 (fun H1 locs1 hR1 hS1 => goh hR1 hS1 h.2 rfl)
    rcases Bool.or_eq_true_iff.mp hc with hc | hc
    · obtain ⟨c1, c2⟩ := am_and hc
      exact Or.inl ⟨Nat.eq_of_beq_eq_true c1, Nat.eq_of_beq_eq_true c2⟩
    · obtain ⟨c1, c2⟩ := am_and hc
      exact Or.inr ⟨Nat.eq_of_beq_eq_true c1, Nat.eq_of_beq_eq_true c2⟩
  | arraylength =>
    obtain ⟨v, r, rfl, hZ⟩ := am_pv_spec h
    clear h
    have h := hZ
    clear hZ
    obtain rfl := am_nsw hn rfl
    cases v with
    | ref o =>
      replace h := am_arr_ref h
      obtain ⟨ho, hZ⟩ := am_sh_spec h
      clear h
      have h := hZ
      clear hZ
      obtain ⟨hc, hZ⟩ := am_if_spec h
      clear h
      have h := hZ
      clear hZ
      obtain ⟨c1, c2⟩ := am_and hc
      have c1 := Nat.le_of_ble_eq_true c1
      have c2 := Nat.le_of_ble_eq_true c2
      rcases (by omega : (g.1.2 o).1 = 100 ∨ (g.1.2 o).1 = 101 ∨ (g.1.2 o).1 = 102 ∨ (g.1.2 o).1 = 103) with t | t | t | t
      · exact va_alen (x := ((g.1.2 o).2, .inl (g.2.1 o))) hx hb hF.1 hR.2.1 o 0 (by rw [am_ws_at ho, am_cell_i t]) rfl rfl hd (go h)
      · exact va_alen (x := ((g.1.2 o).2, .inl (g.2.1 o))) hx hb hF.1 hR.2.1 o 1 (by rw [am_ws_at ho, am_cell_z t]) rfl rfl hd (go h)
      · exact va_alen (x := ((g.1.2 o).2, .inr (.inr (.inr (.inr (fun j => (g.2.2.2 o j).map (fun q => G.1 + q))))))) hx hb hF.1 hR.2.1 o 2 (by rw [am_ws_at ho, am_cell_s t]) rfl rfl hd (go h)
      · exact va_alen (x := ((g.1.2 o).2, .inr (.inr (.inr (.inr (fun j => (g.2.2.2 o j).map (fun q => G.1 + q))))))) hx hb hF.1 hR.2.1 o 3 (by rw [am_ws_at ho, am_cell_t t]) rfl rfl hd (go h)
    | float z =>
      obtain ⟨scr, h1, h2, h3, h4, h5⟩ := hR.2.2.1
      exact W.alen (n := Int32.ofNat G.2.2.1) hx hb h1 h2 (by rw [h4] <;> rfl) rfl rfl hd (go h)
    | int z => exact h.elim
    | long z => exact h.elim
    | double z => exact h.elim
    | null => exact h.elim
    | retAddr z => exact h.elim
  | new idx =>
    obtain ⟨hc, hZ⟩ := am_if_spec h
    clear h
    have h := hZ
    clear hZ
    obtain ⟨c1, c2⟩ := am_and hc
    obtain rfl := am_nsw hn rfl
    obtain ⟨hTZ, t3⟩ := am_and hT
    clear hT
    have hT := hTZ
    clear hTZ
    obtain ⟨t1, t2⟩ := am_and hT
    exact am_newW hC hR hS hd (am_mem t1) (by simpa using t2) (Nat.le_of_ble_eq_true t3) (Nat.le_of_ble_eq_true c1) (Nat.le_of_ble_eq_true c2) (fun H1 hR1 hS1 => hJ _ _ _ _ _ _ h p e s mid args below meth cc H1 locs lsA Z hC hR1 hS1 ⟨⟨by show G.1 + (g.1.1 + 1) ≤ _ + (c + 1); have := hB.1.1; omega, fun q => by show _ + (c + 1) = G.1 + (g.1.1 + 1); have := hB.1.2 q; omega⟩, hB.2⟩ hL hZ)
  | newarray t =>
    obtain ⟨q, r, rfl, hZ⟩ := am_pi_spec h
    clear h
    have h := hZ
    clear hZ
    obtain ⟨hneg, h⟩ := h
    obtain ⟨hc, hZ⟩ := am_if_spec h
    clear h
    have h := hZ
    clear hZ
    obtain ⟨hcZ, c2⟩ := am_and hc
    clear hc
    have hc := hcZ
    clear hcZ
    obtain ⟨c0, c1⟩ := am_and hc
    obtain rfl := am_nsw hn rfl
    refine am_newaW hC hR hS hd ?_ hneg (Nat.le_of_ble_eq_true c0) (Nat.le_of_ble_eq_true c1) (Nat.le_of_ble_eq_true c2) (fun H1 hR1 hS1 => hJ _ _ _ _ _ _ h p e s mid args below meth cc H1 locs lsA Z hC hR1 hS1 ⟨⟨by show G.1 + (g.1.1 + 1) ≤ _ + (c + 1); have := hB.1.1; omega, fun q => by show _ + (c + 1) = G.1 + (g.1.1 + 1); have := hB.1.2 q; omega⟩, hB.2⟩ hL hZ)
    obtain ⟨t1, t2⟩ := am_and hT
    exact ⟨(by cases t <;> first | rfl | (cases t1)), by simpa using t2⟩
  | anewarray idx =>
    obtain ⟨q, r, rfl, hZ⟩ := am_pi_spec h
    clear h
    have h := hZ
    clear hZ
    obtain ⟨hneg, h⟩ := h
    obtain ⟨hc, hZ⟩ := am_if_spec h
    clear h
    have h := hZ
    clear hZ
    obtain ⟨hcZ, c2⟩ := am_and hc
    clear hc
    have hc := hcZ
    clear hcZ
    obtain ⟨c0, c1⟩ := am_and hc
    obtain rfl := am_nsw hn rfl
    obtain ⟨t1, t2⟩ := am_and hT
    refine am_newqW hC hR hS hd (am_mem t1) ?_ hneg (Nat.le_of_ble_eq_true c0) (Nat.le_of_ble_eq_true c1) (Nat.le_of_ble_eq_true c2) (fun H1 hR1 hS1 => hJ _ _ _ _ _ _ h p e s mid args below meth cc H1 locs lsA Z hC hR1 hS1 ⟨⟨by show G.1 + (g.1.1 + 1) ≤ _ + (c + 1); have := hB.1.1; omega, fun q => by show _ + (c + 1) = G.1 + (g.1.1 + 1); have := hB.1.2 q; omega⟩, hB.2⟩ hL hZ)
    simpa using t2
  | ireturn =>
    cases st with
    | nil => exact h.elim
    | cons v r => cases r with
      | cons v2 r2 => cases v <;> exact h.elim
      | nil => cases v with
      | int z =>
        change am_if _ _ at h
        obtain ⟨hc, hZ⟩ := am_if_spec h
        clear h
        have h := hZ
        clear hZ
        obtain ⟨c1, c2⟩ := am_and hc
        have c1 := am_rc c1
        have w : Q (some (.int z)) g ∧ (am_rty m = some .int ∨ (am_rty m = some .boolean ∧ (z = 0 ∨ z = 1))) := by
          rcases Bool.or_eq_true_iff.mp hT with t | t
          · obtain ⟨t1, t2⟩ := am_and t
            have t1 : a = 0 := by simpa using t1
            rw [t1] at h
            exact ⟨h, Or.inl (of_decide_eq_true t2)⟩
          · obtain ⟨t1, t2⟩ := am_and t
            have t1 : a = 1 := by simpa using t1
            rw [t1] at h
            exact ⟨h.2, Or.inr ⟨of_decide_eq_true t2, h.1⟩⟩
        exact W.widen c1.1 (Nat.le_of_ble_eq_true c2) (hZ (some (.int z)) g H locs pc lsA w.1 hR hS (am_rb hB.1 c1) ⟨hd, w.2⟩)
      | long z => exact h.elim
      | float z => exact h.elim
      | double z => exact h.elim
      | ref z => exact h.elim
      | retAddr z => exact h.elim
      | null => exact h.elim
  | lreturn =>
    cases st with
    | nil => exact h.elim
    | cons v r => cases r with
      | cons v2 r2 => cases v <;> exact h.elim
      | nil => cases v with
      | long z =>
        change am_if _ _ at h
        obtain ⟨hc, hZ⟩ := am_if_spec h
        clear h
        have h := hZ
        clear hZ
        obtain ⟨c1, c2⟩ := am_and hc
        have c1 := am_rc c1
        exact W.widen c1.1 (Nat.le_of_ble_eq_true c2) (hZ (some (.long z)) g H locs pc lsA h hR hS (am_rb hB.1 c1) ⟨hd, of_decide_eq_true hT⟩)
      | int z => exact h.elim
      | float z => exact h.elim
      | double z => exact h.elim
      | ref z => exact h.elim
      | retAddr z => exact h.elim
      | null => exact h.elim
  | areturn =>
    have hrt : ∃ n, am_rty m = some (.object n) := by
      have hT : (match am_rty m with
          | some (.object _) => true
          | _ => false) = true := hT
      revert hT
      split
      · next n hn => exact fun _ => ⟨n, hn⟩
      · intro q
        cases q
    cases st with
    | nil => exact h.elim
    | cons v r => cases r with
      | cons v2 r2 => cases v <;> exact h.elim
      | nil => cases v with
      | ref z =>
        change am_if _ _ at h
        obtain ⟨hc, hZ⟩ := am_if_spec h
        clear h
        have h := hZ
        clear hZ
        obtain ⟨c1, c2⟩ := am_and hc
        have c1 := am_rc c1
        exact W.widen c1.1 (Nat.le_of_ble_eq_true c2) (hZ (some (.ref z)) g H locs pc lsA h hR hS (am_rb hB.1 c1) ⟨hd, hrt⟩)
      | null =>
        change am_if _ _ at h
        obtain ⟨hc, hZ⟩ := am_if_spec h
        clear h
        have h := hZ
        clear hZ
        obtain ⟨c1, c2⟩ := am_and hc
        have c1 := am_rc c1
        exact W.widen c1.1 (Nat.le_of_ble_eq_true c2) (hZ (some .null) g H locs pc lsA h hR hS (am_rb hB.1 c1) ⟨hd, hrt⟩)
      | int z => exact h.elim
      | long z => exact h.elim
      | float z => exact h.elim
      | double z => exact h.elim
      | retAddr z => exact h.elim
  | return_ =>
    cases st with
    | cons v r => exact h.elim
    | nil =>
      change am_if _ _ at h
      obtain ⟨hc, hZ⟩ := am_if_spec h
      clear h
      have h := hZ
      clear hZ
      obtain ⟨c1, c2⟩ := am_and hc
      have c1 := am_rc c1
      exact W.widen c1.1 (Nat.le_of_ble_eq_true c2) (hZ none g H locs pc lsA h hR hS (am_rb hB.1 c1) ⟨hd, of_decide_eq_true hT⟩)
  | invokestatic idx =>
    obtain rfl := am_nsw hn rfl
    by_cases a0 : a = 1000
    · subst a0
      obtain ⟨q, r, rfl, hZ⟩ := am_pi_spec h
      clear h
      have h := hZ
      clear hZ
      obtain ⟨q2, r, rfl, hZ⟩ := am_pi_spec h
      clear h
      have h := hZ
      clear hZ
      obtain ⟨hc, hZ⟩ := am_if_spec h
      clear h
      have h := hZ
      clear hZ
      obtain ⟨hcZ, c3⟩ := am_and hc
      clear hc
      have hc := hcZ
      clear hcZ
      obtain ⟨c1, c2⟩ := am_and hc
      have hT : ((am_lm.contains (am_ow m, idx, 1000) = true ∧ Nat.ble 1 (am_fr m) = true) ∧ Nat.ble 21 (am_lo m) = true) := by simpa [am_chkT] using hT
      have c1 := Nat.le_of_ble_eq_true c1
      rw [am_cats_eq G] at c1
      exact va_mmax hx hb hfix.2.2.1 hown (hts _ (am_lm_ok _ (List.mem_map.mpr ⟨_, am_mem hT.1.1, rfl⟩))) (hts _ (am_wodd _ (List.mem_of_getElem? (i := 0) rfl))) (hts _ (am_wodd _ (List.mem_of_getElem? (i := 4) rfl))) (hts _ (am_wodd _ (List.mem_of_getElem? (i := 8) rfl))) (Nat.le_of_ble_eq_true hT.1.2) (by have := Nat.le_of_ble_eq_true hT.2; show _ ≤ am_lo m; omega) (Nat.le_of_ble_eq_true c2) (Nat.le_of_ble_eq_true c3) hd (go h)
    · by_cases a1 : a = 1001
      · subst a1
        obtain ⟨q, r, rfl, hZ⟩ := am_pi_spec h
        clear h
        have h := hZ
        clear hZ
        obtain ⟨q2, r, rfl, hZ⟩ := am_pi_spec h
        clear h
        have h := hZ
        clear hZ
        obtain ⟨hc, hZ⟩ := am_if_spec h
        clear h
        have h := hZ
        clear hZ
        obtain ⟨hcZ, c3⟩ := am_and hc
        clear hc
        have hc := hcZ
        clear hcZ
        obtain ⟨c1, c2⟩ := am_and hc
        have hT : ((am_lm.contains (am_ow m, idx, 1001) = true ∧ Nat.ble 1 (am_fr m) = true) ∧ Nat.ble 21 (am_lo m) = true) := by simpa [am_chkT] using hT
        have c1 := Nat.le_of_ble_eq_true c1
        rw [am_cats_eq G] at c1
        exact va_mmin hx hb hfix.2.2.1 hown (hts _ (am_lm_ok _ (List.mem_map.mpr ⟨_, am_mem hT.1.1, rfl⟩))) (hts _ (am_wodd _ (List.mem_of_getElem? (i := 1) rfl))) (hts _ (am_wodd _ (List.mem_of_getElem? (i := 4) rfl))) (hts _ (am_wodd _ (List.mem_of_getElem? (i := 9) rfl))) (Nat.le_of_ble_eq_true hT.1.2) (by have := Nat.le_of_ble_eq_true hT.2; show _ ≤ am_lo m; omega) (Nat.le_of_ble_eq_true c2) (Nat.le_of_ble_eq_true c3) hd (go h)
      · by_cases a2 : a = 1002
        · subst a2
          obtain ⟨n, r, rfl, hZ⟩ := am_pi_spec h
          clear h
          have h := hZ
          clear hZ
          obtain ⟨dp, r, rfl, hZ⟩ := am_pi_spec h
          clear h
          have h := hZ
          clear hZ
          obtain ⟨o, r, rfl, hZ⟩ := am_pr_spec h
          clear h
          have h := hZ
          clear hZ
          obtain ⟨sp, r, rfl, hZ⟩ := am_pi_spec h
          clear h
          have h := hZ
          clear hZ
          obtain ⟨u, r, rfl, hZ⟩ := am_pr_spec h
          clear h
          have h := hZ
          clear hZ
          obtain ⟨ho, hZ⟩ := am_sh_spec h
          clear h
          have h := hZ
          clear hZ
          obtain ⟨hu, hZ⟩ := am_sh_spec h
          clear h
          have h := hZ
          clear hZ
          obtain ⟨hc, hZ⟩ := am_if_spec h
          clear h
          have h := hZ
          clear hZ
          obtain ⟨hcZ, c3⟩ := am_and hc
          clear hc
          have hc := hcZ
          clear hcZ
          obtain ⟨c1, c2⟩ := am_and hc
          obtain ⟨h1, h2, h3, h4, h5, h⟩ := h
          have hT : ((am_lm.contains (am_ow m, idx, 1002) = true ∧ Nat.ble 1 (am_fr m) = true) ∧ Nat.ble 30 (am_lo m) = true) := by simpa [am_chkT] using hT
          have c3 := Nat.le_of_ble_eq_true c3
          rw [am_cats_eq G] at c3
          exact am_copyW hC hR hS ⟨hB.1.2 (am_nix (by simpa using (am_and hV).1)), hB.2⟩ hL.1 hd (am_mem hT.1.1) (Nat.le_of_ble_eq_true hT.1.2) (Nat.le_of_ble_eq_true hT.2) ho hu (Nat.eq_of_beq_eq_true c1) (Nat.eq_of_beq_eq_true c2) c3 h1 h2 h3 h4 h5 (fun H1 locs1 hR1 hS1 => goh hR1 hS1 h rfl)
        · have h := am_stat a0 a1 a2 h
          obtain ⟨xs, r, rfl, hxs, hZ⟩ := am_take_spec _ _ _ h
          clear h
          have h := hZ
          clear hZ
          rw [List.append_nil] at h
          obtain ⟨hc, hZ⟩ := am_if_spec h
          clear h
          have h := hZ
          clear hZ
          obtain ⟨hcZ, c4⟩ := am_and hc
          clear hc
          have hc := hcZ
          clear hcZ
          obtain ⟨hcZ, c3⟩ := am_and hc
          clear hc
          have hc := hcZ
          clear hcZ
          obtain ⟨c1, c2⟩ := am_and hc
          have hT := am_statT a0 a1 a2 hT
          obtain ⟨hTZ, t6⟩ := am_and hT
          clear hT
          have hT := hTZ
          clear hTZ
          obtain ⟨hTZ, t5⟩ := am_and hT
          clear hT
          have hT := hTZ
          clear hTZ
          obtain ⟨hTZ, t4⟩ := am_and hT
          clear hT
          have hT := hTZ
          clear hTZ
          obtain ⟨hTZ, t3⟩ := am_and hT
          clear hT
          have hT := hTZ
          clear hTZ
          obtain ⟨hTZ, t2⟩ := am_and hT
          clear hT
          have hT := hTZ
          clear hTZ
          obtain ⟨t0, t1⟩ := am_and hT
          have ha : a < 267 := Nat.le_of_ble_eq_true t0
          have h264 : a ≠ 264 := by simpa using t1
          have c1 := Nat.le_of_ble_eq_true c1
          have hM := am_met ha (Nat.le_of_ble_eq_true c2) (hCl _ _ _ _ h)
          have hcb := am_cb hC ha h264 (Nat.le_of_ble_eq_true t5) (Nat.le_of_ble_eq_true t6) (of_decide_eq_true t4)
          have hst := hts _ (am_wst _ (List.mem_map.mpr ⟨a, am_mem t2, rfl⟩))
          have hlen : (xs.reverse.map (am_cv G)).length = b := by simp [hxs]
          have hstk : (F0 mid pc lsA ((xs ++ r).map (am_cv G))).stack = (xs.reverse.map (am_cv G)).reverse ++ r.map (am_cv G) := by simp [F0]
          have hrest : 2 * (F0 mid pc lsA ((xs ++ r).map (am_cv G))).monitorRoom + ((r.map (am_cv G)).map fun v => v.category).sum ≤ 8 := am_rest (mid := mid) (pc := pc) (lsA := lsA) c1
          have hfc : c + (am_al a).1 ≤ (am_rm m).cells ∧ k + (am_al a).2 ≤ (am_rm m).slots := ⟨Nat.le_of_ble_eq_true c3, Nat.le_of_ble_eq_true c4⟩
          rcases am_lnk hC t3 ha with hlk | hlk
          · exact am_behind (av := #[]) hR hS hB (am_and hV).2 (va_runS hfix hM ⟨⟨hcb.1.1, hcb.1.2.1, hcb.1.2.2.1, hcb.1.2.2.2.1, hcb.1.2.2.2.2.1, hcb.1.2.2.2.2.2, hcb.2.1, hcb.2.2.1, hcb.2.2.2.1, hcb.2.2.2.2, hlk⟩, hst⟩ ⟨am_blind, fun U hU hW => am_pre hC hR U hU hW⟩ rfl hlen rfl hstk hrest hd hfc) (fun v g' H1 locs1 hK hR1 hS1 hB1 => hJ _ _ _ _ _ _ hK p e s mid args below meth cc H1 locs1 lsA Z hC hR1 hS1 hB1 hL hZ)
          · exact am_behind (av := #[]) hR hS hB (am_and hV).2 (va_runSN hfix hM ⟨⟨hcb.1, hcb.2.1, hcb.2.2.1, hcb.2.2.2.1, hcb.2.2.2.2, hlk⟩, hst, trivial⟩ ⟨am_blind, fun U hU hW => am_pre hC hR U hU hW⟩ rfl hlen rfl hstk hrest hd hfc) (fun v g' H1 locs1 hK hR1 hS1 hB1 => hJ _ _ _ _ _ _ hK p e s mid args below meth cc H1 locs1 lsA Z hC hR1 hS1 hB1 hL hZ)
  | invokevirtual idx =>
    obtain rfl := am_nsw hn rfl
    obtain ⟨xs, r, rfl, hxs, hZ⟩ := am_take_spec _ _ _ h
    clear h
    have h := hZ
    clear hZ
    rw [List.append_nil] at h
    obtain ⟨o, As, hAs, hZ⟩ := am_pr_spec h
    clear h
    have h := hZ
    clear hZ
    obtain ⟨ho, hZ⟩ := am_sh_spec h
    clear h
    have h := hZ
    clear hZ
    obtain ⟨hc, hZ⟩ := am_if_spec h
    clear h
    have h := hZ
    clear hZ
    obtain ⟨hcZ, c4⟩ := am_and hc
    clear hc
    have hc := hcZ
    clear hcZ
    obtain ⟨hcZ, c3⟩ := am_and hc
    clear hc
    have hc := hcZ
    clear hcZ
    obtain ⟨hcZ, c2⟩ := am_and hc
    clear hc
    have hc := hcZ
    clear hcZ
    obtain ⟨hcZ, c1⟩ := am_and hc
    clear hc
    have hc := hcZ
    clear hcZ
    obtain ⟨c0, c5⟩ := am_and hc
    have hty : (g.1.2 o).1 = am_ow a := Nat.eq_of_beq_eq_true c0
    have htl : am_ow a < 12 := by
      have := Nat.le_of_ble_eq_true c5
      rw [hty] at this
      omega
    obtain ⟨hTZ, t6⟩ := am_and hT
    clear hT
    have hT := hTZ
    clear hTZ
    obtain ⟨hTZ, t5⟩ := am_and hT
    clear hT
    have hT := hTZ
    clear hTZ
    obtain ⟨hTZ, t4⟩ := am_and hT
    clear hT
    have hT := hTZ
    clear hTZ
    obtain ⟨hTZ, t3⟩ := am_and hT
    clear hT
    have hT := hTZ
    clear hTZ
    obtain ⟨hTZ, t2⟩ := am_and hT
    clear hT
    have hT := hTZ
    clear hTZ
    obtain ⟨hTZ, t7⟩ := am_and hT
    clear hT
    have hT := hTZ
    clear hTZ
    obtain ⟨t0, t1⟩ := am_and hT
    have ha : a < 267 := Nat.le_of_ble_eq_true t0
    have h264 : a ≠ 264 := by simpa using t1
    have c1 := Nat.le_of_ble_eq_true c1
    have hM := am_met ha (Nat.le_of_ble_eq_true c2) (hCl _ _ _ _ h)
    obtain ⟨nP, hnP, hnb⟩ := am_desc1 (of_decide_eq_true t4)
    have hcb := am_cb hC ha h264 (Nat.le_of_ble_eq_true t5) (Nat.le_of_ble_eq_true t6) hnP
    have hin := hts _ (am_wi _ (List.mem_map.mpr ⟨a, am_mem t7, rfl⟩))
    have hse := hts _ (am_wv _ (List.mem_map.mpr ⟨a, am_mem t2, rfl⟩))
    have hlen : (As.map (am_cv G)).length = nP := by
      have e : xs.reverse.length = (Value.ref o :: As).length := by rw [hAs]
      simp at e
      simp
      omega
    have hxs2 : xs = As.reverse ++ [Value.ref o] := by
      have e := congrArg List.reverse hAs
      simpa using e
    have hstk : (F0 mid pc lsA ((xs ++ r).map (am_cv G))).stack = (As.map (am_cv G)).reverse ++ .ref (G.1 + o) :: r.map (am_cv G) := by
      simp [F0, hxs2, am_cv]
    have hrest : 2 * (F0 mid pc lsA ((xs ++ r).map (am_cv G))).monitorRoom + ((r.map (am_cv G)).map fun v => v.category).sum ≤ 8 := am_rest (mid := mid) (pc := pc) (lsA := lsA) c1
    have hfc : c + (am_al a).1 ≤ (am_rm m).cells ∧ k + (am_al a).2 ≤ (am_rm m).slots := ⟨Nat.le_of_ble_eq_true c3, Nat.le_of_ble_eq_true c4⟩
    have hpre : ∀ U : State, U.heap = H → s.WarmedH U.vm → va_Pc (xs.reverse.map (am_cv G)) (fun U => am_F G U ∧ am_rel G g U U.heap ∧ G.1 ≤ U.heap.size) (Value.ref (G.1 + o) :: As.map (am_cv G)).toArray U := by
      intro U hU hW
      have w := am_pre hC hR (As := xs.reverse) U hU hW
      rw [hAs] at w ⊢
      exact w
    rcases am_lnk hC t3 ha with hlk | hlk
    · exact am_behind (av := #[]) hR hS hB hV (va_runV hfix hM ⟨⟨hcb.1.1, hcb.1.2.1, hcb.1.2.2.1, hcb.1.2.2.2.1, hcb.1.2.2.2.2.1, hcb.1.2.2.2.2.2, hcb.2.1, hcb.2.2.1, hcb.2.2.2.1, hcb.2.2.2.2, hlk⟩, hin, hse⟩ ⟨am_blind, by rw [(am_own a ha).1]; exact am_recv hF hR ho hty htl, hpre⟩ rfl hlen rfl hstk hrest hd hfc) (fun v g' H1 locs1 hK hR1 hS1 hB1 => hJ _ _ _ _ _ _ hK p e s mid args below meth cc H1 locs1 lsA Z hC hR1 hS1 hB1 hL hZ)
    · exact am_behind (av := #[]) hR hS hB hV (va_runVN hfix hM ⟨⟨hcb.1, hcb.2.1, hcb.2.2.1, hcb.2.2.2.1, hcb.2.2.2.2, hlk⟩, hin, hse⟩ ⟨am_blind, by rw [(am_own a ha).1]; exact am_recv hF hR ho hty htl, hpre⟩ rfl hlen rfl hstk hrest hd hfc) (fun v g' H1 locs1 hK hR1 hS1 hB1 => hJ _ _ _ _ _ _ hK p e s mid args below meth cc H1 locs1 lsA Z hC hR1 hS1 hB1 hL hZ)
  | invokespecial idx =>
    obtain rfl := am_nsw hn rfl
    by_cases a0 : a = 1003
    · subst a0
      obtain ⟨o, r, rfl, hZ⟩ := am_pr_spec h
      clear h
      have h := hZ
      clear hZ
      obtain ⟨hc, hZ⟩ := am_if_spec h
      clear h
      have h := hZ
      clear hZ
      have c1 := Nat.le_of_ble_eq_true hc
      rw [am_cats_eq G] at c1
      have hT : (((b = 1 ∧ am_lm.contains (am_ow m, idx, 1003) = true) ∧ Nat.ble 1 (am_fr m) = true) ∧ Nat.ble 20 (am_lo m) = true) := am_spcT hT
      exact W.objInit hx hb hown (hts _ (am_lm_ok _ (List.mem_map.mpr ⟨_, am_mem hT.1.1.2, rfl⟩))) (hts _ (am_wodd _ (List.mem_of_getElem? (i := 6) rfl))) (hts _ (am_wodd _ (List.mem_of_getElem? (i := 7) rfl))) rfl hfix.2.2.1.symm rfl hd (Nat.le_of_ble_eq_true hT.1.2) (by have := Nat.le_of_ble_eq_true hT.2; show 2 * 0 + _ + 12 ≤ am_lo m; omega) (go h)
    · have h := am_spc a0 h
      obtain ⟨xs, r, rfl, hxs, hZ⟩ := am_take_spec _ _ _ h
      clear h
      have h := hZ
      clear hZ
      rw [List.append_nil] at h
      obtain ⟨o, As, hAs, hZ⟩ := am_pr_spec h
      clear h
      have h := hZ
      clear hZ
      obtain ⟨hc, hZ⟩ := am_if_spec h
      clear h
      have h := hZ
      clear hZ
      obtain ⟨hcZ, c4⟩ := am_and hc
      clear hc
      have hc := hcZ
      clear hcZ
      obtain ⟨hcZ, c3⟩ := am_and hc
      clear hc
      have hc := hcZ
      clear hcZ
      obtain ⟨c1, c2⟩ := am_and hc
      have hT := am_spcT2 a0 hT
      obtain ⟨hTZ, t6⟩ := am_and hT
      clear hT
      have hT := hTZ
      clear hTZ
      obtain ⟨hTZ, t5⟩ := am_and hT
      clear hT
      have hT := hTZ
      clear hTZ
      obtain ⟨hTZ, t4⟩ := am_and hT
      clear hT
      have hT := hTZ
      clear hTZ
      obtain ⟨hTZ, t3⟩ := am_and hT
      clear hT
      have hT := hTZ
      clear hTZ
      obtain ⟨hTZ, t2⟩ := am_and hT
      clear hT
      have hT := hTZ
      clear hTZ
      obtain ⟨hTZ, t7⟩ := am_and hT
      clear hT
      have hT := hTZ
      clear hTZ
      obtain ⟨t0, t1⟩ := am_and hT
      have ha : a < 267 := Nat.le_of_ble_eq_true t0
      have h264 : a ≠ 264 := by simpa using t1
      have hini : (am_y a).name = "<init>" := by simpa using t2
      have c1 := Nat.le_of_ble_eq_true c1
      have hM := am_met ha (Nat.le_of_ble_eq_true c2) (hCl _ _ _ _ h)
      obtain ⟨nP, hnP, hnb⟩ := am_desc1 (of_decide_eq_true t4)
      have hcb := am_cb hC ha h264 (Nat.le_of_ble_eq_true t5) (Nat.le_of_ble_eq_true t6) hnP
      have hin := hts _ (am_wi _ (List.mem_map.mpr ⟨a, am_mem t7, rfl⟩))
      have hrn : am_rty a = none := am_ini_void a ha hini
      rw [hrn] at hcb
      have hlen : (As.map (am_cv G)).length = nP := by
        have e : xs.reverse.length = (Value.ref o :: As).length := by rw [hAs]
        simp at e
        simp
        omega
      have hxs2 : xs = As.reverse ++ [Value.ref o] := by
        have e := congrArg List.reverse hAs
        simpa using e
      have hstk : (F0 mid pc lsA ((xs ++ r).map (am_cv G))).stack = (As.map (am_cv G)).reverse ++ .ref (G.1 + o) :: r.map (am_cv G) := by
        simp [F0, hxs2, am_cv]
      have hrest : 2 * (F0 mid pc lsA ((xs ++ r).map (am_cv G))).monitorRoom + ((r.map (am_cv G)).map fun v => v.category).sum ≤ 8 := am_rest (mid := mid) (pc := pc) (lsA := lsA) c1
      have hfc : c + (am_al a).1 ≤ (am_rm m).cells ∧ k + (am_al a).2 ≤ (am_rm m).slots := ⟨Nat.le_of_ble_eq_true c3, Nat.le_of_ble_eq_true c4⟩
      have hpre : ∀ U : State, U.heap = H → s.WarmedH U.vm → va_Pc (xs.reverse.map (am_cv G)) (fun U => am_F G U ∧ am_rel G g U U.heap ∧ G.1 ≤ U.heap.size) (Value.ref (G.1 + o) :: As.map (am_cv G)).toArray U := by
        intro U hU hW
        have w := am_pre hC hR (As := xs.reverse) U hU hW
        rw [hAs] at w ⊢
        exact w
      rcases am_lnk hC t3 ha with hlk | hlk
      · exact am_behind (av := #[]) hR hS hB hV (va_runI hfix hM ⟨⟨hcb.1.1, hcb.1.2.1, hcb.1.2.2.1, hcb.1.2.2.2.1, hcb.1.2.2.2.2.1, hcb.1.2.2.2.2.2, hcb.2.1, hcb.2.2.1, hcb.2.2.2.1, hcb.2.2.2.2, hlk⟩, hini, hin⟩ ⟨am_blind, hpre⟩ rfl hlen rfl hstk hrest hd hfc) (fun v g' H1 locs1 hK hR1 hS1 hB1 => hJ _ _ _ _ _ _ hK p e s mid args below meth cc H1 locs1 lsA Z hC hR1 hS1 hB1 hL hZ)
      · exact am_behind (av := #[]) hR hS hB hV (va_runIN hfix hM ⟨⟨hcb.1, hcb.2.1, hcb.2.2.1, hcb.2.2.2.1, hcb.2.2.2.2, hlk⟩, hini, hin⟩ ⟨am_blind, hpre⟩ rfl hlen rfl hstk hrest hd hfc) (fun v g' H1 locs1 hK hR1 hS1 hB1 => hJ _ _ _ _ _ _ hK p e s mid args below meth cc H1 locs1 lsA Z hC hR1 hS1 hB1 hL hZ)
  | _ => exact h.elim
end AP

/-! new cells, calls, and the whole step -/
theorem am_nsw {b : Bool} {A : Prop} (h : b = true ∨ A) (hb : b = false) : A := h.resolve_left (by rw [hb]; exact fun q => Bool.noConfusion q)
theorem am_mem {α : Type} [BEq α] [LawfulBEq α] {a : α} {l : List α} (h : l.contains a = true) : a ∈ l := by simpa using h
theorem am_and {a b : Bool} (h : (a && b) = true) : a = true ∧ b = true := by simpa using h
theorem am_ad_eq (n k : Nat) : am_ad n k = n + k := by cases k <;> rfl
theorem am_rel.new {G : am_G} {g g' : am_S} {s : State} {H H1 : Heap} (h : am_rel G g s H) (h1 : g'.1.1 = g.1.1 + 1) (h2 : ∀ x, x < g.1.1 → am_cell G g' x = am_cell G g x) (hz : H1.size = H.size + 1) (ho : ∀ q : Nat, q < H.size → H1[q]? = H[q]?) (hn : va_at G.2.2.2.2.1 am_cls (G.1 + g.1.1, am_cell G g' g.1.1) H1) : am_rel G g' s H1 := by
  have hb := h.2.2.2
  refine ⟨by rw [hz, h.1, h1]; omega, fun k q hk => ?_, h.2.2.1.kept (ho _ (by rw [h.1]; omega)), hb⟩
  have lk := (List.getElem?_eq_some_iff.mp hk).1
  rw [am_ws_len, h1] at lk
  rw [am_ws_at (by rw [h1]; exact lk)] at hk
  cases hk
  by_cases e : k = g.1.1
  · subst e
    exact hn
  · have hk2 : k < g.1.1 := by omega
    rw [h2 k hk2]
    exact (h.2.1 k _ (am_ws_at hk2)).kept (ho _ (by rw [h.1]; show G.1 + k < _; omega))
theorem am_dflt {G : am_G} {g : am_S} {a n j c : Nat} {t : FieldType} (h : am_tyok c t = true) : defaultValue t = am_fv G (am_new g a n) c g.1.1 j := by
  match c, h with
  | 0, h => cases t <;> first | (simp [am_fv, am_new, defaultValue]; done) | cases h
  | 1, h => cases t <;> first | (simp [am_fv, am_new, defaultValue]; done) | cases h
  | 2, h => cases t <;> first | (simp [am_fv, am_new, defaultValue]; done) | cases h
  | 3, h => cases t <;> first | (simp [am_fv, am_new, defaultValue, va_rf]; done) | cases h
  | c + 4, h => cases t <;> cases h
theorem am_new_old {G : am_G} {g : am_S} {a n x : Nat} (h : x < g.1.1) : am_cell G (am_new g a n) x = am_cell G g x :=
  am_cell_congr (by simp [am_new, Nat.ne_of_lt h]) (fun j => by simp [am_new, Nat.ne_of_lt h]) (fun j => by simp [am_new, Nat.ne_of_lt h]) (fun j => by simp [am_new, Nat.ne_of_lt h])
section AN
variable {G : am_G} {l : Launch} {m : Nat} {p : Program} {e : Env} {s : State} {mid : MethodId} {args : Array Value} {below : List Frame} {meth : Method} {cc : Code} {H : Heap} {locs : List Loc} {lsA : Array Slot} {Z : State → Prop} {g : am_S} {c k pc : Nat}
theorem am_S_new {A : Nat → Prop} {H0 H1 : Heap} (hS : va_S A H0 H locs) (hz : H1.size = H.size + 1) (ho : ∀ q : Nat, q < H.size → H1[q]? = H[q]?) : va_S A H0 H1 locs :=
  ⟨Nat.le_trans hS.1 (by omega), fun q h1 h2 => (ho q (Nat.lt_of_lt_of_le h1 hS.1)).trans (hS.2.1 q h1 h2), hS.2.2⟩
theorem am_newW (hC : am_Cx G m p s mid args meth cc) (hR : am_rel G g s H) (hS : va_S (fun q : Nat => G.1 ≤ q) s.heap H locs) {idx a b : Nat} {rest : List Value} (hd : decode (am_by m) pc = .ok (.new idx, 3)) (hlc : (am_ow m, idx, a) ∈ am_lc) (hb : b = am_Nt a) (ha : a < 12) (h1 : c + 1 ≤ (am_cap m).1) (h2 : k + b ≤ (am_cap m).2)
    (kk : ∀ (H1 : Heap), am_rel G (am_new g a b) s H1 → va_S (fun q : Nat => G.1 ≤ q) s.heap H1 locs → W p l e (am_rm m) s mid args below meth cc H1 locs (c + 1) (k + b) Z (F0 mid (pc + 3) lsA (.ref (G.1 + g.1.1) :: rest))) : W p l e (am_rm m) s mid args below meth cc H locs c k Z (F0 mid pc lsA rest) := by
  have hown := hC.own
  obtain ⟨hx, hbc, hml, -, hts, hF, hnm, hm⟩ := hC
  subst hb
  have hK := hF.1.1 a _ (am_cls_at a ha)
  refine W.newcK hx hbc hown (hts _ (am_lc_ok _ (List.mem_map.mpr ⟨_, hlc, rfl⟩))) (hts _ (am_winst _ (List.mem_map.mpr ⟨a, List.mem_range.mpr ha, rfl⟩))) (hts _ (am_wini _ (List.mem_map.mpr ⟨a, List.mem_range.mpr (by omega), rfl⟩))) rfl hd h1 h2 hK.2.1 hR.1 fun H1 kC hkC e1 z1 o1 => ?_
  rw [← hR.1] at z1 o1
  refine kk H1 (hR.new rfl (fun x hx => am_new_old hx) z1 o1 ?_) (am_S_new hS z1 o1)
  rw [am_cell_o (g := am_new g a (am_Nt a)) (t := a) (by simp [am_new]) (by omega)]
  refine ⟨_, am_cls_at a ha, (u_born (am_Yt a) hts (am_u_in a ha) hK hkC e1 (am_parse a ha)).to (fun j hj => ?_)⟩
  have hj2 : j < am_Nt a := hj
  rw [am_dflt (G := G) (g := g) (a := a) (n := am_Nt a) (j := j) (am_ft_ok a ha j hj2)]
  have e3 : ((am_new g a (am_Nt a)).1.2 g.1.1).2 = am_Nt a := by simp [am_new]
  simp [vp_V, e3, hj2]
theorem am_newaW (hC : am_Cx G m p s mid args meth cc) (hR : am_rel G g s H) (hS : va_S (fun q : Nat => G.1 ≤ q) s.heap H locs) {t : ArrayType} {a : Nat} {n : Int32} {rest : List Value} (hd : decode (am_by m) pc = .ok (.newarray t, 2)) (ht : t = .int ∧ a = 100) (hn : ¬ n < 0) (hn2 : n.toNatClampNeg ≤ 100000) (h1 : c + 1 ≤ (am_cap m).1) (h2 : k + n.toNatClampNeg ≤ (am_cap m).2)
    (kk : ∀ (H1 : Heap), am_rel G (am_new g a n.toNatClampNeg) s H1 → va_S (fun q : Nat => G.1 ≤ q) s.heap H1 locs → W p l e (am_rm m) s mid args below meth cc H1 locs (c + 1) (k + n.toNatClampNeg) Z (F0 mid (pc + 2) lsA (.ref (G.1 + g.1.1) :: rest))) : W p l e (am_rm m) s mid args below meth cc H locs c k Z (F0 mid pc lsA (.int n :: rest)) := by
  obtain ⟨hx, hbc, hml, -, hts, hF, hnm, hm⟩ := hC
  have hf : (fun j => Value.int ((am_new g a n.toNatClampNeg).2.1 g.1.1 j)) = fun _ => Value.int 0 := by
    funext j
    simp [am_new]
  have e3 : ((am_new g a n.toNatClampNeg).1.2 g.1.1) = (a, n.toNatClampNeg) := by simp [am_new]
  obtain ⟨rfl, rfl⟩ := ht
  · refine va_newaK (atype := .int) hx hbc (hts _ (am_warr _ (List.mem_of_getElem? (i := 0) rfl))) rfl hd rfl hn rfl (by show _ * 4 ≤ _; omega) h1 h2 hR.1 fun H1 cA e1 z1 o1 hAr hNm => ?_
    rw [← hR.1] at z1 o1
    have hA := (hF.1.2 0 _ rfl).2
    have hcA : cA = G.2.2.2.2.2.1 := Option.some.inj (hNm.symm.trans hA)
    subst hcA
    refine kk H1 (hR.new rfl (fun x hx => am_new_old hx) z1 o1 ?_) (am_S_new hS z1 o1)
    rw [am_cell_i (g := am_new g 100 n.toNatClampNeg) (by rw [e3])]
    show H1[G.1 + g.1.1]? = some (vp_cell _ _)
    rw [e1, vp_cell_i, hf, e3]
    rfl
theorem am_newqW (hC : am_Cx G m p s mid args meth cc) (hR : am_rel G g s H) (hS : va_S (fun q : Nat => G.1 ≤ q) s.heap H locs) {idx a b : Nat} {n : Int32} {rest : List Value} (hd : decode (am_by m) pc = .ok (.anewarray idx, 3)) (hlc : (am_ow m, idx, b) ∈ am_lc) (hab : (a = 102 ∧ b = 10) ∨ (a = 103 ∧ b = 5)) (hn : ¬ n < 0) (hn2 : n.toNatClampNeg ≤ 100000) (h1 : c + 1 ≤ (am_cap m).1) (h2 : k + n.toNatClampNeg ≤ (am_cap m).2)
    (kk : ∀ (H1 : Heap), am_rel G (am_new g a n.toNatClampNeg) s H1 → va_S (fun q : Nat => G.1 ≤ q) s.heap H1 locs → W p l e (am_rm m) s mid args below meth cc H1 locs (c + 1) (k + n.toNatClampNeg) Z (F0 mid (pc + 3) lsA (.ref (G.1 + g.1.1) :: rest))) : W p l e (am_rm m) s mid args below meth cc H locs c k Z (F0 mid pc lsA (.int n :: rest)) := by
  have hown := hC.own
  obtain ⟨hx, hbc, hml, -, hts, hF, hnm, hm⟩ := hC
  have hf : (fun j => va_rf (((am_new g a n.toNatClampNeg).2.2.2 g.1.1 j).map (fun q => G.1 + q))) = fun _ => Value.null := by
    funext j
    simp [am_new, va_rf]
  have e3 : ((am_new g a n.toNatClampNeg).1.2 g.1.1) = (a, n.toNatClampNeg) := by simp [am_new]
  have hsz := hR.1
  have key : ∀ (C : String) (cQ : ClassId), va_AO C s → (Jvm.Cond.classLink (am_cn (am_ow m)) idx C).before args s = true → s.vm.findClass ("[" ++ (FieldType.object C).toString) = some cQ → am_cell G (am_new g a n.toNatClampNeg) g.1.1 = .inl (cQ, n.toNatClampNeg, .inr (.inr (.inr (.inr (fun j => ((am_new g a n.toNatClampNeg).2.2.2 g.1.1 j).map (fun q => G.1 + q)))))) → W p l e (am_rm m) s mid args below meth cc H locs c k Z (F0 mid pc lsA (.int n :: rest)) := by
    intro C cQ hao hcl hfc hce
    refine W.anew hx hbc hown hcl (va_AO.use hao) rfl hd rfl hn (by omega) h1 h2 fun cA kA comp f1 f2 f3 f4 => ?_
    have hcA : cA = cQ := Option.some.inj (f1.symm.trans hfc)
    subst hcA
    generalize hH1 : H.push ({ cls := cA, slots := Array.replicate n.toNatClampNeg .null, vm := .none } : Cell) = H1
    have z1 : H1.size = H.size + 1 := by rw [← hH1, Array.size_push]
    have e1 : H1[H.size]? = some (arrV cA n.toNatClampNeg (fun _ => .null)) := by rw [← hH1, Array.getElem?_push_size, ← arrV_new]
    have o1 : ∀ q : Nat, q < H.size → H1[q]? = H[q]? := fun q hq => by rw [← hH1, Array.getElem?_push, if_neg (Nat.ne_of_lt hq)]
    have w := kk H1 (hR.new rfl (fun x hx => am_new_old hx) z1 o1 (by
      rw [hce]
      show H1[G.1 + g.1.1]? = some (vp_cell _ _)
      rw [← hsz, e1, vp_cell_q, hf])) (am_S_new hS z1 o1)
    rw [← hsz] at w
    exact w
  have hcl := hts _ (am_lc_ok _ (List.mem_map.mpr ⟨_, hlc, rfl⟩))
  rcases hab with ⟨rfl, rfl⟩ | ⟨rfl, rfl⟩
  · obtain ⟨kA, comp, r1, r2, r3, r4⟩ := (hF.1.2 2 _ rfl).2
    exact key "OwnLight$Strip" _ hF.2.2.1 hcl r4 (by rw [am_cell_s (g := am_new g 102 n.toNatClampNeg) (by rw [e3]), e3])
  · obtain ⟨kA, comp, r1, r2, r3, r4⟩ := (hF.1.2 3 _ rfl).2
    exact key "OwnLight$Stand" _ hF.2.2.2 hcl r4 (by rw [am_cell_t (g := am_new g 103 n.toNatClampNeg) (by rw [e3]), e3])
/-- a method's contract out of its walk -/
theorem am_met {a : Nat} (ha : a < 267) {As : List Value} (hw : am_cats As ≤ am_ml a) {K : Option Value → am_S → Prop} (h : am_WPm G l a As g K) : Met l (am_y a) (am_w a) (am_rm a) (va_Pc (As.map (am_cv G)) (fun U => am_F G U ∧ am_rel G g U U.heap ∧ G.1 ≤ U.heap.size)) (fun _ st o t => (∃ (v : Option Value) (g' : am_S), o = .returned (v.map (am_cv G)) ∧ K v g' ∧ am_rel G g' t t.heap ∧ (G.1 + g'.1.1 ≤ st.heap.size + (am_al a).1 ∧ (am_vr a = false → st.heap.size + (am_al a).1 = G.1 + g'.1.1))) ∧ va_F (fun q : Nat => G.1 ≤ q) st t) (am_al a).1 (am_al a).2 (fun q : Nat => G.1 ≤ q) := by
  refine Met.ofW (cc := am_by a) (maxL := am_ml a) (ret := am_rty a) (am_own a ha).2.1 rfl ?_
  intro p e s m args below meth c s₁ B hml hv
  obtain ⟨rfl, hF, hR, hz⟩ := hv
  have hts : ∀ w ∈ am_gw, w.before (As.map (am_cv G)).toArray s = true := fun w hw => atoms_spec (ws := am_w a) B.pre w (List.mem_cons_of_mem _ hw)
  have hC : am_Cx G a p s m (As.map (am_cv G)).toArray meth c := ⟨B.exec, B.bytes, hml, findClass_of_methodNamed B.named, hts, hF, fun h => (name_of_methodNamed B.named B.method).1.trans h, ha⟩
  have hlocks := B.notSynchronized
  have hret := B.returns
  rw [lg_entry_eq]
  refine h p e s m _ below meth c s.heap [] _ _ hC hR va_S.rf ⟨⟨by rw [hR.1]; exact Nat.le_refl _, fun _ => by rw [hR.1]; rfl⟩, hz⟩ (am_entry G As hw) ?_
  intro v g' H' locs' pc' lsA' hK hR' hS' hn' hrt
  have fin : ∀ t : State, t.heap = H' → s.WarmedH t.vm → (∃ (v' : Option Value) (g' : am_S), Outcome.returned (v.map (am_cv G)) = .returned (v'.map (am_cv G)) ∧ K v' g' ∧ am_rel G g' t t.heap ∧ (G.1 + g'.1.1 ≤ s.heap.size + (am_al a).1 ∧ (am_vr a = false → s.heap.size + (am_al a).1 = G.1 + g'.1.1))) ∧ va_F (fun q : Nat => G.1 ≤ q) s t :=
    fun t ht hW => ⟨⟨v, g', rfl, hK, by rw [ht]; exact hR'.alike hW.alike, hn'⟩, hS'.F ht⟩
  rcases v with _ | v
  · exact W.vret B.exec B.bytes (by rw [hret]; exact hrt.2) fin hS'.2.2 hrt.1
  · cases v with
    | int x =>
      rcases hrt.2 with hi | ⟨hi, hx⟩
      · exact W.iret (v := x) B.exec B.bytes (by rw [hret]; exact hi) fin hS'.2.2 hrt.1
      · exact W.zret (v := x) (ty := .boolean) B.exec B.bytes (by rw [hret]; exact hi) (am_bool_nf hx).1 fin hS'.2.2 hrt.1
    | long x => exact W.lret (v := x) B.exec B.bytes (by rw [hret]; exact hrt.2) fin hS'.2.2 hrt.1
    | ref x =>
      obtain ⟨n, hi⟩ := hrt.2
      exact W.aret (v := am_cv G (.ref x)) (rt := .object n) B.exec B.bytes (by rw [hret]; exact hi) (Or.inl ⟨n, rfl⟩) (Or.inr ⟨_, rfl⟩) fin hS'.2.2 hrt.1
    | null =>
      obtain ⟨n, hi⟩ := hrt.2
      exact W.aret (v := am_cv G .null) (rt := .object n) B.exec B.bytes (by rw [hret]; exact hi) (Or.inl ⟨n, rfl⟩) (Or.inl rfl) fin hS'.2.2 hrt.1
    | float x => exact hrt.elim
    | double x => exact hrt.elim
    | retAddr x => exact hrt.elim
theorem am_goOn {R : Room} {mc ms : Nat} {st0 rest : List Value} {Qa : State → Outcome → State → Prop} (hr : va_Run p l e R s mid args below meth cc H locs c k mc ms (F0 mid pc lsA st0) rest Qa (fun q : Nat => G.1 ≤ q)) (hS : va_S (fun q : Nat => G.1 ≤ q) s.heap H locs)
    (kk : ∀ (v : Option Value) (st₀ t : State) (H1 : Heap) (locs1 : List Loc), st₀.heap = H → t.heap = H1 → s.vm.Alike t.vm → Qa st₀ (.returned v) t → (∀ q ∈ locs1, G.1 ≤ q.base) → W p l e R s mid args below meth cc H1 locs1 (c + mc) (k + ms) Z (F0 mid (pc + 3) lsA (v.toList ++ rest))) : W p l e R s mid args below meth cc H locs c k Z (F0 mid pc lsA st0) := by
  intro T hT X
  obtain ⟨v, st₀, t, T', L, h0, X', hL, e1, e2, hq, st⟩ := hr T hT X
  obtain ⟨t2, a1, b1⟩ := kk v st₀ t T'.heap (locs ++ L) h0 e1.symm (by rw [← e2]; exact X'.warmed.alike) hq (fun q hq => by
    rcases List.mem_append.mp hq with h | h
    · exact hS.2.2 q h
    · exact hL q h) T' rfl X'
  exact ⟨t2, st t2 a1, b1⟩
theorem am_cap_al {a : Nat} (h : a ≠ 264) : am_cap a = am_al a := by
  have e : Nat.beq a 264 = false := by
    cases hb : Nat.beq a 264 with
    | false => rfl
    | true => exact absurd (Nat.eq_of_beq_eq_true hb) h
  unfold am_cap
  rw [e]
  rfl
/-- what every call needs but its link -/
theorem am_cb (hC : am_Cx G m p s mid args meth cc) {a : Nat} (ha : a < 267) (h264 : a ≠ 264) (hfr : am_fr a + 1 ≤ am_fr m) (hlo : 8 + (am_ml a + 11) + am_lo a ≤ am_lo m) {n : Nat} (hn : (parseMethodDescriptor (am_y a).desc).map (fun d => d.parameters.length) = some n) :
    ((am_rm a).cells = (am_al a).1 ∧ (am_rm a).slots = (am_al a).2 ∧ (am_rm a).frames + 1 ≤ (am_rm m).frames ∧ 8 + (am_ml a + 11) + (am_rm a).locals ≤ (am_rm m).locals ∧ (∀ w ∈ am_w a, ∀ (a' : Array Value) (U : State), s.WarmedH U.vm → w.before a' U = true) ∧ Jvm.Cond.code (am_y a) (am_by a) (am_ml a) (am_rty a) ∈ am_w a) ∧
    (Jvm.Cond.code (am_y a) (am_by a) (am_ml a) (am_rty a)).before args s = true ∧ (Jvm.Cond.initialized (am_y a).cls).before args s = true ∧ ((am_y a).cls ≠ "java/lang/invoke/MethodHandle" ∧ (am_y a).cls ≠ "java/lang/invoke/VarHandle") ∧ (∀ sig, parseMethodDescriptor (am_y a).desc = some sig → n = sig.parameters.length) := by
  have hts := hC.2.2.2.2.1
  have hcode := am_wc a ha h264
  have ho := am_own a ha
  refine ⟨⟨?_, ?_, hfr, hlo, pay_in hts (fun w hw => ?_), List.mem_cons_self⟩, hts _ hcode, ?_, ho.2.2.2, fun sig h => ?_⟩
  · show (am_cap a).1 = _
    rw [am_cap_al h264]
  · show (am_cap a).2 = _
    rw [am_cap_al h264]
  · have hw2 : w ∈ am_gw := by
      rcases List.mem_cons.mp hw with h | h
      · rw [h]; exact hcode
      · exact h
    exact ⟨hw2, good_of_word (List.mem_filter.mp hw2).2⟩
  · rw [ho.1]
    exact hts _ (am_wini _ (List.mem_map.mpr ⟨am_ow a, List.mem_range.mpr ho.2.2.1, rfl⟩))
  · rw [h] at hn
    exact (Option.some.inj hn).symm
/-- behind a call: the callee's end is the caller's next place -/
theorem am_behind (hR : am_rel G g s H) (hS : va_S (fun q : Nat => G.1 ≤ q) s.heap H locs) (hB : (G.1 + g.1.1 ≤ s.heap.size + c ∧ (am_ix m = false → s.heap.size + c = G.1 + g.1.1)) ∧ G.1 ≤ s.heap.size) {R : Room} {a : Nat} (hV : (am_ix m || !am_vr a) = true) {K : Option Value → am_S → Prop} {st0 : List Value} {r : List Value} {av : Array Value}
    (hr : va_Run p l e R s mid args below meth cc H locs c k (am_al a).1 (am_al a).2 (F0 mid pc lsA st0) (r.map (am_cv G)) ((fun (_ : Array Value) (st : State) (o : Outcome) (t : State) => (∃ (v : Option Value) (g' : am_S), o = .returned (v.map (am_cv G)) ∧ K v g' ∧ am_rel G g' t t.heap ∧ (G.1 + g'.1.1 ≤ st.heap.size + (am_al a).1 ∧ (am_vr a = false → st.heap.size + (am_al a).1 = G.1 + g'.1.1))) ∧ va_F (fun q : Nat => G.1 ≤ q) st t) av) (fun q : Nat => G.1 ≤ q))
    (kk : ∀ (v : Option Value) (g' : am_S) (H1 : Heap) (locs1 : List Loc), K v g' → am_rel G g' s H1 → va_S (fun q : Nat => G.1 ≤ q) s.heap H1 locs1 → ((G.1 + g'.1.1 ≤ s.heap.size + am_ad c (am_al a).1 ∧ (am_ix m = false → s.heap.size + am_ad c (am_al a).1 = G.1 + g'.1.1)) ∧ G.1 ≤ s.heap.size) → W p l e R s mid args below meth cc H1 locs1 (am_ad c (am_al a).1) (am_ad k (am_al a).2) Z (F0 mid (pc + 3) lsA ((am_bk v r).map (am_cv G)))) : W p l e R s mid args below meth cc H locs c k Z (F0 mid pc lsA st0) := by
  refine am_goOn hr hS fun v st₀ t H1 locs1 h0 ht hvm hq hl => ?_
  obtain ⟨⟨v', g', hv, hK, hR', hn'⟩, hf1, hf2⟩ := hq
  have hv : v = v'.map (am_cv G) := by
    cases hv
    rfl
  subst hv
  rw [ht] at hR' hf1 hf2
  rw [h0] at hn' hf1 hf2
  have w := kk v' g' H1 locs1 hK (hR'.alike hvm.symm) ⟨Nat.le_trans hS.1 hf1, fun q h1 h2 => (hf2 q (Nat.lt_of_lt_of_le h1 hS.1) h2).trans (hS.2.1 q h1 h2), hl⟩ ⟨⟨by rw [am_ad_eq]; have := hR.1; have := hn'.1; have := hB.1.1; omega, fun q => by
    rw [q, Bool.false_or] at hV
    rw [am_ad_eq]
    have h1 := hn'.2 (am_nix hV)
    have h2 := hB.1.2 q
    have := hR.1
    omega⟩, hB.2⟩
  rw [am_ad_eq, am_ad_eq] at w
  cases v' with
  | none => exact w
  | some v => exact w
theorem am_blind {As : List Value} : FrameBlind (va_Pc (As.map (am_cv G)) (fun U => am_F G U ∧ am_rel G g U U.heap ∧ G.1 ≤ U.heap.size)) := by
  intro a U fr mk q
  obtain ⟨q1, q2, q3, q4⟩ := q
  exact ⟨q1, am_F.call q2, am_rel.alike (s := U) (U := U.calling fr mk a) (Vm.Alike.refl U.vm) q3, q4⟩
theorem am_pre (hC : am_Cx G m p s mid args meth cc) (hR : am_rel G g s H) {As : List Value} (U : State) (hU : U.heap = H) (hW : s.WarmedH U.vm) : va_Pc (As.map (am_cv G)) (fun U => am_F G U ∧ am_rel G g U U.heap ∧ G.1 ≤ U.heap.size) (As.map (am_cv G)).toArray U :=
  ⟨rfl, hC.2.2.2.2.2.1.warm hW, by rw [hU]; exact hR.alike hW.alike, by rw [hU, hR.1]; omega⟩
theorem am_rest {r : List Value} (h : am_cats r ≤ 8) : 2 * (F0 mid pc lsA ([] : List Value)).monitorRoom + ((r.map (am_cv G)).map fun v => v.category).sum ≤ 8 := by
  rw [← am_cats_eq]
  show 2 * 0 + _ ≤ 8
  omega
end AN

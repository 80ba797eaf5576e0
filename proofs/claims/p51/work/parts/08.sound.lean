/-! the small machine's steps are the machine's -/
theorem am_F.warm {G : am_G} {s U : State} (hW : s.WarmedH U.vm) (h : am_F G s) : am_F G U := by
  refine ⟨va_K.moved hW.alike h.1, fun w hw => ?_, va_AO.moved hW.alike h.2.2.1, va_AO.moved hW.alike h.2.2.2⟩
  have hn := (List.mem_filter.mp hw).2
  have h0 := h.2.1 w hw
  cases w <;> first | exact va_Nw.warmM hW h0 | cases hn
theorem am_F.call {G : am_G} {U : State} {g : JFrame} {mk : MethodId} {a : Array Value} (h : am_F G U) : am_F G (U.calling g mk a) := by
  refine ⟨va_K.moved (u := U) (U := U.calling g mk a) (Vm.Alike.refl U.vm) h.1, fun w hw => ?_, va_AO.moved (u := U) (U := U.calling g mk a) (Vm.Alike.refl U.vm) h.2.2.1, va_AO.moved (u := U) (U := U.calling g mk a) (Vm.Alike.refl U.vm) h.2.2.2⟩
  have hn := (List.mem_filter.mp hw).2
  have h0 := h.2.1 w hw
  cases w <;> first | exact va_Nw.same (u := U) (U := U.calling g mk a) rfl rfl h0 | cases hn
theorem am_rel.alike {G : am_G} {g : am_S} {s U : State} {H : Heap} (hvm : s.vm.Alike U.vm) (h : am_rel G g s H) : am_rel G g U H := ⟨h.1, h.2.1, va_X.moved hvm h.2.2.1, h.2.2.2⟩
theorem am_ws_len {G : am_G} {g : am_S} : (am_ws G g).length = g.1.1 := by simp [am_ws]
theorem am_ws_at {G : am_G} {g : am_S} {o : Nat} (h : o < g.1.1) : (am_ws G g)[o]? = some (G.1 + o, am_cell G g o) := by simp [am_ws, h]
theorem am_ws_D {G : am_G} {g : am_S} : va_D (fun q : Nat => G.1 ≤ q) (am_ws G g) := by
  have key : ∀ (i : Nat) (p : Nat × va_E), (am_ws G g)[i]? = some p → p.1 = G.1 + i := by
    intro i p hi
    have li := (List.getElem?_eq_some_iff.mp hi).1
    rw [am_ws_len] at li
    rw [am_ws_at li] at hi
    cases hi
    rfl
  refine ⟨fun i j p q hi hj e => ?_, fun k q hk => ?_⟩
  · have e1 := key i p hi
    have e2 := key j q hj
    omega
  · have e1 := key k q hk
    omega
theorem am_ws_set {G : am_G} {g g' : am_S} {o : Nat} (h1 : g'.1 = g.1) (h2 : ∀ x, x ≠ o → am_cell G g' x = am_cell G g x) : (am_ws G g).set o (G.1 + o, am_cell G g' o) = am_ws G g' := by
  apply List.ext_getElem?
  intro i
  by_cases hi : i < g.1.1
  · rw [am_ws_at (g := g') (by rw [h1]; exact hi)]
    by_cases e : i = o
    · subst e
      rw [List.getElem?_set_self (by rw [am_ws_len]; exact hi)]
    · rw [List.getElem?_set_ne (Ne.symm e), am_ws_at hi, h2 i e]
  · rw [List.getElem?_eq_none (by rw [List.length_set, am_ws_len]; omega), List.getElem?_eq_none (by rw [am_ws_len, h1]; omega)]
theorem am_Wsz {p : Program} {l : Launch} {e : Env} {R : Room} {s : State} {m : MethodId} {args : Array Value} {below : List Frame} {meth : Method} {c : Code} {H : Heap} {locs : List Loc} {cells slots : Nat} {Q : State → Prop} {g : JFrame} (k : H.size ≤ s.heap.size + cells → W p l e R s m args below meth c H locs cells slots Q g) : W p l e R s m args below meth c H locs cells slots Q g :=
  fun T hT X => k (by rw [← hT]; exact X.heapSize) T hT X
theorem am_rel.put {G : am_G} {g g' : am_S} {s : State} {H H1 : Heap} {c o : Nat} {locs locs1 : List Loc} (h : am_rel G g s H) (h1 : g'.1 = g.1) (h2 : ∀ x, x ≠ o → am_cell G g' x = am_cell G g x) (ho : o < g.1.1) (hB : s.heap.size + c = G.1 + g.1.1 ∧ G.1 ≤ s.heap.size) (hz : H1.size ≤ s.heap.size + c)
    (hP : va_P G.2.2.2.2.1 am_cls ((am_ws G g).set o (G.1 + o, am_cell G g' o)) H1) (hS : va_S (fun q : Nat => G.1 ≤ q) s.heap H locs) (hS1 : va_S (fun q : Nat => G.1 ≤ q) s.heap H1 locs1) : am_rel G g' s H1 := by
  rw [am_ws_set h1 h2] at hP
  have hb := h.2.2.2
  refine ⟨?_, hP, h.2.2.1.kept ?_, hb⟩
  · have hl := (hP (g.1.1 - 1) _ (am_ws_at (by rw [h1]; omega))).lt
    have hl : G.1 + (g.1.1 - 1) < H1.size := hl
    rw [h1]
    omega
  · rw [hS1.2.1 _ (by omega) (by omega), hS.2.1 _ (by omega) (by omega)]
theorem am_cell_o {G : am_G} {g : am_S} {o t : Nat} (h : (g.1.2 o).1 = t) (ht : t < 100) : am_cell G g o = .inr (t, (List.range (g.1.2 o).2).map (fun j => am_fv G g (am_ft t j) o j)) := by
  subst h
  unfold am_cell
  split <;> first | rfl | omega
theorem am_cell_i {G : am_G} {g : am_S} {o : Nat} (h : (g.1.2 o).1 = 100) : am_cell G g o = .inl (G.2.2.2.2.2.1, (g.1.2 o).2, .inl (g.2.1 o)) := by
  simp only [am_cell, h]
theorem am_cell_z {G : am_G} {g : am_S} {o : Nat} (h : (g.1.2 o).1 = 101) : am_cell G g o = .inl (G.2.2.2.2.2.2.1, (g.1.2 o).2, .inl (g.2.1 o)) := by
  simp only [am_cell, h]
theorem am_cell_s {G : am_G} {g : am_S} {o : Nat} (h : (g.1.2 o).1 = 102) : am_cell G g o = .inl (G.2.2.2.2.2.2.2.1, (g.1.2 o).2, .inr (.inr (.inr (.inr (fun j => (g.2.2.2 o j).map (fun q => G.1 + q)))))) := by
  simp only [am_cell, h]
theorem am_cell_t {G : am_G} {g : am_S} {o : Nat} (h : (g.1.2 o).1 = 103) : am_cell G g o = .inl (G.2.2.2.2.2.2.2.2, (g.1.2 o).2, .inr (.inr (.inr (.inr (fun j => (g.2.2.2 o j).map (fun q => G.1 + q)))))) := by
  simp only [am_cell, h]
theorem am_cell_congr {G : am_G} {g g' : am_S} {x : Nat} (h1 : g'.1.2 x = g.1.2 x) (h2 : ∀ j, g'.2.1 x j = g.2.1 x j) (h3 : ∀ j, g'.2.2.1 x j = g.2.2.1 x j) (h4 : ∀ j, g'.2.2.2 x j = g.2.2.2 x j) : am_cell G g' x = am_cell G g x := by
  have e2 : g'.2.1 x = g.2.1 x := funext h2
  have e3 : g'.2.2.1 x = g.2.2.1 x := funext h3
  have e4 : g'.2.2.2 x = g.2.2.2 x := funext h4
  have e5 : ∀ t j, am_fv G g' t x j = am_fv G g t x j := by
    intro t j
    unfold am_fv
    rw [e2, e3, e4]
  unfold am_cell
  rw [h1, e2, e4]
  simp only [e5]
theorem am_fset {n b : Nat} {f f' : Nat → Value} (h : ∀ j, j ≠ b → f' j = f j) : (List.range n).map f' = ((List.range n).map f).set b (f' b) := by
  apply List.ext_getElem?
  intro i
  by_cases hi : i < n
  · by_cases e : i = b
    · subst e
      rw [List.getElem?_set_self (by simpa using hi)]
      simp [hi]
    · rw [List.getElem?_set_ne (Ne.symm e)]
      simp [hi, h i e]
  · rw [List.getElem?_eq_none (by simp; omega), List.getElem?_eq_none (by simp; omega)]
theorem am_tyok_0 {t : FieldType} (h : am_tyok 0 t = true) : t = .int := by cases t <;> first | rfl | cases h
theorem am_tyok_1 {t : FieldType} (h : am_tyok 1 t = true) : t = .boolean := by cases t <;> first | rfl | cases h
theorem am_tyok_2 {t : FieldType} (h : am_tyok 2 t = true) : t = .long := by cases t <;> first | rfl | cases h
theorem am_tyok_3 {t : FieldType} (h : am_tyok 3 t = true) (q : Nat) : narrow t (.ref q) = .ref q ∧ fits t (.ref q) = true := by cases t <;> first | exact ⟨rfl, rfl⟩ | cases h
theorem am_bool_nf {p : Int32} (h : p = 0 ∨ p = 1) : narrow .boolean (.int p) = .int p ∧ fits .boolean (.int p) = true := by
  rcases h with rfl | rfl
  · exact ⟨rfl, rfl⟩
  · exact ⟨rfl, rfl⟩
section AM
variable {G : am_G} {l : Launch} {m : Nat} {p : Program} {e : Env} {s : State} {mid : MethodId} {args : Array Value} {below : List Frame} {meth : Method} {cc : Code} {H : Heap} {locs : List Loc} {lsA : Array Slot} {Z : State → Prop} {g : am_S} {c k pc : Nat}
theorem am_Cx.own (hC : am_Cx G m p s mid args meth cc) : s.vm.findClass (am_cn (am_ow m)) = some mid.cls := by
  rw [← (am_own m hC.2.2.2.2.2.2.2).1]
  exact hC.2.2.2.1
theorem am_putW (hC : am_Cx G m p s mid args meth cc) (hR : am_rel G g s H) (hS : va_S (fun q : Nat => G.1 ≤ q) s.heap H locs) (hB : s.heap.size + c = G.1 + g.1.1 ∧ G.1 ≤ s.heap.size) {idx a b o : Nat} {v : Value} {rest : List Value} (hd : decode (am_by m) pc = .ok (.putfield idx, 3)) (hlf : (am_ow m, idx, a, b) ∈ am_lf) (hbN : b < am_Nt a) (ha : a < 12)
    (hfin : (am_Tt a b).2.2.2 = false ∨ ((am_y m).name = "<init>" ∧ am_ow m = a)) (ho : o < g.1.1) (hty : (g.1.2 o).1 = a) (hb : b < (g.1.2 o).2) (hn : narrow (am_Yt a b) v = v) (hfit : fits (am_Yt a b) v = true) {g' : am_S} (h1 : g'.1 = g.1) (h2 : ∀ x, x ≠ o → am_cell G g' x = am_cell G g x)
    (h3 : am_fv G g' (am_ft a b) o b = v) (h4 : ∀ j, j ≠ b → am_fv G g' (am_ft a j) o j = am_fv G g (am_ft a j) o j)
    (kk : ∀ (H1 : Heap) (locs1 : List Loc), am_rel G g' s H1 → va_S (fun q : Nat => G.1 ≤ q) s.heap H1 locs1 → W p l e (am_rm m) s mid args below meth cc H1 locs1 c k Z (F0 mid (pc + 3) lsA rest)) : W p l e (am_rm m) s mid args below meth cc H locs c k Z (F0 mid pc lsA (v :: .ref (G.1 + o) :: rest)) := by
  have hown := hC.own
  obtain ⟨hx, hbc, hml, -, hts, hF, hnm, hm⟩ := hC
  have hca : am_cell G g' o = .inr (a, ((List.range (g.1.2 o).2).map (fun j => am_fv G g (am_ft a j) o j)).set b v) := by
    rw [am_cell_o (g := g') (t := a) (by rw [h1]; exact hty) (by omega), h1, am_fset h4, h3]
  have he : (am_ws G g)[o]? = some (G.1 + o, .inr (a, (List.range (g.1.2 o).2).map (fun j => am_fv G g (am_ft a j) o j))) := by rw [am_ws_at ho, am_cell_o hty (by omega)]
  have hlink := hts _ (am_lf_ok _ (List.mem_map.mpr ⟨_, hlf, rfl⟩))
  have go : ∀ (H1 : Heap) (locs1 : List Loc), va_P G.2.2.2.2.1 am_cls ((am_ws G g).set o (G.1 + o, .inr (a, ((List.range (g.1.2 o).2).map (fun j => am_fv G g (am_ft a j) o j)).set b v))) H1 → va_D (fun q : Nat => G.1 ≤ q) ((am_ws G g).set o (G.1 + o, .inr (a, ((List.range (g.1.2 o).2).map (fun j => am_fv G g (am_ft a j) o j)).set b v))) → va_S (fun q : Nat => G.1 ≤ q) s.heap H1 locs1 → W p l e (am_rm m) s mid args below meth cc H1 locs1 c k Z (F0 mid (pc + 3) lsA rest) :=
    fun H1 locs1 hP _ hS1 => am_Wsz fun hz => kk H1 locs1 (hR.put h1 h2 ho hB hz (by rw [hca]; exact hP) hS hS1) hS1
  by_cases hf : (am_Tt a b).2.2.2 = false
  · exact va_put (ty := am_Yt a b) hx hbc hts (am_u_in a ha) (am_Yt a) (am_parse a ha) (am_nm a ha) hown hF.1 hR.2.1 am_ws_D hS o he (am_cls_at a ha) b hbN hlink (fun _ h9 => h9) hf (am_parse a ha b hbN) hn hfit (by simpa using hb) hd go
  · have hi := hfin.resolve_left hf
    exact va_putF (ty := am_Yt a b) hx hbc hts (am_u_in a ha) (am_Yt a) (am_parse a ha) (am_nm a ha) hown hF.1 hR.2.1 am_ws_D hS o he (am_cls_at a ha) b hbN hlink (fun _ h9 => h9) (by simpa using hf) (hnm hi.1) (by rw [am_Tc a ha b hbN, hi.2]) (am_parse a ha b hbN) hn hfit (by simpa using hb) hd go
/-- a store into an array of ints -/
theorem am_iastW (hC : am_Cx G m p s mid args meth cc) (hR : am_rel G g s H) (hS : va_S (fun q : Nat => G.1 ≤ q) s.heap H locs) (hB : s.heap.size + c = G.1 + g.1.1 ∧ G.1 ≤ s.heap.size) {o : Nat} {i z : Int32} {rest : List Value} (hd : decode (am_by m) pc = .ok (.iastore, 1)) (ho : o < g.1.1) (hty : (g.1.2 o).1 = 100) (hi : vp_in i (g.1.2 o).2)
    (kk : ∀ (H1 : Heap) (locs1 : List Loc), am_rel G (am_uI g o i.toNatClampNeg z) s H1 → va_S (fun q : Nat => G.1 ≤ q) s.heap H1 locs1 → W p l e (am_rm m) s mid args below meth cc H1 locs1 c k Z (F0 mid (pc + 1) lsA rest)) : W p l e (am_rm m) s mid args below meth cc H locs c k Z (F0 mid pc lsA (.int z :: .int i :: .ref (G.1 + o) :: rest)) := by
  obtain ⟨hx, hbc, hml, -, hts, hF, hnm, hm⟩ := hC
  have h2 : ∀ x, x ≠ o → am_cell G (am_uI g o i.toNatClampNeg z) x = am_cell G g x := fun x hx => am_cell_congr rfl (fun j => by simp [am_uI, hx]) (fun _ => rfl) (fun _ => rfl)
  have hca : am_cell G (am_uI g o i.toNatClampNeg z) o = .inl (G.2.2.2.2.2.1, (g.1.2 o).2, .inl (upd (g.2.1 o) i.toNatClampNeg z)) := by
    rw [am_cell_i (g := am_uI g o i.toNatClampNeg z) hty]
    have e : (am_uI g o i.toNatClampNeg z).2.1 o = upd (g.2.1 o) i.toNatClampNeg z := by
      funext j
      simp [am_uI, upd]
    rw [e]
    rfl
  exact va_iast hx hbc hF.1 hR.2.1 am_ws_D hS o 0 (by rw [am_ws_at ho, am_cell_i hty]) rfl hi hd (fun H1 locs1 hP _ hS1 => am_Wsz fun hz => kk H1 locs1 (hR.put rfl h2 ho hB hz (by rw [hca]; exact hP) hS hS1) hS1)
theorem am_uR_up {g : am_S} {o i q : Nat} : (fun j => ((am_uR g o i (some q)).2.2.2 o j).map (fun q => G.1 + q)) = va_up (fun j => (g.2.2.2 o j).map (fun q => G.1 + q)) i (some (G.1 + q)) := by
  funext j
  by_cases hj : j = i
  · subst hj
    simp [am_uR, va_up]
  · simp [am_uR, va_up, hj]
theorem am_aastW (hC : am_Cx G m p s mid args meth cc) (hR : am_rel G g s H) (hS : va_S (fun q : Nat => G.1 ≤ q) s.heap H locs) (hB : s.heap.size + c = G.1 + g.1.1 ∧ G.1 ≤ s.heap.size) {o q : Nat} {i : Int32} {rest : List Value} (hd : decode (am_by m) pc = .ok (.aastore, 1)) (ho : o < g.1.1) (hq : q < g.1.1) (hty : ((g.1.2 o).1 = 102 ∧ (g.1.2 q).1 = 10) ∨ ((g.1.2 o).1 = 103 ∧ (g.1.2 q).1 = 5)) (hi : vp_in i (g.1.2 o).2)
    (kk : ∀ (H1 : Heap) (locs1 : List Loc), am_rel G (am_uR g o i.toNatClampNeg (some q)) s H1 → va_S (fun q : Nat => G.1 ≤ q) s.heap H1 locs1 → W p l e (am_rm m) s mid args below meth cc H1 locs1 c k Z (F0 mid (pc + 1) lsA rest)) : W p l e (am_rm m) s mid args below meth cc H locs c k Z (F0 mid pc lsA (.ref (G.1 + q) :: .int i :: .ref (G.1 + o) :: rest)) := by
  obtain ⟨hx, hbc, hml, -, hts, hF, hnm, hm⟩ := hC
  have h2 : ∀ x, x ≠ o → am_cell G (am_uR g o i.toNatClampNeg (some q)) x = am_cell G g x := fun x hx => am_cell_congr rfl (fun _ => rfl) (fun _ => rfl) (fun j => by simp [am_uR, hx])
  rcases hty with ⟨t1, t2⟩ | ⟨t1, t2⟩
  · have hca : am_cell G (am_uR g o i.toNatClampNeg (some q)) o = .inl (G.2.2.2.2.2.2.2.1, (g.1.2 o).2, .inr (.inr (.inr (.inr (va_up (fun j => (g.2.2.2 o j).map (fun q => G.1 + q)) i.toNatClampNeg (some (G.1 + q))))))) := by
      rw [am_cell_s (g := am_uR g o i.toNatClampNeg (some q)) t1, am_uR_up]
      rfl
    exact va_astq (r := ("OwnLight$Strip", am_T10, 2)) hx hbc hF.1 hR.2.1 am_ws_D hS o 2 q 10 (by rw [am_ws_at ho, am_cell_s t1]) rfl (by rw [am_ws_at hq, am_cell_o t2 (by omega)]) rfl hi hd (fun H1 locs1 hP _ hS1 => am_Wsz fun hz => kk H1 locs1 (hR.put rfl h2 ho hB hz (by rw [hca]; exact hP) hS hS1) hS1)
  · have hca : am_cell G (am_uR g o i.toNatClampNeg (some q)) o = .inl (G.2.2.2.2.2.2.2.2, (g.1.2 o).2, .inr (.inr (.inr (.inr (va_up (fun j => (g.2.2.2 o j).map (fun q => G.1 + q)) i.toNatClampNeg (some (G.1 + q))))))) := by
      rw [am_cell_t (g := am_uR g o i.toNatClampNeg (some q)) t1, am_uR_up]
      rfl
    exact va_astq (r := ("OwnLight$Stand", am_T5, 4)) hx hbc hF.1 hR.2.1 am_ws_D hS o 3 q 5 (by rw [am_ws_at ho, am_cell_t t1]) rfl (by rw [am_ws_at hq, am_cell_o t2 (by omega)]) rfl hi hd (fun H1 locs1 hP _ hS1 => am_Wsz fun hz => kk H1 locs1 (hR.put rfl h2 ho hB hz (by rw [hca]; exact hP) hS hS1) hS1)
theorem am_copyW (hC : am_Cx G m p s mid args meth cc) (hR : am_rel G g s H) (hS : va_S (fun q : Nat => G.1 ≤ q) s.heap H locs) (hB : s.heap.size + c = G.1 + g.1.1 ∧ G.1 ≤ s.heap.size) (hsz : lsA.size = am_ml m) {idx o u : Nat} {sp dp n : Int32} {rest : List Value} (hd : decode (am_by m) pc = .ok (.invokestatic idx, 3)) (hlm : (am_ow m, idx, 1002) ∈ am_lm) (hfr : 1 ≤ am_fr m) (hlo : 30 ≤ am_lo m)
    (ho : o < g.1.1) (hu : u < g.1.1) (t1 : (g.1.2 o).1 = 100) (t2 : (g.1.2 u).1 = 100) (hr : (rest.map fun v => v.category).sum ≤ 8) (h1 : ¬ sp < 0) (h2 : ¬ dp < 0) (h3 : ¬ n < 0) (h4 : sp.toNatClampNeg + n.toNatClampNeg ≤ (g.1.2 u).2) (h5 : dp.toNatClampNeg + n.toNatClampNeg ≤ (g.1.2 o).2)
    (kk : ∀ (H1 : Heap) (locs1 : List Loc), am_rel G (am_cpy g u o sp.toNatClampNeg dp.toNatClampNeg n.toNatClampNeg) s H1 → va_S (fun q : Nat => G.1 ≤ q) s.heap H1 locs1 → W p l e (am_rm m) s mid args below meth cc H1 locs1 c k Z (F0 mid (pc + 3) lsA rest)) : W p l e (am_rm m) s mid args below meth cc H locs c k Z (F0 mid pc lsA (.int n :: .int dp :: .ref (G.1 + o) :: .int sp :: .ref (G.1 + u) :: rest)) := by
  have hown := hC.own
  obtain ⟨hx, hbc, hml, -, hts, hF, hnm, hm⟩ := hC
  have hne : ∀ x, x ≠ o → am_cell G (am_cpy g u o sp.toNatClampNeg dp.toNatClampNeg n.toNatClampNeg) x = am_cell G g x := fun x hx => am_cell_congr rfl (fun j => by simp [am_cpy, hx]) (fun _ => rfl) (fun _ => rfl)
  have hca : am_cell G (am_cpy g u o sp.toNatClampNeg dp.toNatClampNeg n.toNatClampNeg) o = .inl (G.2.2.2.2.2.1, (g.1.2 o).2, .inl (va_cpy (g.2.1 u) (g.2.1 o) sp.toNatClampNeg dp.toNatClampNeg n.toNatClampNeg)) := by
    rw [am_cell_i (g := am_cpy g u o sp.toNatClampNeg dp.toNatClampNeg n.toNatClampNeg) t1]
    have e : (am_cpy g u o sp.toNatClampNeg dp.toNatClampNeg n.toNatClampNeg).2.1 o = va_cpy (g.2.1 u) (g.2.1 o) sp.toNatClampNeg dp.toNatClampNeg n.toNatClampNeg := by
      funext j
      simp [am_cpy]
    rw [e]
    rfl
  have hnw : nativeFrameWords "java/lang/System" "arraycopy" 5 = 7 := by decide +kernel
  have hloc : (rest.map fun v => v.category).sum + (nativeFrameWords "java/lang/System" "arraycopy" 5 + 11) ≤ (am_rm m).locals := by
    rw [hnw]
    show _ ≤ am_lo m
    omega
  exact va_copyi hx hbc (by rw [hml, hsz]) hown (hts _ (am_lm_ok _ (List.mem_map.mpr ⟨_, hlm, rfl⟩))) (hts _ (am_wodd _ (List.mem_of_getElem? (i := 3) rfl))) (hts _ (am_wodd _ (List.mem_of_getElem? (i := 2) rfl))) (hts _ (am_wodd _ (List.mem_of_getElem? (i := 5) rfl))) hF.1 hR.2.1 am_ws_D hS u o 0 0 (ty := .int) (by rw [am_ws_at hu, am_cell_i t2]) (by rw [am_ws_at ho, am_cell_i t1]) rfl rfl rfl h1 h2 h3 h4 h5 (fun _ _ => rfl) hfr hloc hd
    (fun H1 locs1 hP _ hS1 => am_Wsz fun hz => kk H1 locs1 (hR.put rfl hne ho hB hz (by rw [hca]; exact hP) hS hS1) hS1)
end AM

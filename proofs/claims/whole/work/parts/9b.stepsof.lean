/-! the steps of a row, by the reference's table -/
def vr (S s : Nat) : List Nat → Prop
  | [] => True
  | k :: r => k < 6 ∧ S.testBit k = true ∧ s.testBit k = false ∧ vr S (s + 2 ^ k) r
theorem pQ_vr (S : Nat) : ∀ (d s : Nat) (r : List Nat), r ∈ pQ S d s → vr S s r
  | 0, s, r, h => by
    have : r = [] := List.mem_singleton.mp h
    subst this
    trivial
  | d + 1, s, r, h => by
    unfold pQ at h
    by_cases q : S ≤ s
    · rw [if_pos q] at h
      have : r = [] := List.mem_singleton.mp h
      subst this
      trivial
    · rw [if_neg q] at h
      obtain ⟨k, h1, h2⟩ := List.mem_flatMap.mp h
      by_cases c : (S.testBit k && !s.testBit k) = true
      · rw [if_pos c] at h2
        obtain ⟨r', h3, rfl⟩ := List.mem_map.mp h2
        rw [Bool.and_eq_true, Bool.not_eq_true'] at c
        exact ⟨List.mem_range.mp h1, c.1, c.2, pQ_vr S d (s + 2 ^ k) r' h3⟩
      · rw [if_neg c] at h2
        cases h2
theorem pQ_len {n : Nat} (hn : n < 7) {r : List Nat} (h : r ∈ pQ (2 ^ n - 1) 64 0) : r.length = n ∧ ∀ i, i < n → rwF r i < n := by
  have h1 := List.all_eq_true.mp (hdP_ok n hn).2 r h
  rw [Bool.and_eq_true] at h1
  have h2 : r.length = n := by simpa using h1.1
  refine ⟨h2, fun i hi => ?_⟩
  have h3 := List.all_eq_true.mp h1.2 (rwF r i) (by
    unfold rwF
    rw [List.getD_eq_getElem?_getD, List.getElem?_eq_getElem (by omega)]
    exact List.getElem_mem _)
  exact of_decide_eq_true h3
section PS
variable {G : am_G} {l : Launch} {t : am_T} {I : am_I} {L : am_J} {Q : bm_P}
theorem sm_stepsOf {T : tT} (sh : Nat) (h6 : tN T ≤ 6) (hn : I 61 14 = nI (tN T)) (ht : tbT T sh I) (r : List Nat) (hlen : r.length = tN T) (hv : vr (al T) 0 r) (hr : ∀ i, i < tN T → I 76 i = nI (rwF r i)) (h : Q (some (.int (eM (cst (gap T sh) 0 7 r)))) t I L) : bm_C G l 134 [.ref 61] t I L Q := by
  have p := Nat.two_pow_pos (tN T)
  have p6 := Nat.pow_le_pow_right (n := 2) (by decide) h6
  have a64 : al T < 64 := by unfold al; omega
  have lp : ∀ (suf : List Nat) i s la v y1 y2 y3 d4, i + suf.length = tN T → (∀ j, j < suf.length → I 76 (i + j) = nI (rwF suf j)) → vr (al T) s suf → s ≤ al T → ((i = 0 ∧ s = 0 ∧ la = 7) ∨ (1 ≤ i ∧ I 76 (i - 1) = nI la ∧ la < tN T ∧ s.testBit la = true)) → y1 = nI v → y2 = nI s → y3 = nI i → v ≤ 25 * i → Q (some (.int (eM (oadd (some v) (cst (gap T sh) s la suf))))) t I L → bm_W G l 134 6 [some (.ref 61), some (.int y1), some (.int y2), some (.int y3), d4] [] t I L Q := by
    intro suf
    induction suf with
    | nil =>
      intro i s la v y1 y2 y3 d4 hi hj hv hs hl e1 e2 e3 hb k
      subst e1 e2 e3
      have : i = tN T := by simpa using hi
      subst this
      refine bm_go (am_ok_all 134 (by decide)) 60 ?_
      refine And.intro (fun _ => k) (fun cd => ?_)
      rw [hn] at cd
      omega
    | cons kk suf ih =>
      intro i s la v y1 y2 y3 d4 hi hj hv hs hl e1 e2 e3 hb k
      subst e1 e2 e3
      obtain ⟨v1, v2, v3, v4⟩ := hv
      have hi : i + (suf.length + 1) = tN T := hi
      have kn : kk < tN T := by
        rw [tb_al] at v2
        exact of_decide_eq_true v2
      have ek : I 76 i = nI kk := hj 0 (Nat.succ_pos _)
      have gb : ∀ w, gap T sh s la kk = some w → w < 1000 := fun w e => by have := gap_lt e; omega
      obtain ⟨u1, u2⟩ := up_al h6 hs kn v3
      obtain ⟨b1, b2, b3⟩ := bit_up s (by omega) kk (by omega) v3
      have eset : nI s ||| (1 : Int32) <<< (I 76 i &&& 31) = nI (s + 2 ^ kk) := by rw [ek, k1, n_shl _ (by omega), n_or, b1]
      have fin : ∀ z, z = eM (gap T sh s la kk) → bm_cmp .ne z.toInt (Int32.toInt (-9)) (bm_W G l 134 6 [some (.ref 61), some (.int (nI v + z)), some (.int (nI s ||| (1 : Int32) <<< (I 76 i &&& 31))), some (.int (nI i + 1)), some (.int z)] [] t I L Q) (Q (some (.int (-9))) t I L) := by
        intro z ez
        subst ez
        refine And.intro (fun cd => ?_) (fun cd => ?_)
        · cases e : gap T sh s la kk with
          | none => rw [e] at cd; exact absurd rfl cd
          | some w =>
            have wl := gap_lt e
            refine ih (i + 1) (s + 2 ^ kk) kk (v + w) _ _ _ _ (by omega) (fun j hj2 => ?_) v4 u1 (Or.inr ⟨by omega, ek, kn, b3⟩) (nI_add _ _) eset (nI_succ i).symm (by omega) ?_
            · have := hj (j + 1) (Nat.succ_lt_succ hj2)
              rw [show i + 1 + j = i + (j + 1) by omega]
              exact this
            · have k : Q (some (.int (eM (oadd (some v) (oadd (gap T sh s la kk) (cst (gap T sh) (s + 2 ^ kk) kk suf)))))) t I L := k
              rw [← oadd_assoc, e] at k
              exact k
        · have e := (em_ne gb).mp cd
          have k : Q (some (.int (eM (oadd (some v) (oadd (gap T sh s la kk) (cst (gap T sh) (s + 2 ^ kk) kk suf)))))) t I L := k
          rw [e] at k
          exact k
      refine bm_go (am_ok_all 134 (by decide)) 120 ?_
      refine And.intro (fun cd => ?_) (fun _ => ?_)
      · rw [hn, nI_toInt (by omega), nI_toInt (by omega)] at cd
        omega
      rcases hl with ⟨rfl, rfl, rfl⟩ | ⟨hi1, el, ln, sb⟩
      · have i0 : ((2304 : Int32) + I 76 0).toInt = ((2304 + kk : Nat) : Int) := by rw [ek, show (2304 : Int32) = nI 2304 from rfl, nI_add]; exact nI_toInt (by omega)
        first | refine And.intro (fun cd => absurd cd (by decide)) (fun _ => ?_) | refine And.intro (fun _ => ?_) (fun cd => absurd cd (by decide)) | refine And.intro (fun cd => ?_) (fun cd => ?_)
        refine ⟨0, rfl, (by omega : 0 < 6), ?_⟩
        refine ⟨2304 + kk, i0, (by omega : 2304 + kk < 2310), ?_⟩
        have f := fin _ (ht.1 kk kn)
        refine And.intro (fun cd => ?_) (fun cd => f.2 cd)
        refine ⟨0, rfl, (by omega : 0 < 6), ?_⟩
        exact f.1 cd
      · have iN : ¬ (nI i).toInt = 0 := by rw [nI_toInt (by omega)]; omega
        have im : nI i - 1 = nI (i - 1) := by rw [k1, pk_sub hi1]
        have ix : ((36 : Int32) * nI s + 6 * I 76 (i - 1) + I 76 i).toInt = ((36 * s + 6 * la + kk : Nat) : Int) := by
          rw [el, ek, show (36 : Int32) = nI 36 from rfl, k6, pk_mul, pk_mul, nI_add, nI_add]
          exact nI_toInt (by omega)
        refine And.intro (fun _ => ?_) (fun cd => absurd cd iN)
        refine ⟨i - 1, by rw [im]; exact nI_toInt (by omega), (by omega : i - 1 < 6), ?_⟩
        refine ⟨i, nI_toInt (by omega), (by omega : i < 6), ?_⟩
        refine ⟨36 * s + 6 * la + kk, ix, (by omega : 36 * s + 6 * la + kk < 2310), ?_⟩
        have f := fin _ (ht.2 s la kk hs ln kn sb v3)
        refine And.intro (fun cd => ?_) (fun cd => f.2 cd)
        refine ⟨i, nI_toInt (by omega), (by omega : i < 6), ?_⟩
        exact f.1 cd
  refine bm_go (am_ok_all 134 (by decide)) 60 ?_
  refine lp r 0 0 7 0 _ _ _ _ (by omega) (fun j hj => by rw [Nat.zero_add]; exact hr j (by omega)) hv (Nat.zero_le _) (Or.inl ⟨rfl, rfl, rfl⟩) rfl rfl rfl (Nat.le_refl _) ?_
  rw [oadd_0l]
  exact h
end PS

/-! pair: first -/
theorem P_cons {n : Nat} (hn : n < 7) : ∃ B, pQ (2 ^ n - 1) 64 0 = List.range n :: B := by
  have h := (hdP_ok n hn).1
  cases e : pQ (2 ^ n - 1) 64 0 with
  | nil => rw [e] at h; cases h
  | cons x B =>
    rw [e] at h
    cases h
    exact ⟨B, rfl⟩
theorem P_head {S : Nat} (h0 : 0 < S) : pQ S 64 0 = (List.range 6).flatMap (fun k => if S.testBit k && !(0 : Nat).testBit k then (pQ S 63 (0 + 2 ^ k)).map (fun r => k :: r) else []) := by
  show (if S ≤ 0 then [[]] else _) = _
  rw [if_neg (by omega)]
def fby (T : tT) (sh k : Nat) : Option Nat := if (0 : Nat).testBit k then none else oadd (gap T sh 0 7 k) (Bo (gap T sh) (tN T) (al T) (0 + 2 ^ k) k)
/-- who is first in a row that can be -/
theorem fby_rows {T : tT} (sh : Nat) (h6 : tN T ≤ 6) {k : Nat} (hk : k < tN T) : fby T sh k ≠ none ↔ ∃ r, r ∈ pQ (al T) 64 0 ∧ rwF r 0 = k ∧ cst (gap T sh) 0 7 r ≠ none := by
  have p := Nat.two_pow_pos (tN T)
  have p6 := Nat.pow_le_pow_right (n := 2) (by decide) h6
  have pk := Nat.pow_le_pow_right (n := 2) (by decide) hk
  have pk0 := Nat.two_pow_pos k
  rw [Nat.pow_succ] at pk
  have a0 : 0 < al T := by unfold al; omega
  have a64 : al T < 64 := by unfold al; omega
  have kb : (al T).testBit k = true := by rw [tb_al]; exact decide_eq_true hk
  have hB := Bo_rows (gap T sh) (n := tN T) (a := al T) (u := 0) (R := al T) h6 rfl (Nat.zero_le _) rfl 63 (0 + 2 ^ k) k (by omega) (Nat.and_zero _) (by unfold al; omega)
  simp only [Nat.zero_add] at hB
  have hf : fby T sh k = ominL (fun r => oadd (gap T sh 0 7 k) (cst (gap T sh) (2 ^ k) k r)) (pQ (al T) 63 (2 ^ k)) := by
    unfold fby
    rw [if_neg (by simp), ominL_add', Nat.zero_add, hB]
  rw [P_head a0]
  constructor
  · intro h
    rw [hf] at h
    have : ∃ r, r ∈ pQ (al T) 63 (2 ^ k) ∧ oadd (gap T sh 0 7 k) (cst (gap T sh) (2 ^ k) k r) ≠ none := by
      by_cases q : ∃ r, r ∈ pQ (al T) 63 (2 ^ k) ∧ oadd (gap T sh 0 7 k) (cst (gap T sh) (2 ^ k) k r) ≠ none
      · exact q
      · refine absurd ((ominL_none _).mpr (fun r hr => ?_)) h
        by_cases w : oadd (gap T sh 0 7 k) (cst (gap T sh) (2 ^ k) k r) = none
        · exact w
        · exact absurd ⟨r, hr, w⟩ q
    obtain ⟨r, h1, h2⟩ := this
    refine ⟨k :: r, List.mem_flatMap.mpr ⟨k, List.mem_range.mpr (by omega), ?_⟩, rfl, ?_⟩
    · rw [kb, Nat.zero_add]
      simp only [Nat.zero_testBit, Bool.not_false, Bool.and_self, if_true]
      exact List.mem_map.mpr ⟨r, h1, rfl⟩
    · show oadd (gap T sh 0 7 k) (cst (gap T sh) (0 + 2 ^ k) k r) ≠ none
      rw [Nat.zero_add]
      exact h2
  · rintro ⟨r, h1, h2, h3⟩
    obtain ⟨j, h4, h5⟩ := List.mem_flatMap.mp h1
    by_cases c : ((al T).testBit j && !(0 : Nat).testBit j) = true
    · rw [if_pos c] at h5
      obtain ⟨r', h6, rfl⟩ := List.mem_map.mp h5
      have e : j = k := h2
      subst e
      rw [hf]
      intro w
      have := (ominL_none _).mp w r' (by rw [Nat.zero_add] at h6; exact h6)
      have h3 : oadd (gap T sh 0 7 j) (cst (gap T sh) (0 + 2 ^ j) j r') ≠ none := h3
      rw [Nat.zero_add] at h3
      exact h3 this
    · rw [if_neg c] at h5
      cases h5
def bgn (T : tT) (sh : Nat) (A : List (List Nat)) : Nat := bO (tN T) (fun k => A.any (fun r => rwF r 0 == k && (cst (gap T sh) 0 7 r).isSome))
theorem bgn_all {T : tT} (sh : Nat) (h6 : tN T ≤ 6) : bgn T sh (pQ (al T) 64 0) = bO (tN T) (fun k => (fby T sh k).isSome) := by
  refine bO_cong (fun k hk => ?_)
  have := fby_rows sh h6 hk
  cases e : fby T sh k with
  | none =>
    rw [e] at this
    show _ = false
    rw [List.any_eq_false]
    intro r hr w
    simp only [Bool.and_eq_true, beq_iff_eq] at w
    exact this.mpr ⟨r, hr, w.1, fun q => by rw [q] at w; exact absurd w.2 (by decide)⟩ rfl
  | some v =>
    rw [e] at this
    obtain ⟨r, h1, h2, h3⟩ := this.mp (by simp)
    show _ = true
    rw [List.any_eq_true]
    refine ⟨r, h1, ?_⟩
    rw [h2]
    cases q : cst (gap T sh) 0 7 r with
    | none => exact absurd q h3
    | some w => simp
section PF
variable {G : am_G} {l : Launch} {t : am_T} {I : am_I} {L : am_J} {Q : bm_P}
theorem or_bO {n k : Nat} (h6 : n ≤ 6) (hk : k < n) (p q : Nat → Bool) (b : Bool) (h : ∀ j, j < n → q j = (p j || (decide (k = j) && b))) : bO n p ||| (if b then 1 <<< k else 0) = bO n q := by
  have hl : (if b then 1 <<< k else 0) < 2 ^ n := by
    cases b
    · exact Nat.two_pow_pos _
    · exact one_lt hk
  refine tb_ext (or_lt (bO_lt n p) hl) (bO_lt n q) (fun j hj => ?_)
  rw [Nat.testBit_or, tb_bO, tb_bO, h j hj]
  cases b with
  | false => simp [hj]
  | true =>
    rw [if_pos rfl, tb_one, decide_eq_true hj]
    simp
theorem sp_firsts {T : tT} (sh : Nat) (h6 : tN T ≤ 6) (h3 : I 25 3 = nI (tN T)) (tb : tabs T sh I) (h : Q (some (.int (nI (bO (tN T) (fun k => (fby T sh k).isSome))))) t I L) : bm_C G l 195 [.ref 25] t I L Q := by
  have p := Nat.two_pow_pos (tN T)
  have T20 : (1048576 : Int32).toInt = 1048576 := rfl
  have lp : ∀ d k b y, tN T - k = d → k ≤ tN T → b = nI (bO k (fun k => (fby T sh k).isSome)) → y = nI k → bm_W G l 195 4 [some (.ref 25), some (.int b), some (.int y)] [] t I L Q := by
    intro d
    induction d with
    | zero =>
      intro k b y hd hk hb hy
      obtain rfl : k = tN T := by omega
      subst hb hy
      refine bm_go (am_ok_all 195 (by decide)) 60 ?_
      refine And.intro (fun _ => h) (fun cd => ?_)
      rw [h3] at cd
      omega
    | succ d ih =>
      intro k b y hd hk hb hy
      subst hb hy
      have a0 : 0 < al T := by
        have := Nat.pow_le_pow_right (n := 2) (by decide) (show 1 ≤ tN T by omega)
        unfold al
        omega
      have ofb : ob (fby T sh k) := fun v e => by
        unfold fby at e
        split at e
        · cases e
        · obtain ⟨x, y, e1, e2, rfl⟩ := oadd_some e
          have a64 := Nat.pow_le_pow_right (n := 2) (by decide) h6
          have := gap_lt e1
          have := Bo_lt (g := gap T sh) (fun s l k v e => gap_lt e) (tN T) (al T) _ _ k y rfl e2
          have a63 : al T < 64 := by unfold al; omega
          have := Nat.two_pow_pos k
          omega
      have i8 : (1 : Int32) <<< (nI k &&& 31) = nI (1 <<< k) := by rw [k1, n_shl _ (by omega)]
      refine bm_go (am_ok_all 195 (by decide)) 60 ?_
      refine And.intro (fun cd => ?_) (fun _ => ?_)
      · rw [h3, nI_toInt (by omega), nI_toInt (by omega)] at cd
        omega
      refine sp_stepsBy sh 0 7 k h6 rfl rfl rfl a0 (by decide) (by omega) tb.1 (fun s' _ h2 l hl => tb.2.2.1 s' l h2 hl) ?_
      refine And.intro (fun cd => ?_) (fun cd => ?_)
      · rw [T20] at cd
        have e : fby T sh k = none := (eN_nv ofb).mp cd
        refine ih (k + 1) _ _ (by omega) (by omega) ?_ (nI_succ k).symm
        rw [bO_s, k0, n_or, e]
        rfl
      · rw [T20] at cd
        have e : fby T sh k ≠ none := fun e => by have := (eN_nv ofb).mpr e; unfold fby at this; omega
        refine ih (k + 1) _ _ (by omega) (by omega) ?_ (nI_succ k).symm
        rw [bO_s, i8, n_or]
        cases w : fby T sh k with
        | none => exact absurd w e
        | some v => rfl
  refine bm_go (am_ok_all 195 (by decide)) 60 ?_
  exact lp _ 0 _ _ rfl (Nat.zero_le _) rfl rfl
theorem sp_lasts {T : tT} (sh : Nat) (h6 : tN T ≤ 6) (h3 : I 25 3 = nI (tN T)) (h4 : I 25 4 = nI (al T)) (tb : tabs T sh I) (h : Q (some (.int (nI (bO (tN T) (fun k => (Fo (gap T sh) (al T) k).isSome))))) t I L) : bm_C G l 196 [.ref 25] t I L Q := by
  have p := Nat.two_pow_pos (tN T)
  have p6 := Nat.pow_le_pow_right (n := 2) (by decide) h6
  have a64 : al T < 64 := by unfold al; omega
  have T20 : (1048576 : Int32).toInt = 1048576 := rfl
  have lp : ∀ d k b y, tN T - k = d → k ≤ tN T → b = nI (bO k (fun k => (Fo (gap T sh) (al T) k).isSome)) → y = nI k → bm_W G l 196 4 [some (.ref 25), some (.int b), some (.int y)] [] t I L Q := by
    intro d
    induction d with
    | zero =>
      intro k b y hd hk hb hy
      obtain rfl : k = tN T := by omega
      subst hb hy
      refine bm_go (am_ok_all 196 (by decide)) 60 ?_
      refine And.intro (fun _ => h) (fun cd => ?_)
      rw [h3] at cd
      omega
    | succ d ih =>
      intro k b y hd hk hb hy
      subst hb hy
      have ofb := Fo_ob (g := gap T sh) (fun _ _ _ _ e => gap_lt e) (l := k) a64
      have i8 : (1 : Int32) <<< (nI k &&& 31) = nI (1 <<< k) := by rw [k1, n_shl _ (by omega)]
      have ev := tb.2.1 (al T) k a64 (by omega)
      rw [if_pos (Nat.le_refl _)] at ev
      refine bm_go (am_ok_all 196 (by decide)) 60 ?_
      refine And.intro (fun cd => ?_) (fun _ => ?_)
      · rw [h3, nI_toInt (by omega), nI_toInt (by omega)] at cd
        omega
      refine sp_key (al T) k h4 rfl a64 (by omega) ?_
      refine ⟨8 * al T + k, nI_toInt (by omega), (by omega : 8 * al T + k < 512), ?_⟩
      refine And.intro (fun cd => ?_) (fun cd => ?_)
      · rw [T20, ev] at cd
        have e := (eN_nv ofb).mp cd
        refine ih (k + 1) _ _ (by omega) (by omega) ?_ (nI_succ k).symm
        rw [bO_s, k0, n_or, e]
        rfl
      · rw [T20, ev] at cd
        have e : Fo (gap T sh) (al T) k ≠ none := fun e => by have := (eN_nv ofb).mpr e; omega
        refine ih (k + 1) _ _ (by omega) (by omega) ?_ (nI_succ k).symm
        rw [bO_s, i8, n_or]
        cases w : Fo (gap T sh) (al T) k with
        | none => exact absurd w e
        | some v => rfl
  refine bm_go (am_ok_all 196 (by decide)) 60 ?_
  exact lp _ 0 _ _ rfl (Nat.zero_le _) rfl rfl
end PF

/-! two lamplighters: both -/
/-- both together, and which comes out -/
def totS (T : tT) (sh c s : Nat) : Option Nat := oadd (Fm (gap T sh) s) (secS T sh c s)
def twS (P : Nat → Option Nat) : Nat → Option (Nat × Nat)
  | 0 => none
  | i + 1 => match P i with
    | none => twS P i
    | some v => match twS P i with
      | none => some (v, i)
      | some w => if v < w.1 ∨ (v = w.1 ∧ pc i < pc w.2) then some (v, i) else some w
theorem twS_le (P : Nat → Option Nat) : ∀ (i : Nat) (w : Nat × Nat), twS P i = some w → w.2 < i ∧ ∃ j, j < i ∧ P j = some w.1
  | 0, w, e => by cases e
  | i + 1, w, e => by
    unfold twS at e
    cases h1 : P i with
    | none =>
      rw [h1] at e
      obtain ⟨q1, j, q2, q3⟩ := twS_le P i w e
      exact ⟨by omega, j, by omega, q3⟩
    | some v =>
      rw [h1] at e
      cases h2 : twS P i with
      | none =>
        rw [h2] at e
        cases e
        exact ⟨Nat.lt_succ_self i, i, Nat.lt_succ_self i, h1⟩
      | some u =>
        rw [h2] at e
        have e : (if v < u.1 ∨ (v = u.1 ∧ pc i < pc u.2) then some (v, i) else some u) = some w := e
        by_cases q : v < u.1 ∨ (v = u.1 ∧ pc i < pc u.2)
        · rw [if_pos q] at e
          cases e
          exact ⟨Nat.lt_succ_self i, i, Nat.lt_succ_self i, h1⟩
        · rw [if_neg q] at e
          have e : u = w := Option.some.inj e
          rw [← e]
          obtain ⟨q1, j, q2, q3⟩ := twS_le P i u h2
          exact ⟨by omega, j, by omega, q3⟩
theorem secS_lt {T : tT} {sh c s v : Nat} (h64 : al T < 64) (e : secS T sh c s = some v) : v < 5000 := by
  unfold secS at e
  split at e
  · cases e; omega
  · split at e
    · cases e
    · obtain ⟨i, _, e2⟩ := ominN_some _ _ e
      obtain ⟨x, y, e3, e4, rfl⟩ := oadd_some e2
      have := pace_lt e3
      have := Bo_lt (g := gap T sh) (fun s l k v e => gap_lt e) (tN T) (al T) _ _ i y rfl e4
      omega
theorem totS_lt {T : tT} {sh c s v : Nat} (h64 : al T < 64) (hs : s < 64) (e : totS T sh c s = some v) : v < 10000 := by
  obtain ⟨x, y, e1, e2, rfl⟩ := oadd_some e
  have := secS_lt h64 e2
  unfold Fm at e1
  obtain ⟨i, _, e3⟩ := ominN_some _ _ e1
  have := Fo_lt (g := gap T sh) (fun s l k v e => gap_lt e) s i x e3
  omega
section PT
variable {G : am_G} {l : Launch} {t : am_T} {I : am_I} {L : am_J} {Q : bm_P}
theorem sp_second {T : tT} {x y : Int32} (sh c s : Nat) (hok : tOk T) (ht : t.2 = (some 7, some 12)) (hc : cT T I) (hL : cL T sh 13 I) (h3 : I 25 3 = nI (tN T)) (h4 : I 25 4 = nI (al T)) (tb : tabs T sh I) (hx : x = nI c) (hy : y = nI s) (hcc : c < tC T) (hs : s ≤ al T) (h : ∀ I', frN [26] I I' → Q (some (.int (eN (secS T sh c s)))) t I' L) : bm_C G l 200 [.ref 25, .int x, .int y] t I L Q := by
  obtain ⟨t1, t2⟩ := t
  have ht : t2 = (some 7, some 12) := ht
  subst ht hx hy
  have h6 := hok.2.2.2.1
  have p := Nat.two_pow_pos (tN T)
  have p6 := Nat.pow_le_pow_right (n := 2) (by decide) h6
  have a64 : al T < 64 := by unfold al; omega
  have c24 := hok.1.c24
  have T20 : (1048576 : Int32).toInt = 1048576 := rfl
  refine bm_go (am_ok_all 200 (by decide)) 90 ?_
  refine And.intro (fun cd => ?_) (fun cd => ?_)
  · rw [h4, nI_toInt (by omega), nI_toInt (by omega)] at cd
    have ne : s ≠ al T := by omega
    refine sp_of 12 (Or.inl rfl) s rfl (by omega) ?_
    have eL : I 13 s = nI (lit T sh s) := hL s (by omega)
    have l24 := lit_24 (Or.inl hok) sh s
    refine sp_isIn (lit T sh s) c eL rfl (by omega) (by omega) (fun b => ?_) (fun b => ?_)
    · first | refine And.intro (fun cd => absurd cd (by decide)) (fun _ => ?_) | refine And.intro (fun _ => ?_) (fun cd => absurd cd (by decide)) | refine And.intro (fun cd => ?_) (fun cd => ?_)
      have := h I (frN.refl _ _)
      unfold secS at this
      rw [if_neg ne, if_pos b] at this
      exact this
    · first | refine And.intro (fun cd => absurd cd (by decide)) (fun _ => ?_) | refine And.intro (fun _ => ?_) (fun cd => absurd cd (by decide)) | refine And.intro (fun cd => ?_) (fun cd => ?_)
      have i8 : (1 : Int32) <<< (nI c &&& 31) = nI (1 <<< c) := by rw [k1, n_shl _ (by omega)]
      refine sp_paceOut (1 <<< c) 0 (lit T sh s) hok hc i8 rfl eL (one_lt (by omega)) (by rw [Nat.one_shiftLeft]; have := Nat.two_pow_pos c; omega) (by decide) l24 (fun I1 f1 g1 => ?_)
      have e3 : I1 25 3 = nI (tN T) := by rw [f1 25 (by decide)]; exact h3
      have obP : ∀ k, ob (pace T (1 <<< c) 0 (lit T sh s) (tP T k)) := fun k v e => by have := pace_lt e; omega
      have obB : ∀ s l, ob (Bo (gap T sh) (tN T) (al T) s l) := fun s l v e => by
        have := Bo_lt (g := gap T sh) (fun s l k v e => gap_lt e) (tN T) (al T) _ s l v rfl e
        omega
      have obX : ∀ k, ob (oadd (pace T (1 <<< c) 0 (lit T sh s) (tP T k)) (Bo (gap T sh) (tN T) (al T) (s ||| 1 <<< k) k)) := fun k v e => by
        obtain ⟨x, y, e1, e2, rfl⟩ := oadd_some e
        have := pace_lt e1
        have := Bo_lt (g := gap T sh) (fun s l k v e => gap_lt e) (tN T) (al T) _ _ k y rfl e2
        omega
      have lp : ∀ d k y4 y5 d6 d7, tN T - k = d → k ≤ tN T → y4 = eN (ominN k (fun k => oadd (pace T (1 <<< c) 0 (lit T sh s) (tP T k)) (Bo (gap T sh) (tN T) (al T) (s ||| 1 <<< k) k))) → y5 = nI k → bm_W G l 200 50 [some (.ref 25), some (.int (nI c)), some (.int (nI s)), some (.int (I 13 s)), some (.int y4), some (.int y5), d6, d7] [] (t1, some 7, some 12) I1 L Q := by
        intro d
        induction d with
        | zero =>
          intro k y4 y5 d6 d7 hd hk e4 e5
          obtain rfl : k = tN T := by omega
          subst e4 e5
          refine bm_go (am_ok_all 200 (by decide)) 60 ?_
          refine And.intro (fun _ => ?_) (fun cd => ?_)
          · have := h I1 f1
            unfold secS at this
            rw [if_neg ne, if_neg (by rw [b]; decide)] at this
            exact this
          · rw [e3] at cd
            omega
        | succ d ih =>
          intro k y4 y5 d6 d7 hd hk e4 e5
          subst e4 e5
          have kn : k < tN T := by omega
          have ev := g1 k (by omega)
          rw [if_pos kn] at ev
          have ul : s ||| 1 <<< k ≤ al T := by
            have : s ||| 1 <<< k < 2 ^ tN T := or_lt (by unfold al at hs; omega) (one_lt kn)
            unfold al
            omega
          have i1 : nI s ||| (1 : Int32) <<< (nI k &&& 31) = nI (s ||| 1 <<< k) := by rw [k1, n_shl _ (by omega), n_or]
          have ev2 : I1 29 (8 * (s ||| 1 <<< k) + k) = eN (Bo (gap T sh) (tN T) (al T) (s ||| 1 <<< k) k) := by rw [f1 29 (by decide)]; exact tb.2.2.1 _ k ul (by omega)
          have Ul : s ||| 1 <<< k < 64 := by omega
          refine bm_go (am_ok_all 200 (by decide)) 90 ?_
          refine And.intro (fun cd => ?_) (fun _ => ?_)
          · rw [e3, nI_toInt (by omega), nI_toInt (by omega)] at cd
            omega
          refine ⟨k, and7 (by omega), (by omega : k < 8), ?_⟩
          refine sp_key (s ||| 1 <<< k) k i1 rfl (by omega) (by omega) ?_
          refine ⟨8 * (s ||| 1 <<< k) + k, nI_toInt (by omega), (by omega : 8 * (s ||| 1 <<< k) + k < 512), ?_⟩
          refine And.intro (fun cd => ?_) (fun cd => ?_)
          · rw [T20, ev] at cd
            have pn := (eN_nv (obP k)).mp cd
            refine ih (k + 1) _ _ _ _ (by omega) (by omega) ?_ (nI_succ k).symm
            show _ = eN (omin (ominN k _) (oadd (pace T (1 <<< c) 0 (lit T sh s) (tP T k)) _))
            rw [pn]
            show _ = eN (omin _ none)
            rw [omin_n]
          · refine sp_sumO _ _ ev ev2 (obP k) (obB _ _) ?_
            intro z hz
            refine ih (k + 1) _ _ _ _ (by omega) (by omega) ?_ (nI_succ k).symm
            exact eN_min (ominN_ob (fun i => obX i)) (obX k) hz
      exact lp _ 0 _ _ _ _ rfl (Nat.zero_le _) rfl rfl
  · rw [h4, nI_toInt (by omega), nI_toInt (by omega)] at cd
    have := h I (frN.refl _ _)
    unfold secS at this
    rw [if_pos (by omega)] at this
    exact this
end PT

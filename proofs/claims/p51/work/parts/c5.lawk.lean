/-! the law: the walk from lamp to lamp -/
/-- what holds while he walks -/
def lV (G : am_G) (T : tT) (D : Int64) (r : List Nat) (t : am_T) (I : am_I) : Prop := isT G T ∧ cB T 0 t I ∧ (∃ a b, cS T 0 a b I) ∧ cZ I ∧ dgP T (am_u I 40 1 (-1)) = D ∧ I 40 1 = nI (tN T) ∧ (∀ j, j < tN T → I 41 j = nI (rwF r j)) ∧ ∀ j, j < tN T → I 62 j = nI (tP T j)
theorem cZ_u {I : am_I} (h : cZ I) : cZ (am_u I 40 1 (-1)) := fun k hk => by
  by_cases q : k = 1
  · subst q
    show -1 ≤ (am_u I 40 1 (-1) 40 1).toInt ∧ (am_u I 40 1 (-1) 40 1).toInt ≤ _
    rw [u_eq]
    decide
  · rw [u_ne (by omega)]
    exact h k hk
theorem dg_row {T : tT} {I I' : am_I} (hz : cZ I) (f : ∀ x, 38 ≤ x → x ≤ 57 → I' x = I x) : dgP T (am_u I' 40 1 (-1)) = dgP T (am_u I 40 1 (-1)) := by
  have e : ∀ x y, 38 ≤ x → x ≤ 57 → am_u I' 40 1 (-1) x y = am_u I 40 1 (-1) x y := fun x y h1 h2 => by
    unfold am_u
    rw [f x h1 h2]
  exact dgP_eq (cZ_u hz) (fun k hk => ⟨e _ _ (by omega) (by omega), fun j _ => e _ _ (by omega) (by omega)⟩)
theorem lV.f {G : am_G} {T : tT} {D : Int64} {r : List Nat} {t t' : am_T} {I I' : am_I} (h : lV G T D r t I) (hB : cB T 0 t' I') (f : ∀ z, z < 63 → z ∉ [16, 17, 19, 36] → I' z = I z) : lV G T D r t' I' := by
  obtain ⟨h1, h2, ⟨a, b, s1, s2, s3⟩, h4, h5, h6, h7, h8⟩ := h
  refine ⟨h1, hB, ⟨a, b, s1, by rw [f 22 (by decide) (by decide)]; exact s2, fun i hi => absurd hi (Nat.not_lt_zero i)⟩, h4.fr (fun k hk => by rw [f _ (by omega) (by simp; omega)]), ?_, ?_, ?_, ?_⟩
  · rw [dg_row h4 (fun x q1 q2 => f x (by omega) (by simp; omega))]
    exact h5
  · rw [f 40 (by decide) (by decide)]
    exact h6
  · rw [f 41 (by decide) (by decide)]
    exact h7
  · rw [f 62 (by decide) (by decide)]
    exact h8
theorem frN.w {cs : List Nat} {I I' : am_I} (h : frN cs I I') (hc : ∀ x, x ∈ cs → x ∈ [16, 17, 19, 36]) : ∀ z, z < 63 → z ∉ [16, 17, 19, 36] → I' z = I z := fun z _ hz => h z (fun q => hz (hc z q))
section LW
variable {G : am_G} {l : Launch} {t : am_T} {I : am_I} {L : am_J} {T : tT} {D : Int64} {n : Nat} {alv sp : Int32}
theorem lw_380 (hG : G.2.2.1 ≤ 260) {r : List Nat} {V d : Nat} {a : Nat → Nat} (hV : Bo (gap T 0) (tN T) (al T) 0 7 = some V) (hsp : lSp T (nI V)) (h : lV G T D r t I) (hR : cR T 0 d a I) {la : Nat} (hs : runS T 0 (rd0 T) a d = wkS T (al T) la) (n63 : 63 ≤ n) (n81 : n ≤ 81) {d12 d13 d14 d15 d16 d17 d18 d19 : Option Value} : nm_W G l 264 380 (wL (nI (tN T)) (nI (al T)) (nI (tS T)) alv D (nI V) [some (.int (nI V)), d12, d13, d14, d15, d16, d17, d18, d19]) [] n 81 40064 t I L lwQ := by
  have hok := h.2.1.1
  have n6 : tN T ≤ 6 := hok.2.2.2.1
  have p6 := Nat.pow_le_pow_right (n := 2) (by decide) n6
  have a64 : al T < 64 := by unfold al; omega
  have fm : Fm (gap T 0) (al T) ≠ none := by
    rw [← Fm_Bo _ n6, hV]
    exact Option.some_ne_none _
  have d2 := hR.1
  have e17 : I 17 1 = nI (al T) := by
    have := hR.2.2.1.2.1
    rw [hs, wkS_2] at this
    exact this
  refine nm_go (am_ok_all 264 (by decide)) 37 ?_
  refine And.intro (fun cd => absurd cd (by decide)) (fun _ => ?_)
  refine And.intro (fun cd => absurd rfl cd) (fun _ => ?_)
  refine nm_b n81 (cc_lit ?_)
  rw [e17]
  have f1 : frN [36] I (am_u I 36 0 (I 17 2)) := (frN.refl _ _).u (by decide)
  have h1 := h.f (h.2.1.n f1 (by decide)) (f1.w (by decide))
  have R1 := hR.n f1 (by decide)
  generalize am_u I 36 0 (I 17 2) = I1 at *
  refine And.intro (fun cd => absurd rfl cd) (fun _ => ?_)
  refine nm_b n81 (cc_undo h1.2.1 R1 0 (Nat.zero_le _) rfl (fun I2 f2 R2 => ?_))
  have h2 := h1.f (h1.2.1.n f2 (by decide)) (f2.w (by decide))
  refine And.intro (fun cd => ?_) (fun _ => ?_)
  · rw [nI_toInt (by omega)] at cd
    have z : (0 : Int32).toInt = 0 := rfl
    omega
  have r2 : sC (rd0 T) 17 I2 := R2.2.2.1
  have e2 : I2 17 1 = nI 0 := r2.2.1
  refine nm_b n81 (cc_lit ?_)
  rw [e2]
  have f3 : frN [36] I2 (am_u I2 36 0 (I2 17 2)) := (frN.refl _ _).u (by decide)
  have h3 := h2.f (h2.2.1.n f3 (by decide)) (f3.w (by decide))
  have R3 := R2.n f3 (by decide)
  have r3 : sC (rd0 T) 17 (am_u I2 36 0 (I2 17 2)) := R3.2.2.1
  generalize am_u I2 36 0 (I2 17 2) = I3 at *
  refine And.intro (fun cd => absurd rfl cd) (fun _ => ?_)
  refine nm_b n81 (cc_where h3.2.1 (c := tD T) (d := 0) r3.1 R3.2.1 ?_)
  have f4 : frN [36] I3 (am_u I3 36 0 (nI 0)) := (frN.refl _ _).u (by decide)
  have h4 := h3.f (h3.2.1.n f4 (by decide)) (f4.w (by decide))
  have R4 := R3.n f4 (by decide)
  generalize am_u I3 36 0 (nI 0) = I4 at *
  refine nm_b n81 (sp_door hG ?_)
  rw [← h4.1.2.2.2.1]
  refine And.intro (fun cd => absurd rfl cd) (fun _ => ?_)
  refine nm_b n81 (cc_tear rfl (by rw [h4.2.2.2.2.2.1, nI_toInt (by omega)]; omega) ?_)
  refine And.intro (fun cd => absurd rfl cd) (fun _ => ?_)
  have f5 : frN [40] I4 (am_u I4 40 1 (-1)) := (frN.refl _ _).u (by decide)
  have B5 := h4.2.1.n f5 (by decide)
  have R5 := R4.n f5 (by decide)
  have h5 : lS G T D n t (am_u I4 40 1 (-1)) := by
    obtain ⟨g1, g2, ⟨a', b', g3⟩, g4, g5, g6, g7, g8⟩ := h4
    exact ⟨g1, B5, ⟨a, R5⟩, ⟨a', b', g3.n f5 (by decide)⟩, cZ_u g4, g5, n63, n81⟩
  generalize am_u I4 40 1 (-1) = I5 at *
  refine nm_b n81 (cc_dark h5.2.1 (fun b I6 hb f6 B6 e36 => ?_))
  have h6 := h5.n B6 f6 (by decide)
  have p0 : pc b = 0 := by
    have := hb.2.2 0 (Nat.zero_le _) (by show Fm (gap T 0) (al T - 0) ≠ none; rw [Nat.sub_zero]; exact fm)
    rw [pc_0] at this
    omega
  have b0 : b = 0 := (pc_pos b (by have := hb.1; omega)).mp p0
  rw [p0]
  refine And.intro (fun cd => absurd rfl cd) (fun _ => ?_)
  refine nm_b n81 (cc_asked ?_)
  rw [e36, b0]
  refine And.intro (fun cd => absurd rfl cd) (fun _ => ?_)
  refine nm_b n81 (cc_shades h6.2.1 (fun e => absurd e (Fm_mono hok 0 fm)) (fun b I7 hb f7 B7 _ => ?_))
  have p0 : pc b = 0 := by
    have := hb.2.2 0 (Nat.zero_le _) ⟨Nat.zero_and _, by rw [Nat.or_zero]; exact fm⟩
    rw [pc_0] at this
    omega
  rw [p0]
  refine And.intro (fun cd => absurd rfl cd) (fun _ => ?_)
  have h7 := h6.n B7 f7 (by decide)
  exact lw_462 hG hsp h7
theorem lw_296 (hG : G.2.2.1 ≤ 260) {r : List Nat} {V : Nat} (hV : Bo (gap T 0) (tN T) (al T) 0 7 = some V) (hsp : lSp T (nI V)) : ∀ (q : List Nat) (j s la d w v i n c k : Nat) (a : Nat → Nat) (jv wv : Int32) (t : am_T) (I : am_I) (L : am_J) (d13 d14 d15 d16 d17 d18 d19 : Option Value), (∀ m, m < q.length → rwF r (j + m) = rwF q m) → j + q.length = tN T → vr (al T) s q → setL s q = al T → cst (gap T 0) s la q = some v → w + v = V → jv = nI j → wv = nI w → i ≤ j → n = 63 + 3 * i → c = 63 + 3 * j → k = 39200 + 144 * j → d ≤ 25 * j → cR T 0 d a I → runS T 0 (rd0 T) a d = wkS T s la → lV G T D r t I → nm_W G l 264 296 (wL (nI (tN T)) (nI (al T)) (nI (tS T)) alv D (nI V) [some (.int wv), some (.int jv), d13, d14, d15, d16, d17, d18, d19]) [] n c k t I L lwQ := by
  intro q
  induction q with
  | nil =>
    intro j s la d w v i n c k a jv wv t I L d13 d14 d15 d16 d17 d18 d19 hq hj hv hS hc hw ej ew hi hn ec ek hd hR hs h
    have n6 : tN T ≤ 6 := h.2.1.1.2.2.2.1
    obtain rfl : j = tN T := hj
    have v0 : 0 = v := Option.some.inj hc
    obtain rfl : w = V := by omega
    have hS : s = al T := hS
    subst hS ej ew
    refine nm_go (am_ok_all 264 (by decide)) 2 ?_
    refine And.intro (fun _ => ?_) (fun cd => absurd cd (by omega))
    exact nm_wide rfl (by omega) (by omega) (lw_380 hG hV hsp h hR hs (by omega) (by omega))
  | cons k0 q ih =>
    intro j s la d w v i n c k a jv wv t I L d13 d14 d15 d16 d17 d18 d19 hq hj hv hS hc hw ej ew hi hn ec ek hd hR hs h
    have hok := h.2.1.1
    have n6 : tN T ≤ 6 := hok.2.2.2.1
    have p6 := Nat.pow_le_pow_right (n := 2) (by decide) n6
    have c24 := hok.1.c24
    have pp := Nat.two_pow_pos (tN T)
    have hj : j + (q.length + 1) = tN T := hj
    obtain ⟨k6, v2, sb, vq⟩ := hv
    obtain ⟨x, y, gx, cy, rfl⟩ := oadd_some hc
    obtain ⟨q1, q2, q3, q4⟩ := gap_c gx
    have s64 : s < 64 := by unfold al at q1; omega
    obtain ⟨own, br, w1, w2, w3, w4, w5, w6, w7⟩ := walk_st hok gx
    have lt := (gap_lit n6 (by rw [gx]; exact Option.some_ne_none _)).2.2
    obtain ⟨m1, m2⟩ := walk_on (l := la) hok q2 s64 sb lt
    have tp := (hok.2.2.2.2.1 k0 q2).2.1
    subst ej ew
    have n81 : n ≤ 81 := by omega
    have r0 : rwF r j = k0 := hq 0 (Nat.succ_pos _)
    have e41 : I 41 j = nI k0 := by rw [h.2.2.2.2.2.2.1 j (by omega), r0]
    refine nm_go (am_ok_all 264 (by decide)) 120 ?_
    refine And.intro (fun cd => ?_) (fun _ => ?_)
    · rw [nI_toInt (by omega), nI_toInt (by omega)] at cd
      omega
    refine And.intro (fun cd => absurd cd (by decide)) (fun _ => ?_)
    refine nm_if (ct_ok (by show c ≤ 600000; omega) (by show k ≤ 7302250; omega)) ?_
    refine nm_b n81 (cc_at h.2.2.2.1 j rfl rfl (by rw [h.2.2.2.2.2.1, nI_toInt (by omega)]; omega) ?_)
    rw [e41]
    have f1 : frN [36] I (am_u I 36 0 (nI k0)) := (frN.refl _ _).u (by decide)
    have h1 := h.f (h.2.1.n f1 (by decide)) (f1.w (by decide))
    have R1 := hR.n f1 (by decide)
    have e36 : am_u I 36 0 (nI k0) 36 0 = nI k0 := u_eq
    generalize am_u I 36 0 (nI k0) = I1 at *
    refine And.intro (fun cd => absurd rfl cd) (fun _ => ?_)
    refine nm_if (ct_ok (by show c ≤ 600000; omega) (by show k ≤ 7302250; omega)) ?_
    refine nm_b n81 (cc_asked ?_)
    rw [e36]
    refine ⟨6, ⟨by omega, rfl⟩, k0, nI_toInt (by omega), by omega, ?_⟩
    rw [h1.2.2.2.2.2.2.2 k0 q2]
    refine nm_if (ct_ok (by show c ≤ 600000; omega) (by show k ≤ 7302250; omega)) ?_
    refine nm_b n81 (sp_cells hG ?_)
    refine nm_if (ct_ok (by show c + 3 ≤ 600000; omega) (by show k + 144 ≤ 7302250; omega)) ?_
    refine cc_goes h1.2.1 R1 hs (by rw [hn]; exact gC_ok i (by omega)) w1 w2 tp w3 rfl (by rw [h.1.C]) (by omega) w5 w6 w7 (fun n' a' I2 L2 hn' f2 _ B2 R2 ha' hs' => ?_)
    have h2 := h1.f B2 (fun z hz hm => f2 z (by omega) hm)
    refine And.intro (fun cd => ?_) (fun _ => ?_)
    · rw [nI_toInt (by omega)] at cd
      have z : (0 : Int32).toInt = 0 := rfl
      omega
    refine nm_if (ct_ok (by show c + 3 ≤ 600000; omega) (by show k + 144 ≤ 7302250; omega)) ?_
    refine nm_b (by omega) (cc_act_yes B2 R2 4 (by decide) rfl (by rw [hs']; exact m1) (by omega) (fun I3 f3 R3 => ?_))
    rw [hs', m2]
    have h3 := h2.f (h2.2.1.n f3 (by decide)) (f3.w (by decide))
    refine ⟨6, ⟨by omega, rfl⟩, k0, nI_toInt (by omega), by omega, ?_⟩
    rw [h3.2.2.2.2.2.2.2 k0 q2]
    have e1 : (wkS T (s + 2 ^ k0) k0).1 = tP T k0 := by
      have := Nat.two_pow_pos k0
      unfold wkS
      rw [if_neg (by omega)]
    rw [e1]
    refine And.intro (fun cd => absurd rfl cd) (fun _ => ?_)
    obtain ⟨i', hi', hn2⟩ : ∃ i', i' ≤ j + 1 ∧ n' = 63 + 3 * i' := by
      rcases hn' with e | e
      · exact ⟨i, by omega, by omega⟩
      · exact ⟨i + 1, by omega, by omega⟩
    refine ih (j + 1) (s + 2 ^ k0) k0 (d + x + 1) (w + x) y i' n' _ _ _ _ _ t I3 L2 _ _ _ _ _ _ _ (fun m hm => ?_) (by omega) vq hS cy (by omega) (nI_1 j) ?_ hi' hn2 ?_ ?_ (by omega) R3 ?_ h3
    · have := hq (m + 1) (Nat.succ_lt_succ hm)
      rw [show j + 1 + m = j + (m + 1) by omega]
      exact this
    · exact nI_add w x
    · show c + 2 + 1 = _
      omega
    · show k + 143 + 1 = _
      omega
    · show do1 T 0 (runS T 0 (rd0 T) (fun i => if i = d + x then 4 else a' i) (d + x)) (if d + x = d + x then 4 else a' (d + x)) = _
      rw [if_pos rfl, runS_c (a := a') (d + x) (fun i hi => if_neg (by omega)), hs', m2]
end LW

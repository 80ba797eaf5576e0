/-! reading a text as a town: the reference -/
def frR (I I' : am_I) : Prop := (∀ x, x ≠ 61 → x ≠ 65 → I' x = I x) ∧ ∀ j, j ≠ 8 → j ≠ 9 → I' 61 j = I 61 j
theorem frR.refl (I : am_I) : frR I I := ⟨fun _ _ _ => rfl, fun _ _ _ => rfl⟩
theorem frR.trans {I I' I'' : am_I} (h : frR I I') (g : frR I' I'') : frR I I'' := ⟨fun x a b => (g.1 x a b).trans (h.1 x a b), fun j a b => (g.2 j a b).trans (h.2 j a b)⟩
theorem frR.u {I I' : am_I} (h : frR I I') {a j : Nat} {v : Int32} (ha : a = 65 ∨ (a = 61 ∧ (j = 8 ∨ j = 9))) : frR I (am_u I' a j v) := by
  refine ⟨fun x h1 h2 => ?_, fun i h1 h2 => ?_⟩
  · rw [u_ne (by omega)]; exact h.1 x h1 h2
  · by_cases e : a = 65
    · rw [u_ne (by omega)]; exact h.2 i h1 h2
    · rw [show am_u I' a j v 61 i = I' 61 i from if_neg (fun q => by omega)]; exact h.2 i h1 h2
def sgM (n : Nat) (c : Nat → Int) (p : Nat) : Int := if p < n then c p else 0
/-- the text the reference reads: n bytes c -/
def txM (k n : Nat) (c : Nat → Int) (I : am_I) : Prop := I 61 7 = nI (6 + k) ∧ I 63 (6 + k) = nI n ∧ ∀ p, p < n → (I 64 (rb (6 + k) + p)).toInt = c p ∧ -128 ≤ c p ∧ c p ≤ 127
theorem txM.f {k n : Nat} {c : Nat → Int} {I I' : am_I} (h : txM k n c I) (f : frR I I') : txM k n c I' := by
  unfold txM at h ⊢
  rw [f.1 63 (by decide) (by decide), f.1 64 (by decide) (by decide), f.2 7 (by decide) (by decide)]
  exact h
section PM
variable {G : am_G} {l : Launch} {t : am_T} {I : am_I} {L : am_J} {Q : bm_P}
theorem sm_sign (k n : Nat) (c : Nat → Int) (p : Nat) (hk : k < 4) (hn : n ≤ 80) (hp : p ≤ n) (ht : txM k n c I) (h8 : I 61 8 = nI p) (h : ∀ z : Int32, z.toInt = sgM n c p → Q (some (.int z)) t I L) : bm_C G l 83 [.ref 61] t I L Q := by
  obtain ⟨t1, t2, t3⟩ := ht
  have ik : (I 61 7).toInt = ((6 + k : Nat) : Int) := by rw [t1]; exact nI_toInt (by omega)
  have rl := rb_le (k := 6 + k) (by omega)
  have c80 : cp (6 + k) = 80 := if_neg (by omega)
  refine bm_go (am_ok_all 83 (by decide)) 40 ?_
  refine ⟨6 + k, ik, (by omega : 6 + k < 10), ?_⟩
  rw [t2, h8]
  refine And.intro (fun cd => ?_) (fun cd => ?_)
  · rw [nI_toInt (by omega), nI_toInt (by omega)] at cd
    have h := h (0 : Int32) (by unfold sgM; rw [if_neg (by omega)]; rfl)
    exact h
  · rw [nI_toInt (by omega), nI_toInt (by omega)] at cd
    refine sm_base (6 + k) t1 (by omega) ?_
    refine ⟨rb (6 + k) + p, by rw [h8, nI_add, nI_toInt (by omega)], (by omega : rb (6 + k) + p < 680), ?_⟩
    refine h _ ?_
    unfold sgM
    rw [if_pos (by omega)]
    exact (t3 p (by omega)).1
theorem sm_here (k n : Nat) (c : Nat → Int) (p : Nat) (hk : k < 4) (hn : n ≤ 80) (hp : p ≤ n) (ht : txM k n c I) (h8 : I 61 8 = nI p) (h : ∀ z : Int32, z.toInt = sgM n c (sk n c p) → Q (some (.int z)) t (am_u I 61 8 (nI (sk n c p))) L) : bm_C G l 82 [.ref 61] t I L Q := by
  have ik : ∀ {I1 : am_I}, txM k n c I1 → (I1 61 7).toInt = ((6 + k : Nat) : Int) := fun t1 => by rw [t1.1]; exact nI_toInt (by omega)
  have rl := rb_le (k := 6 + k) (by omega)
  have c80 : cp (6 + k) = 80 := if_neg (by omega)
  have e32 : (32 : Int32).toInt = 32 := rfl
  have lp : ∀ d q (I1 : am_I), n - q = d → q ≤ n → I1 = am_u I 61 8 (nI q) → sk n c q = sk n c p → bm_W G l 82 0 [some (.ref 61)] [] t I1 L Q := by
    intro d
    induction d with
    | zero =>
      intro q I1 hd hq e1 hs
      obtain rfl : q = n := by omega
      have f1 : frR I I1 := by rw [e1]; exact (frR.refl I).u (by decide)
      have ht1 := ht.f f1
      have e8 : I1 61 8 = nI q := by rw [e1]; exact u_eq
      have e : sk q c q = q := sk_stop (by omega)
      rw [← hs, e] at h
      refine bm_go (am_ok_all 82 (by decide)) 40 ?_
      refine ⟨6 + k, ik ht1, (by omega : 6 + k < 10), ?_⟩
      rw [ht1.2.1, e8]
      refine And.intro (fun cd => ?_) (fun cd => by omega)
      refine sm_sign k q c q hk hn (by omega) ht1 e8 (fun z hz => ?_)
      rw [e1]
      exact h z hz
    | succ d ih =>
      intro q I1 hd hq e1 hs
      have f1 : frR I I1 := by rw [e1]; exact (frR.refl I).u (by decide)
      have ht1 := ht.f f1
      have e8 : I1 61 8 = nI q := by rw [e1]; exact u_eq
      refine bm_go (am_ok_all 82 (by decide)) 40 ?_
      refine ⟨6 + k, ik ht1, (by omega : 6 + k < 10), ?_⟩
      rw [ht1.2.1, e8]
      refine And.intro (fun cd => ?_) (fun cd => ?_)
      · rw [nI_toInt (by omega), nI_toInt (by omega)] at cd
        omega
      · refine sm_base (6 + k) ht1.1 (by omega) ?_
        refine ⟨rb (6 + k) + q, by rw [e8, nI_add, nI_toInt (by omega)], (by omega : rb (6 + k) + q < 680), ?_⟩
        have hz := (ht1.2.2 q (by omega)).1
        refine And.intro (fun cd => ?_) (fun cd => ?_)
        · have e : sk n c q = q := sk_stop (fun w => cd (by rw [hz, w.2, e32]))
          rw [← hs, e] at h
          refine sm_sign k n c q hk hn (by omega) ht1 e8 (fun z hz => ?_)
          rw [e1]
          exact h z hz
        · have e : sk n c q = sk n c (q + 1) := sk_go ⟨by omega, by rw [hz] at cd; omega⟩
          refine ih (q + 1) _ (by omega) (by omega) ?_ (by rw [← e, hs])
          rw [e8, ← nI_succ, e1, u_u]
  have e0 : am_u I 61 8 (nI p) = I := u_id h8
  exact lp (n - p) p I rfl hp e0.symm rfl
theorem sm_kindOf {x : Int32} (h1 : ∀ v, kdO x.toInt = some v → Q (some (.int (nI v))) t I L) (h0 : kdO x.toInt = none → Q (some (.int (-9))) t I L) : bm_C G l 84 [.int x] t I L Q := by
  refine bm_go (am_ok_all 84 (by decide)) 40 ?_
  refine And.intro (fun c1 => ?_) (fun cd => h1 0 (by rw [cd]; rfl))
  refine And.intro (fun c2 => ?_) (fun cd => h1 1 (by rw [cd]; rfl))
  refine And.intro (fun c3 => ?_) (fun cd => h1 2 (by rw [cd]; rfl))
  refine And.intro (fun c4 => ?_) (fun cd => h1 3 (by rw [cd]; rfl))
  refine And.intro (fun c5 => ?_) (fun cd => h1 4 (by rw [cd]; rfl))
  refine And.intro (fun c6 => ?_) (fun cd => h1 5 (by rw [cd]; rfl))
  refine h0 ?_
  have c1 : ¬ x.toInt = 108 := c1
  have c2 : ¬ x.toInt = 102 := c2
  have c3 : ¬ x.toInt = 99 := c3
  have c4 : ¬ x.toInt = 104 := c4
  have c5 : ¬ x.toInt = 111 := c5
  have c6 : ¬ x.toInt = 98 := c6
  unfold kdO
  rw [if_neg c1, if_neg c2, if_neg c3, if_neg c4, if_neg c5, if_neg c6]
theorem sm_figure {x y : Int32} (k n : Nat) (c : Nat → Int) (p lo hi : Nat) (hk : k < 4) (hn : n ≤ 80) (hp : p ≤ n) (ht : txM k n c I) (h8 : I 61 8 = nI p) (h9 : I 61 9 = 0) (hx : x = nI lo) (hy : y = nI hi) (hlo : lo < 10) (hhi : hi < 10) (h1 : ∀ v, fgO n c lo hi p = some v → p < n → lo ≤ v → v ≤ hi → Q (some (.int (nI v))) t (am_u I 61 8 (nI (p + 1))) L) (h0 : fgO n c lo hi p = none → ∀ z, Q (some (.int z)) t (am_u I 61 9 1) L) : bm_C G l 85 [.ref 61, .int x, .int y] t I L Q := by
  have e48 : (48 : Int32).toInt = 48 := rfl
  have ex : ((48 + x : Int32).toInt64).toInt = 48 + (lo : Int) := by rw [i64, hx, show (48 : Int32) = nI 48 from rfl, nI_add, nI_toInt (by omega)]; omega
  have ey : ((48 + y : Int32).toInt64).toInt = 48 + (hi : Int) := by rw [i64, hy, show (48 : Int32) = nI 48 from rfl, nI_add, nI_toInt (by omega)]; omega
  have w9 : (I 61 9).toInt = 0 := by rw [h9]; rfl
  unfold fgO at h1 h0
  refine bm_go (am_ok_all 85 (by decide)) 60 ?_
  refine And.intro (fun _ => ?_) (fun cd => absurd w9 cd)
  refine sm_sign k n c p hk hn hp ht h8 (fun z hz => ?_)
  refine And.intro (fun cd => absurd w9 cd) (fun _ => ?_)
  have hs : -128 ≤ z.toInt ∧ z.toInt ≤ 127 := by
    rw [hz]
    unfold sgM
    split
    · rename_i q
      exact (ht.2.2 p q).2
    · omega
  have hs2 : (z - 48).toInt = z.toInt - 48 := by
    rw [Int32.toInt_sub, e48]
    exact Int.bmod_eq_of_le (by omega) (by omega)
  refine sm_in z.toInt (48 + lo) (48 + hi) (i64 z) ex ey (fun a b => ?_) (fun a => ?_)
  · have hpn : p < n := by
      by_cases w : p < n
      · exact w
      · unfold sgM at hz
        rw [if_neg w] at hz
        omega
    have sg : sgC n c p = z.toInt := by
      unfold sgC
      unfold sgM at hz
      rw [if_pos hpn] at hz ⊢
      exact hz.symm
    rw [sg, if_pos ⟨a, b⟩] at h1
    first | refine And.intro (fun cd => absurd cd (by decide)) (fun _ => ?_) | refine And.intro (fun _ => ?_) (fun cd => absurd cd (by decide)) | refine And.intro (fun cd => ?_) (fun cd => ?_)
    refine ⟨Or.inl rfl, ?_⟩
    refine And.intro (fun _ => ?_) (fun cd => absurd (show (am_u I 61 9 0 61 9).toInt = 0 from rfl) cd)
    show Q (some (.int (z - 48))) t (am_u (am_u I 61 9 0) 61 8 (I 61 8 + 1)) L
    rw [u_id h9, h8, ← nI_succ]
    have e1 : nI (z.toInt - 48).toNat = z - 48 := Int32.toInt_inj.mp (by rw [nI_toInt (by omega), hs2]; omega)
    rw [← e1]
    exact h1 _ rfl hpn (by omega) (by omega)
  · have no : ¬ ((48 + lo : Int) ≤ sgC n c p ∧ sgC n c p ≤ 48 + hi) := by
      intro w
      have hpn : p < n := sg_lt (n := n) (c := c) (p := p) (by omega)
      unfold sgC at w
      unfold sgM at hz
      rw [if_pos hpn] at hz w
      omega
    rw [if_neg no] at h0
    first | refine And.intro (fun cd => absurd cd (by decide)) (fun _ => ?_) | refine And.intro (fun _ => ?_) (fun cd => absurd cd (by decide)) | refine And.intro (fun cd => ?_) (fun cd => ?_)
    refine ⟨Or.inr rfl, ?_⟩
    refine And.intro (fun cd => absurd (show (1 : Int32).toInt = 0 from cd) (by decide)) (fun _ => ?_)
    show Q (some (.int (z - 48))) t (am_u (am_u I 61 9 1) 61 8 (am_u I 61 9 1 61 8 + 0)) L
    rw [Int32.add_zero, u_id rfl]
    exact h0 rfl _
theorem sm_figure_w {x y : Int32} (h9 : I 61 9 = 1) (h : Q (some (.int (0 - 48))) t I L) : bm_C G l 85 [.ref 61, .int x, .int y] t I L Q := by
  have w9 : (I 61 9).toInt = 1 := by rw [h9]; rfl
  refine bm_go (am_ok_all 85 (by decide)) 60 ?_
  refine And.intro (fun cd => by omega) (fun _ => ?_)
  refine And.intro (fun _ => ?_) (fun cd => by omega)
  refine ⟨Or.inr rfl, ?_⟩
  refine And.intro (fun cd => absurd (show (1 : Int32).toInt = 0 from cd) (by decide)) (fun _ => ?_)
  show Q (some (.int (0 - 48))) t (am_u (am_u I 61 9 1) 61 8 (am_u I 61 9 1 61 8 + 0)) L
  rw [Int32.add_zero, u_id rfl, u_id h9]
  exact h
end PM

/-! the reference: copy -/
section PC
variable {G : am_G} {l : Launch} {t : am_T} {I : am_I} {L : am_J} {Q : bm_P}
theorem sm_copy {x y z w n : Int32} (hs : ∀ k, k < 6 → -1 ≤ (I 63 k).toInt ∧ (I 63 k).toInt ≤ 60) (hbad : (x.toInt < 0 ∨ 6 ≤ x.toInt ∨ z.toInt < 0 ∨ 6 ≤ z.toInt) → Q (some (.int (-1))) t I L)
    (hneg : ∀ a b, a < 6 → b < 6 → x = nI a → z = nI b → n.toInt < 0 → Q (some (.int (-3))) t (am_u (am_u I 61 3 5) 62 5 (I 62 5 + 1)) L)
    (h1 : ∀ a b, a < 6 → b < 6 → x = nI a → z = nI b → 0 ≤ n.toInt → ((I 63 a).toInt < 0 ∨ (I 63 b).toInt < 0) → Q (some (.int (-3))) t (am_u (am_u I 61 3 1) 62 1 (I 62 1 + 1)) L)
    (h2 : ∀ a b, a < 6 → b < 6 → x = nI a → z = nI b → 0 ≤ n.toInt → 0 ≤ (I 63 a).toInt → 0 ≤ (I 63 b).toInt → (y.toInt < 0 ∨ w.toInt < 0 ∨ (I 63 a).toInt < y.toInt + n.toInt ∨ (I 63 b).toInt < w.toInt + n.toInt) → Q (some (.int (-3))) t (am_u (am_u I 61 3 2) 62 2 (I 62 2 + 1)) L)
    (h0 : ∀ a b, a < 6 → b < 6 → x = nI a → z = nI b → 0 ≤ n.toInt → 0 ≤ (I 63 a).toInt → 0 ≤ (I 63 b).toInt → 0 ≤ y.toInt → 0 ≤ w.toInt → y.toInt + n.toInt ≤ (I 63 a).toInt → w.toInt + n.toInt ≤ (I 63 b).toInt → ∀ I', frN [64] I I' → (∀ p, p < n.toInt.toNat → I' 64 (rb b + w.toInt.toNat + p) = I 64 (rb a + y.toInt.toNat + p)) → (∀ q, (q < rb b + w.toInt.toNat ∨ rb b + w.toInt.toNat + n.toInt.toNat ≤ q) → I' 64 q = I 64 q) → Q (some (.int 1)) t I' L) :
    bm_C G l 78 [.ref 61, .int x, .int y, .int z, .int w, .int n] t I L Q := by
  refine bm_go (am_ok_all 78 (by decide)) 60 ?_
  refine sm_isRow (fun c1 c2 => ?_) (fun c1 => ?_)
  · first | refine And.intro (fun cd => absurd cd (by decide)) (fun _ => ?_) | refine And.intro (fun _ => ?_) (fun cd => absurd cd (by decide)) | refine And.intro (fun cd => ?_) (fun cd => ?_)
    refine sm_isRow (fun c3 c4 => ?_) (fun c3 => ?_)
    · first | refine And.intro (fun cd => absurd cd (by decide)) (fun _ => ?_) | refine And.intro (fun _ => ?_) (fun cd => absurd cd (by decide)) | refine And.intro (fun cd => ?_) (fun cd => ?_)
      have hx := of_nn c1
      have hz := of_nn c3
      have ha : x.toInt.toNat < 6 := by omega
      have hb : z.toInt.toNat < 6 := by omega
      have hxi : x.toInt = (x.toInt.toNat : Int) := by omega
      have hzi : z.toInt = (z.toInt.toNat : Int) := by omega
      generalize x.toInt.toNat = a at hx ha hxi
      generalize z.toInt.toNat = b at hz hb hzi
      obtain ⟨sa1, sa2⟩ := hs a ha
      obtain ⟨sb1, sb2⟩ := hs b hb
      have hra := rb_le (k := a) (by omega)
      have hrb := rb_le (k := b) (by omega)
      have hca : cp a = 60 := if_pos ha
      have hcb : cp b = 60 := if_pos hb
      refine And.intro (fun cn => ?_) (fun cn => ?_)
      · refine ⟨a, hxi, (by omega : a < 10), ?_⟩
        refine And.intro (fun cA => ?_) (fun cA => ?_)
        · exact sm_finds 1 rfl (by decide) (h1 a b ha hb hx hz cn (Or.inl cA))
        · refine ⟨b, hzi, (by omega : b < 10), ?_⟩
          refine And.intro (fun cB => ?_) (fun cB => ?_)
          · have h2' := h2 a b ha hb hx hz cn cA cB
            refine And.intro (fun d1 => sm_finds 2 rfl (by decide) (h2' (by omega))) (fun d1 => ?_)
            refine And.intro (fun d2 => sm_finds 2 rfl (by decide) (h2' (by omega))) (fun d2 => ?_)
            refine ⟨a, hxi, (by omega : a < 10), ?_⟩
            refine And.intro (fun d3 => sm_finds 2 rfl (by decide) (h2' (by have := lcmp_gt.mp d3; rw [i64_add, i64] at this; omega))) (fun d3 => ?_)
            have d3' : ¬ (I 63 a).toInt < y.toInt + n.toInt := fun q => by
              have : 0 < (lg_cmp (y.toInt64 + n.toInt64) (I 63 a).toInt64).toInt := lcmp_gt.mpr (by rw [i64_add, i64]; exact q)
              omega
            refine ⟨b, hzi, (by omega : b < 10), ?_⟩
            have hy := of_nn d1
            have hw := of_nn d2
            have hn := of_nn cn
            have lp : ∀ (up : Bool), (up = true → w.toInt ≤ y.toInt) → (up = false → y.toInt < w.toInt) → (w.toInt + n.toInt ≤ (I 63 b).toInt) → ∀ d i v d8 (I' : am_I), n.toInt.toNat - i = d → i ≤ n.toInt.toNat → v = nI i → frN [64] I I' →
                (∀ p, (if up then p < i else n.toInt.toNat - i ≤ p ∧ p < n.toInt.toNat) → I' 64 (rb b + w.toInt.toNat + p) = I 64 (rb a + y.toInt.toNat + p)) →
                (∀ q, (∀ p, (if up then p < i else n.toInt.toNat - i ≤ p ∧ p < n.toInt.toNat) → q ≠ rb b + w.toInt.toNat + p) → I' 64 q = I 64 q) →
                bm_W G l 78 117 [some (.ref 61), some (.int x), some (.int y), some (.int z), some (.int w), some (.int n), some (.int (bI up)), some (.int v), d8] [] t I' L Q := by
              intro up hu1 hu2 d4 d
              induction d with
              | zero =>
                intro i v d8 I' hd hi hv f1 f2 f3
                obtain rfl : i = n.toInt.toNat := by omega
                subst hv
                refine bm_go (am_ok_all 78 (by decide)) 30 ?_
                refine And.intro (fun e => ?_) (fun e => ?_)
                · refine h0 a b ha hb hx hz cn cA cB d1 d2 (by omega) d4 I' f1 (fun p hp => f2 p ?_) (fun q hq => f3 q (fun p hp => ?_))
                  · cases up
                    · exact ⟨by omega, hp⟩
                    · exact hp
                  · cases up
                    · have := hp.2
                      omega
                    · have : p < n.toInt.toNat := hp
                      omega
                · rw [nI_toInt (by omega)] at e
                  omega
              | succ d ih =>
                intro i v d8 I' hd hi hv f1 f2 f3
                subst hv
                have step : ∀ p0 : Nat, p0 < n.toInt.toNat → (if up then p0 = i else p0 = n.toInt.toNat - 1 - i) → ∀ d8, bm_W G l 78 117 [some (.ref 61), some (.int x), some (.int y), some (.int z), some (.int w), some (.int n), some (.int (bI up)), some (.int (nI i + 1)), d8] [] t (am_u I' 64 (rb b + w.toInt.toNat + p0) (I' 64 (rb a + y.toInt.toNat + p0))) L Q := by
                  intro p0 hp0 he d8
                  have hsrc : I' 64 (rb a + y.toInt.toNat + p0) = I 64 (rb a + y.toInt.toNat + p0) := by
                    apply f3
                    intro p hp e
                    have := rb_dis (k := a) (q := b) (i := y.toInt.toNat + p0) (j := w.toInt.toNat + p) (by omega) (by omega) (by omega) (by
                      cases up
                      · have := hp.2
                        omega
                      · have : p < i := hp
                        omega) (by omega)
                    cases up
                    · have h1 := hp.1
                      have h2 : p0 = n.toInt.toNat - 1 - i := he
                      have h3 := hu2 rfl
                      omega
                    · have h1 : p < i := hp
                      have h2 : p0 = i := he
                      have h3 := hu1 rfl
                      omega
                  have hdone : ∀ p, (if up then p < i + 1 else n.toInt.toNat - (i + 1) ≤ p ∧ p < n.toInt.toNat) ↔ (p = p0 ∨ (if up then p < i else n.toInt.toNat - i ≤ p ∧ p < n.toInt.toNat)) := by
                    intro p
                    cases up
                    · have h2 : p0 = n.toInt.toNat - 1 - i := he
                      simp only [Bool.false_eq_true, if_false]
                      omega
                    · have h2 : p0 = i := he
                      simp only [if_true]
                      omega
                  refine ih (i + 1) _ d8 _ (by omega) (by omega) (nI_succ i).symm (f1.u (by decide)) (fun p hp => ?_) (fun q hq => ?_)
                  · by_cases e : p = p0
                    · subst e
                      rw [u_eq, hsrc]
                    · rw [u_nj (by omega)]
                      rcases (hdone p).mp hp with q | q
                      · exact absurd q e
                      · exact f2 p q
                  · rw [u_nj (hq p0 ((hdone p0).mpr (Or.inl rfl)))]
                    exact f3 q (fun p hp => hq p ((hdone p).mpr (Or.inr hp)))
                refine bm_go (am_ok_all 78 (by decide)) 60 ?_
                refine And.intro (fun e => ?_) (fun e => ?_)
                · rw [nI_toInt (by omega)] at e
                  omega
                · cases up with
                  | true =>
                    first | refine And.intro (fun cd => absurd cd (by decide)) (fun _ => ?_) | refine And.intro (fun _ => ?_) (fun cd => absurd cd (by decide)) | refine And.intro (fun cd => ?_) (fun cd => ?_)
                    refine sm_base b hz (by omega) ?_
                    refine sm_base a hx (by omega) ?_
                    refine ⟨rb a + y.toInt.toNat + i, ?_, (by omega : rb a + y.toInt.toNat + i < 680), ?_⟩
                    · exact ix_add2 (by omega) (by omega)
                    refine ⟨rb b + w.toInt.toNat + i, ?_, (by omega : rb b + w.toInt.toNat + i < 680), ?_⟩
                    · exact ix_add2 (by omega) (by omega)
                    exact step i (by omega) rfl _
                  | false =>
                    have ep : n - 1 - nI i = nI (n.toInt.toNat - 1 - i) := by
                      generalize n.toInt.toNat = nn at *
                      rw [hn, k1, pk_sub (by omega), pk_sub (by omega)]
                    first | refine And.intro (fun cd => absurd cd (by decide)) (fun _ => ?_) | refine And.intro (fun _ => ?_) (fun cd => absurd cd (by decide)) | refine And.intro (fun cd => ?_) (fun cd => ?_)
                    refine sm_base b hz (by omega) ?_
                    refine sm_base a hx (by omega) ?_
                    refine ⟨rb a + y.toInt.toNat + (n.toInt.toNat - 1 - i), ?_, (by omega : rb a + y.toInt.toNat + (n.toInt.toNat - 1 - i) < 680), ?_⟩
                    · show (nI (rb a) + y + (n - 1 - nI i)).toInt = _
                      rw [ep]
                      exact ix_add2 (by omega) (by omega)
                    refine ⟨rb b + w.toInt.toNat + (n.toInt.toNat - 1 - i), ?_, (by omega : rb b + w.toInt.toNat + (n.toInt.toNat - 1 - i) < 680), ?_⟩
                    · show (nI (rb b) + w + (n - 1 - nI i)).toInt = _
                      rw [ep]
                      exact ix_add2 (by omega) (by omega)
                    exact step _ (by omega) rfl _
            refine And.intro (fun d4 => ?_) (fun d4 => sm_finds 2 rfl (by decide) (h2' (by have := lcmp_gt.mp d4; rw [i64_add, i64] at this; omega)))
            have d4' : w.toInt + n.toInt ≤ (I 63 b).toInt := by
              by_cases q : w.toInt + n.toInt ≤ (I 63 b).toInt
              · exact q
              · have : 0 < (lg_cmp (w.toInt64 + n.toInt64) (I 63 b).toInt64).toInt := lcmp_gt.mpr (by rw [i64_add, i64]; omega)
                omega
            refine And.intro (fun e => ?_) (fun e => ?_)
            · exact lp false (fun q => by cases q) (fun _ => e) d4' _ 0 _ _ I rfl (Nat.zero_le _) rfl (frN.refl _ _) (fun p hp => by have := hp.1; have := hp.2; omega) (fun _ _ => rfl)
            · exact lp true (fun _ => e) (fun q => by cases q) d4' _ 0 _ _ I rfl (Nat.zero_le _) rfl (frN.refl _ _) (fun p hp => by have : p < 0 := hp; omega) (fun _ _ => rfl)
          · exact sm_finds 1 rfl (by decide) (h1 a b ha hb hx hz cn (Or.inr cB))
      · exact sm_finds 5 rfl (by decide) (hneg a b ha hb hx hz (by omega))
    · first | refine And.intro (fun cd => absurd cd (by decide)) (fun _ => ?_) | refine And.intro (fun _ => ?_) (fun cd => absurd cd (by decide)) | refine And.intro (fun cd => ?_) (fun cd => ?_)
      exact hbad (by omega)
  · first | refine And.intro (fun cd => absurd cd (by decide)) (fun _ => ?_) | refine And.intro (fun _ => ?_) (fun cd => absurd cd (by decide)) | refine And.intro (fun cd => ?_) (fun cd => ?_)
    exact hbad (by omega)
theorem InvR.copy {I I' : am_I} {a b i j n : Nat} (h : InvR I) (ha : a < 6) (hb : b < 6) (hi : ((i + n : Nat) : Int) ≤ (I 63 a).toInt) (hj : ((j + n : Nat) : Int) ≤ (I 63 b).toInt) (hf : frN [64] (bm_cpy I (39 + 2 * a) (39 + 2 * b) i j n) I')
    (f2 : ∀ p, p < n → I' 64 (rb b + j + p) = I 64 (rb a + i + p)) (f3 : ∀ q, (q < rb b + j ∨ rb b + j + n ≤ q) → I' 64 q = I 64 q) : InvR I' := by
  have hne : ∀ x, x ≠ 39 + 2 * b → bm_cpy I (39 + 2 * a) (39 + 2 * b) i j n x = I x := fun x hx => by
    funext y
    unfold bm_cpy
    rw [if_neg hx]
  intro q hq
  obtain ⟨g1, g2, g3, g4, g5⟩ := h q hq
  have e1 : I' (38 + 2 * q) = I (38 + 2 * q) := by rw [hf _ (by simp; omega), hne _ (by omega)]
  have e2 : I' 63 = I 63 := by rw [hf _ (by decide), hne _ (by omega)]
  have e3 : I' (39 + 2 * q) = bm_cpy I (39 + 2 * a) (39 + 2 * b) i j n (39 + 2 * q) := hf _ (by simp; omega)
  rw [e1, e2, e3]
  by_cases e : q = b
  · subst e
    have hc : bm_cpy I (39 + 2 * a) (39 + 2 * q) i j n (39 + 2 * q) = va_cpy (I (39 + 2 * a)) (I (39 + 2 * q)) i j n := by
      funext y
      unfold bm_cpy
      rw [if_pos rfl]
    rw [hc]
    refine ⟨g1, g2, g3, fun y hy => ?_, fun h6 => by omega⟩
    by_cases c : j ≤ y ∧ y < j + n
    · rw [pk_cpy_in c.1 c.2, (h a (by omega)).2.2.2.1 _ (by omega)]
      have := f2 (y - j) (by omega)
      rw [show rb q + j + (y - j) = rb q + y by omega, show rb a + i + (y - j) = rb a + (i + (y - j)) by omega] at this
      exact this.symm
    · rw [pk_cpy_out (by omega), f3 _ (by omega)]
      exact g4 y hy
  · rw [hne _ (by omega)]
    have key : ∀ y : Nat, (y : Int) < (I 63 q).toInt → I' 64 (rb q + y) = I 64 (rb q + y) := by
      intro y hy
      apply f3
      by_cases q1 : rb q + y < rb b + j
      · exact Or.inl q1
      · by_cases q2 : rb b + j + n ≤ rb q + y
        · exact Or.inr q2
        · exfalso
          have hb2 := (h b (by omega)).2.2.1
          have := rb_dis (k := q) (q := b) (i := y) (j := rb q + y - rb b) hq (by omega) (by omega) (by omega) (by omega)
          exact e this.1
    refine ⟨g1, g2, g3, fun y hy => ?_, fun h6 y hy => ?_⟩
    · rw [key y hy]; exact g4 y hy
    · rw [key y hy]; exact g5 h6 y hy
theorem pair_copy {x y z w n : Int32} (h : Inv t I L) : bm_C G l 5 [.ref 0, .int x, .int y, .int z, .int w, .int n] t I L (pI G l 78 [.ref 61, .int x, .int y, .int z, .int w, .int n]) := by
  have hb := fun k hk => h.1.b6 (k := k) hk
  have eK : ∀ (x : Int32) (k : Nat), k < 6 → x = nI k → ∀ k2, k2 < 6 → x = nI k2 → k2 = k := fun x k hk hx k2 hk2 hx2 => by
    have h1 := nI_toInt (n := k2) (by omega)
    have h2 := nI_toInt (n := k) (by omega)
    rw [← hx2, hx] at h1
    omega
  have eR : ∀ (x : Int32) (k : Nat), k < 6 → x = nI k → 0 ≤ x.toInt ∧ x.toInt < 6 := fun x k hk hx => by
    have h2 := nI_toInt (n := k) (by omega)
    rw [hx]
    omega
  refine sp_copy (fun k hk => by rw [(hb k hk).1]; exact (hb k hk).2) (fun cd => ?_) (fun a b ha hb' hx hz cn => ?_) (fun a b ha hb' hx hz cn cs => ?_) (fun a b ha hb' hx hz cn c1 c2 cs => ?_) (fun a b ha hb' hx hz cn c1 c2 c3 c4 c5 c6 => ?_)
  · refine ⟨_, rfl, sm_copy (fun k hk => (hb k hk).2) (fun c => ⟨rfl, h⟩) (fun a b ha hb hx hz => ?_) (fun a b ha hb hx hz => ?_) (fun a b ha hb hx hz => ?_) (fun a b ha hb hx hz => ?_)⟩
    all_goals (have := eR x a ha hx; have := eR z b hb hz; omega)
  · have r1 := eR x a ha hx
    have r2 := eR z b hb' hz
    refine ⟨_, rfl, sm_copy (fun k hk => ?_) (fun c => by omega) (fun a2 b2 ha2 hb2 hx2 hz2 d => ?_) (fun a2 b2 ha2 hb2 hx2 hz2 d => by omega) (fun a2 b2 ha2 hb2 hx2 hz2 d => by omega) (fun a2 b2 ha2 hb2 hx2 hz2 d => by omega)⟩
    · rw [fd (by decide) (by decide)]; exact (hb k hk).2
    · exact ⟨rfl, h.find (by decide) (by decide) 5⟩
  · have r1 := eR x a ha hx
    have r2 := eR z b hb' hz
    rw [(hb a ha).1, (hb b hb').1] at cs
    refine ⟨_, rfl, sm_copy (fun k hk => ?_) (fun c => by omega) (fun a2 b2 ha2 hb2 hx2 hz2 d => by omega) (fun a2 b2 ha2 hb2 hx2 hz2 d d2 => ?_) (fun a2 b2 ha2 hb2 hx2 hz2 d d2 d3 => ?_) (fun a2 b2 ha2 hb2 hx2 hz2 d d2 d3 => ?_)⟩
    · rw [fd (by decide) (by decide)]; exact (hb k hk).2
    · exact ⟨rfl, h.find (by decide) (by decide) 1⟩
    all_goals (rw [fd (by decide) (by decide)] at d2 d3; obtain rfl := eK x a ha hx a2 ha2 hx2; obtain rfl := eK z b hb' hz b2 hb2 hz2; omega)
  · have r1 := eR x a ha hx
    have r2 := eR z b hb' hz
    rw [(hb a ha).1, (hb b hb').1] at cs
    rw [(hb a ha).1] at c1
    rw [(hb b hb').1] at c2
    refine ⟨_, rfl, sm_copy (fun k hk => ?_) (fun c => by omega) (fun a2 b2 ha2 hb2 hx2 hz2 d => by omega) (fun a2 b2 ha2 hb2 hx2 hz2 d d2 => ?_) (fun a2 b2 ha2 hb2 hx2 hz2 d d2 d3 d4 => ?_) (fun a2 b2 ha2 hb2 hx2 hz2 d d2 d3 d4 d5 d6 d7 => ?_)⟩
    · rw [fd (by decide) (by decide)]; exact (hb k hk).2
    · rw [fd (by decide) (by decide)] at d2
      obtain rfl := eK x a ha hx a2 ha2 hx2
      obtain rfl := eK z b hb' hz b2 hb2 hz2
      omega
    · exact ⟨rfl, h.find (by decide) (by decide) 2⟩
    · rw [fd (by decide) (by decide)] at d2 d3 d6 d7
      obtain rfl := eK x a ha hx a2 ha2 hx2
      obtain rfl := eK z b hb' hz b2 hb2 hz2
      omega
  · have r1 := eR x a ha hx
    have r2 := eR z b hb' hz
    rw [(hb a ha).1] at c1 c5
    rw [(hb b hb').1] at c2 c6
    have hne : ∀ x, x ≠ 39 + 2 * b → bm_cpy I (39 + 2 * a) (39 + 2 * b) y.toInt.toNat w.toInt.toNat n.toInt.toNat x = I x := fun x hx => by
      funext y
      unfold bm_cpy
      rw [if_neg hx]
    have e63 := hne 63 (by omega)
    have e64 := hne 64 (by omega)
    refine ⟨_, rfl, sm_copy (fun k hk => ?_) (fun c => by omega) (fun a2 b2 ha2 hb2 hx2 hz2 d => by omega) (fun a2 b2 ha2 hb2 hx2 hz2 d d2 => ?_) (fun a2 b2 ha2 hb2 hx2 hz2 d d2 d3 d4 => ?_) (fun a2 b2 ha2 hb2 hx2 hz2 d d2 d3 d4 d5 d6 d7 I' f1 f2 f3 => ?_)⟩
    · rw [e63]; exact (hb k hk).2
    · rw [e63] at d2
      obtain rfl := eK x a ha hx a2 ha2 hx2
      obtain rfl := eK z b hb' hz b2 hb2 hz2
      omega
    · rw [e63] at d4
      obtain rfl := eK x a ha hx a2 ha2 hx2
      obtain rfl := eK z b hb' hz b2 hb2 hz2
      omega
    · obtain rfl := eK x a ha hx a2 ha2 hx2
      obtain rfl := eK z b hb' hz b2 hb2 hz2
      rw [e64] at f2 f3
      refine ⟨rfl, h.1.copy ha hb' (by omega) (by omega) f1 f2 f3, ?_, ?_⟩
      · refine h.2.1.fr ⟨?_, ?_⟩ ?_ ⟨?_, ?_⟩ ?_
        all_goals rw [f1 _ (by decide), hne _ (by omega)]
      · refine h.2.2.fr (agX.trans ?_ (f1.ag (by decide) (by decide) (by decide) (by decide)))
        have hf : frN [39 + 2 * b2] I (bm_cpy I (39 + 2 * a2) (39 + 2 * b2) y.toInt.toNat w.toInt.toNat n.toInt.toNat) := fun x hx => hne x (fun e => hx (by simp [e]))
        refine hf.ag (fun x hx => ?_) (by simp; omega) (by simp; omega) (by simp; omega)
        obtain rfl : x = 39 + 2 * b2 := by simpa using hx
        exact in38 (by omega) (by omega)
end PC

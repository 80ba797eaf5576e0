/-! pair: fault -/
theorem frN.R {I I' : am_I} (f : frN [3, 4, 5, 6] I I') {x : Nat} (hx : x < 3 ∨ 6 < x) : I' x = I x := f x (by simp; omega)
theorem Inv.parse {t : am_T} {I I1 I2 : am_I} {L : am_J} (h : Inv t I L) (v : Option Nat) (f : frN [3, 4, 5, 6] I I1) (g : frQ I1 I2) : Inv (v, t.2) I2 L := by
  have r : ∀ x, x < 3 ∨ 6 < x → x ≠ 61 → x ≠ 65 → I2 x = I x := fun x a b c => (g.1 x b c).trans (f.R a)
  have m : ∀ j, j < 7 ∨ 10 ≤ j → I2 61 j = I 61 j := fun j hj => by rw [g.2 j hj, f.R (by decide)]
  refine ⟨h.1.fr (fun x a b => r x (by omega) (by omega) (by omega)) (r 63 (by decide) (by decide) (by decide)) (r 64 (by decide) (by decide) (by decide)), ?_, ?_⟩
  · exact h.2.1.fr ⟨by rw [r 36 (by decide) (by decide) (by decide)], by rw [r 36 (by decide) (by decide) (by decide)]⟩ (r 37 (by decide) (by decide) (by decide)) ⟨m 0 (by decide), m 3 (by decide)⟩ (r 62 (by decide) (by decide) (by decide))
  · have hx : InvX t I2 := h.2.2.fr ⟨fun x hx => r x (by unfold exX at hx; simp at hx; omega) (by unfold exX at hx; simp at hx; omega) (by unfold exX at hx; simp at hx; omega), by rw [r 15 (by decide) (by decide) (by decide)], fun j _ => by rw [r 25 (by decide) (by decide) (by decide)], fun j a b => m j (by omega)⟩
    exact hx
/-- a text both know -/
theorem Inv.txt {t : am_T} {I : am_I} {L : am_J} (h : Inv t I L) {k : Nat} (hk : k < 4) (hs : 0 ≤ (I (38 + 2 * (6 + k)) 1).toInt) : ∃ n, n ≤ 80 ∧ I 63 (6 + k) = nI n ∧ txC k n (fun p => (I 64 (rb (6 + k) + p)).toInt) I := by
  obtain ⟨e1, e2, e3, e4, e5⟩ := h.1 (6 + k) (by omega)
  have c80 : cp (6 + k) = 80 := if_neg (by omega)
  rw [c80] at e3
  rw [e1] at hs
  have hn := of_nn hs
  have hv : (I 63 (6 + k)).toInt = ((I 63 (6 + k)).toInt.toNat : Int) := by omega
  refine ⟨(I 63 (6 + k)).toInt.toNat, by omega, hn, by rw [e1]; exact hn, fun p hp => ?_⟩
  have := e5 (by omega) p (by omega)
  exact ⟨by rw [e4 p (by omega)], this.1, this.2⟩
section PF
variable {G : am_G} {l : Launch} {t : am_T} {I : am_I} {L : am_J} {Q : bm_P}
theorem pair_fault {x : Int32} (h : Inv t I L) : bm_C G l 9 [.ref 0, .int x] t I L (pI G l 90 [.ref 61, .int x]) := by
  have sz : ∀ k, k < 4 → I (38 + 2 * (6 + k)) 1 = I 63 (6 + k) := fun k hk => (h.1 (6 + k) (by omega)).1
  have ik : ∀ k, k < 4 → x = nI k → (6 + x).toInt = ((6 + k : Nat) : Int) := fun k hk hx => by rw [hx, show (6 : Int32) = nI 6 from rfl, nI_add, nI_toInt (by omega)]
  have neg : ∀ k, k < 4 → x = nI k → (I (38 + 2 * (6 + k)) 1).toInt < 0 → pI G l 90 [.ref 61, .int x] (some (.int (-3))) t (am_u (am_u I 36 3 1) 37 1 (I 37 1 + 1)) L := by
    intro k hk hx cd
    refine ⟨_, rfl, ?_⟩
    have hk6 := nI_toInt (n := k) (by omega)
    rw [sz k hk] at cd
    refine bm_go (am_ok_all 90 (by decide)) 40 ?_
    refine sm_isText (fun a b => ?_) (fun a => by rw [hx] at a; omega)
    first | refine And.intro (fun cd => absurd cd (by decide)) (fun _ => ?_) | refine And.intro (fun _ => ?_) (fun cd => absurd cd (by decide)) | refine And.intro (fun cd => ?_) (fun cd => ?_)
    refine ⟨6 + k, ik k hk hx, (by omega : 6 + k < 10), ?_⟩
    refine And.intro (fun c => ?_) (fun _ => ?_)
    · have c : 0 ≤ (I 63 (6 + k)).toInt := c
      omega
    refine sm_finds 1 rfl (by decide) ?_
    exact ⟨rfl, h.find (by decide) (by decide) 1⟩
  have good : ∀ k, k < 4 → x = nI k → 0 ≤ (I (38 + 2 * (6 + k)) 1).toInt → ∀ Q' : bm_P, (∀ v t' I' L', pI G l 90 [.ref 61, .int x] v t' I' L' → ∀ y, v = some (.int y) → Q' (some (.int y)) t' I' L') → bm_C G l 202 [.ref 3, .ref (38 + 2 * (6 + k))] t I L Q' := by
    intro k hk hx cd Q' kont
    obtain ⟨n, hn, e63, ht⟩ := h.txt hk cd
    have hk6 := nI_toInt (n := k) (by omega)
    have run : ∀ (y : Int32) (t' : am_T) (I1 : am_I), t' = (some (38 + 2 * (6 + k)), t.2) → frN [3, 4, 5, 6] I I1 → (∀ q T, pP n (fun p => (I 64 (rb (6 + k) + p)).toInt) = (q, some T) → y = -9) → (∀ q, pP n (fun p => (I 64 (rb (6 + k) + p)).toInt) = (q, none) → y = nI q) → pI G l 90 [.ref 61, .int x] (some (.int y)) t' I1 L := by
      intro y t' I1 et f y1 y0
      subst et
      refine ⟨_, rfl, ?_⟩
      have c63 : I1 63 (6 + k) = nI n := by rw [f.R (by decide)]; exact e63
      refine bm_go (am_ok_all 90 (by decide)) 40 ?_
      refine sm_isText (fun a b => ?_) (fun a => by rw [hx] at a; omega)
      first | refine And.intro (fun cd => absurd cd (by decide)) (fun _ => ?_) | refine And.intro (fun _ => ?_) (fun cd => absurd cd (by decide)) | refine And.intro (fun cd => ?_) (fun cd => ?_)
      refine ⟨6 + k, ik k hk hx, (by omega : 6 + k < 10), ?_⟩
      refine And.intro (fun _ => ?_) (fun c => ?_)
      · refine sm_faultOf k n (fun p => (I 64 (rb (6 + k) + p)).toInt) hk hx hn c63 (fun p hp => ?_) (fun q T I2 e g _ => ?_) (fun q I2 e hq g => ?_)
        · rw [f.R (by decide)]
          exact ⟨rfl, (ht.2 p hp).2⟩
        · refine ⟨?_, h.parse _ f g⟩
          rw [y1 q T e]
        · refine ⟨?_, h.parse _ f g⟩
          rw [y0 q e]
      · have c : (I1 63 (6 + k)).toInt < 0 := c
        rw [c63, nI_toInt (by omega)] at c
        omega
    refine sp_read k n _ hk hn ht (fun q T I1 e f _ _ _ _ _ _ => ?_) (fun q I1 e hq f => ?_)
    · exact kont _ _ _ _ (run (-9) _ I1 rfl f (fun _ _ _ => rfl) (fun q' e' => by rw [e] at e'; cases e')) _ rfl
    · exact kont _ _ _ _ (run (nI q) _ I1 rfl f (fun q' T' e' => by rw [e] at e'; cases e') (fun q' e' => by rw [e] at e'; cases e'; rfl)) _ rfl
  refine bm_go (am_ok_all 9 (by decide)) 40 ?_
  refine sp_picked_t x (fun cd => ?_) (fun k hk hx => ?_)
  · refine sp_refNull ?_
    refine ⟨_, rfl, ?_⟩
    refine bm_go (am_ok_all 90 (by decide)) 40 ?_
    refine sm_isText (fun a b => by omega) (fun a => ?_)
    first | refine And.intro (fun cd => absurd cd (by decide)) (fun _ => ?_) | refine And.intro (fun _ => ?_) (fun cd => absurd cd (by decide)) | refine And.intro (fun cd => ?_) (fun cd => ?_)
    exact ⟨rfl, h⟩
  match k, hk with
  | 0, _ =>
    refine sp_ref (6 + 0) (by decide) (fun cd => ?_) (fun cd => ?_)
    · first | refine And.intro (fun cd => absurd cd (by decide)) (fun _ => ?_) | refine And.intro (fun _ => ?_) (fun cd => absurd cd (by decide)) | refine And.intro (fun cd => ?_) (fun cd => ?_)
      exact neg 0 (by decide) hx cd
    · first | refine And.intro (fun cd => absurd cd (by decide)) (fun _ => ?_) | refine And.intro (fun _ => ?_) (fun cd => absurd cd (by decide)) | refine And.intro (fun cd => ?_) (fun cd => ?_)
      refine good 0 (by decide) hx cd _ (fun v t' I' L' hp y hy => ?_)
      subst hy
      exact hp
  | 1, _ =>
    refine sp_ref (6 + 1) (by decide) (fun cd => ?_) (fun cd => ?_)
    · first | refine And.intro (fun cd => absurd cd (by decide)) (fun _ => ?_) | refine And.intro (fun _ => ?_) (fun cd => absurd cd (by decide)) | refine And.intro (fun cd => ?_) (fun cd => ?_)
      exact neg 1 (by decide) hx cd
    · first | refine And.intro (fun cd => absurd cd (by decide)) (fun _ => ?_) | refine And.intro (fun _ => ?_) (fun cd => absurd cd (by decide)) | refine And.intro (fun cd => ?_) (fun cd => ?_)
      refine good 1 (by decide) hx cd _ (fun v t' I' L' hp y hy => ?_)
      subst hy
      exact hp
  | 2, _ =>
    refine sp_ref (6 + 2) (by decide) (fun cd => ?_) (fun cd => ?_)
    · first | refine And.intro (fun cd => absurd cd (by decide)) (fun _ => ?_) | refine And.intro (fun _ => ?_) (fun cd => absurd cd (by decide)) | refine And.intro (fun cd => ?_) (fun cd => ?_)
      exact neg 2 (by decide) hx cd
    · first | refine And.intro (fun cd => absurd cd (by decide)) (fun _ => ?_) | refine And.intro (fun _ => ?_) (fun cd => absurd cd (by decide)) | refine And.intro (fun cd => ?_) (fun cd => ?_)
      refine good 2 (by decide) hx cd _ (fun v t' I' L' hp y hy => ?_)
      subst hy
      exact hp
  | 3, _ =>
    refine sp_ref (6 + 3) (by decide) (fun cd => ?_) (fun cd => ?_)
    · first | refine And.intro (fun cd => absurd cd (by decide)) (fun _ => ?_) | refine And.intro (fun _ => ?_) (fun cd => absurd cd (by decide)) | refine And.intro (fun cd => ?_) (fun cd => ?_)
      exact neg 3 (by decide) hx cd
    · first | refine And.intro (fun cd => absurd cd (by decide)) (fun _ => ?_) | refine And.intro (fun _ => ?_) (fun cd => absurd cd (by decide)) | refine And.intro (fun cd => ?_) (fun cd => ?_)
      refine good 3 (by decide) hx cd _ (fun v t' I' L' hp y hy => ?_)
      subst hy
      exact hp
end PF

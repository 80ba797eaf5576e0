/-! pair: town -/
section PT
variable {G : am_G} {l : Launch} {t : am_T} {I : am_I} {L : am_J} {Q : bm_P}
def exU : List Nat := [0, 3, 4, 5, 6, 7, 8, 9, 10, 11, 13, 16, 17, 18, 22, 25]
theorem Inv.town {T : tT} {I1 I2 : am_I} (h : Inv t I L) (v : Option Nat) (hT : tOk T) (f : frN exU I I1) (hc : cT T I1) (a1 : I1 0 14 = 0) (hL : cL T 0 13 I1) (hst : I1 25 1 = 1) (s17 : sC (tD T, 0, -9, false) 17 I1) (s18 : sC (tD T, 0, -9, false) 18 I1) (e16 : I1 16 1 = 0) (e22 : I1 22 0 = 0) (e13 : I1 0 13 = 0) (g : frT I1 I2) (hm : mT T I2) (a2 : I2 61 19 = 0) (a42 : I2 61 42 = 0) (hk : ∀ k, k < 3 → I2 70 k = -9) (m1 : I2 61 23 = nI (tD T)) (m2 : I2 61 24 = 0) (m3 : I2 61 25 = -9) (m4 : I2 61 26 = 0) (m5 : I2 61 27 = 0) (m6 : I2 61 29 = nI (tD T)) (m7 : I2 61 30 = 0) (m8 : I2 61 31 = -9) (m9 : I2 61 32 = 0) : Inv (v, t.2) I2 L := by
  have r : ∀ x, x ∉ exU → x ∉ exT → I2 x = I x := fun x a b => (g.1 x b).trans (f x a)
  have c : ∀ x, x ∉ exT → I2 x = I1 x := g.1
  have m : ∀ j, j < 7 → I2 61 j = I 61 j := fun j hj => by rw [g.2 j hj, f 61 (by decide)]
  obtain ⟨T0, sh0, _, _, _, _, _, _, a15, _⟩ := h.2.2
  refine ⟨h.1.fr (fun x a b => r x (by unfold exU; simp; omega) (by unfold exT; simp; omega)) (r 63 (by decide) (by decide)) (r 64 (by decide) (by decide)), ?_, T, 0, ?_, hm, Nat.two_pow_pos _, by rw [c 0 (by decide)]; exact a1, a2, ?_, by rw [r 15 (by decide) (by decide)]; exact a15, ?_, ?_, Or.inl (by rw [c 25 (by decide)]; exact hst), Or.inl ⟨hT, InvG.new hT ?_ ?_ ?_ m1 m2 m3 m4 m5 m6 m7 m8 m9⟩⟩
  · exact h.2.1.fr ⟨by rw [r 36 (by decide) (by decide)], by rw [r 36 (by decide) (by decide)]⟩ (r 37 (by decide) (by decide)) ⟨m 0 (by decide), m 3 (by decide)⟩ (r 62 (by decide) (by decide))
  · unfold cT cG cLp at hc ⊢
    rw [c 7 (by decide), c 8 (by decide), c 9 (by decide), c 10 (by decide), c 11 (by decide)]
    exact hc
  · unfold cL at hL ⊢
    rw [c 13 (by decide)]
    exact hL
  · refine ⟨0, by decide, by rw [c 0 (by decide)]; exact e13, fun k hk2 => ?_⟩
    rw [if_neg (by simp)]
    exact hk k hk2
  · exact ⟨0, by decide, by rw [c 22 (by decide)]; exact e22, a42, fun i hi => by omega⟩
  · unfold sC at s17 ⊢
    rw [c 17 (by decide)]
    exact s17
  · unfold sC at s18 ⊢
    rw [c 18 (by decide)]
    exact s18
  · rw [c 16 (by decide)]
    exact e16
theorem pair_town {x : Int32} (h : Inv t I L) : bm_C G l 10 [.ref 0, .int x] t I L (pI G l 91 [.ref 61, .int x]) := by
  have sz : ∀ k, k < 4 → I (38 + 2 * (6 + k)) 1 = I 63 (6 + k) := fun k hk => (h.1 (6 + k) (by omega)).1
  have ik : ∀ k, k < 4 → x = nI k → (6 + x).toInt = ((6 + k : Nat) : Int) := fun k hk hx => by rw [hx, show (6 : Int32) = nI 6 from rfl, nI_add, nI_toInt (by omega)]
  have z13 : I 13 0 = nI 0 := by
    obtain ⟨T, sh, _, _, _, _, _, hL, _⟩ := h.2.2
    have := hL 0 (by decide)
    rw [lit_0] at this
    exact this
  have neg : ∀ k, k < 4 → x = nI k → (I (38 + 2 * (6 + k)) 1).toInt < 0 → pI G l 91 [.ref 61, .int x] (some (.int (-3))) t (am_u (am_u I 36 3 1) 37 1 (I 37 1 + 1)) L := by
    intro k hk hx cd
    refine ⟨_, rfl, ?_⟩
    have hk6 := nI_toInt (n := k) (by omega)
    rw [sz k hk] at cd
    refine bm_go (am_ok_all 91 (by decide)) 40 ?_
    refine sm_isText (fun a b => ?_) (fun a => by rw [hx] at a; omega)
    first | refine And.intro (fun cd => absurd cd (by decide)) (fun _ => ?_) | refine And.intro (fun _ => ?_) (fun cd => absurd cd (by decide)) | refine And.intro (fun cd => ?_) (fun cd => ?_)
    refine ⟨6 + k, ik k hk hx, (by omega : 6 + k < 10), ?_⟩
    refine And.intro (fun c => ?_) (fun _ => ?_)
    · have c : 0 ≤ (I 63 (6 + k)).toInt := c
      omega
    refine sm_finds 1 rfl (by decide) ?_
    exact ⟨rfl, h.find (by decide) (by decide) 1⟩
  have bad : ∀ k n q I1, k < 4 → x = nI k → n ≤ 80 → I 63 (6 + k) = nI n → txC k n (fun p => (I 64 (rb (6 + k) + p)).toInt) I → pP n (fun p => (I 64 (rb (6 + k) + p)).toInt) = (q, none) → frN [3, 4, 5, 6] I I1 → pI G l 91 [.ref 61, .int x] (some (.int (-4))) (some (38 + 2 * (6 + k)), t.2) I1 L := by
    intro k n q I1 hk hx hn e63 ht e f
    refine ⟨_, rfl, ?_⟩
    refine sm_town k n (fun p => (I 64 (rb (6 + k) + p)).toInt) hk hx hn (by rw [f.R (by decide)]; exact e63) (fun p hp => ?_) (fun q' T I2 e' _ _ _ _ _ _ _ _ _ _ _ _ _ _ => ?_) (fun q' I2 e' g => ?_)
    · rw [f.R (by decide)]
      exact ⟨rfl, (ht.2 p hp).2⟩
    · rw [e] at e'
      cases e'
    · exact ⟨rfl, h.parse _ f g⟩
  have good : ∀ k n q T I1, k < 4 → x = nI k → n ≤ 80 → I 63 (6 + k) = nI n → txC k n (fun p => (I 64 (rb (6 + k) + p)).toInt) I → pP n (fun p => (I 64 (rb (6 + k) + p)).toInt) = (q, some T) → frN exU I I1 → cT T I1 → I1 0 14 = 0 → cL T 0 13 I1 → I1 25 1 = 1 → sC (tD T, 0, -9, false) 17 I1 → sC (tD T, 0, -9, false) 18 I1 → I1 16 1 = 0 → I1 22 0 = 0 → I1 0 13 = 0 → pI G l 91 [.ref 61, .int x] (some (.int (I1 7 3))) (some (38 + 2 * (6 + k)), t.2) I1 L := by
    intro k n q T I1 hk hx hn e63 ht e f hc a1 hL hst s17 s18 e16 e22 e13
    refine ⟨_, rfl, ?_⟩
    refine sm_town k n (fun p => (I 64 (rb (6 + k) + p)).toInt) hk hx hn (by rw [f 63 (by decide)]; exact e63) (fun p hp => ?_) (fun q' T' I2 e' g hm a2 a42 hkk m1 m2 m3 m4 m5 m6 m7 m8 m9 => ?_) (fun q' I2 e' g => ?_)
    · rw [f 64 (by decide)]
      exact ⟨rfl, (ht.2 p hp).2⟩
    · rw [e] at e'
      cases e'
      refine ⟨by rw [hc.2.2.2.1], h.town _ (pP_ok e) f hc a1 hL hst s17 s18 e16 e22 e13 g hm a2 a42 hkk m1 m2 m3 m4 m5 m6 m7 m8 m9⟩
    · rw [e] at e'
      cases e'
  refine bm_go (am_ok_all 10 (by decide)) 60 ?_
  refine sp_picked_t x (fun cd => ?_) (fun k hk hx => ?_)
  · refine sp_refNull ?_
    refine ⟨_, rfl, ?_⟩
    refine bm_go (am_ok_all 91 (by decide)) 40 ?_
    refine sm_isText (fun a b => by omega) (fun a => ?_)
    first | refine And.intro (fun cd => absurd cd (by decide)) (fun _ => ?_) | refine And.intro (fun _ => ?_) (fun cd => absurd cd (by decide)) | refine And.intro (fun cd => ?_) (fun cd => ?_)
    exact ⟨rfl, h⟩
  match k, hk with
  | 0, hk =>
    refine sp_ref (6 + 0) (by decide) (fun cd => ?_) (fun cd => ?_)
    · first | refine And.intro (fun cd => absurd cd (by decide)) (fun _ => ?_) | refine And.intro (fun _ => ?_) (fun cd => absurd cd (by decide)) | refine And.intro (fun cd => ?_) (fun cd => ?_)
      exact neg 0 (by decide) hx cd
    · first | refine And.intro (fun cd => absurd cd (by decide)) (fun _ => ?_) | refine And.intro (fun _ => ?_) (fun cd => absurd cd (by decide)) | refine And.intro (fun cd => ?_) (fun cd => ?_)
      obtain ⟨n, hn, e63, ht⟩ := h.txt hk cd
      refine sp_read 0 n _ hk hn ht (fun q T I1 e f e0 e1 e2 e3 e4 er => ?_) (fun q I1 e hq f => ?_)
      · first | refine And.intro (fun cd => absurd cd (by decide)) (fun _ => ?_) | refine And.intro (fun _ => ?_) (fun cd => absurd cd (by decide)) | refine And.intro (fun cd => ?_) (fun cd => ?_)
        have hT := pP_ok e
        refine sp_build hT e0 e1 e2 e3 e4 er (fun I2 f2 hc => ?_)
        have f02 : frN exU I I2 := (f.mono (by decide)).trans (f2.mono (by decide))
        refine sp_lightsChanged 0 (Or.inl hT) (by exact hc) rfl (by decide) ?_ (fun I3 f3 hL hst => ?_)
        · show I2 13 0 = _
          rw [f2 13 (by decide), f 13 (by decide)]
          exact z13
        · have f23 : frN exU I I3 := (f02.u (a := 0) (j := 14) (v := 0) (by decide)).trans (fun x hx => f3 x (fun q => hx (by simp at q; rcases q with rfl | rfl <;> decide)))
          have hc3 : cT T I3 := by
            unfold cT cG cLp at hc ⊢
            rw [f3 7 (by decide), f3 8 (by decide), f3 9 (by decide), f3 10 (by decide), f3 11 (by decide)]
            exact hc
          refine sp_beginAt (tD T) hc3.2.2.1 (fun I4 f4 s17 s18 e16 => ?_)
          refine good 0 n q T _ hk hx hn e63 ht e (((f23.trans (f4.mono (by decide))).u (by decide)).u (by decide)) ?_ ?_ ?_ ?_ (by exact s17) (by exact s18) (by exact e16) rfl rfl
          · have hc4 : cT T I4 := by
              unfold cT cG cLp at hc3 ⊢
              rw [f4 7 (by decide), f4 8 (by decide), f4 9 (by decide), f4 10 (by decide), f4 11 (by decide)]
              exact hc3
            exact hc4
          · show I4 0 14 = 0
            rw [f4 0 (by decide), f3 0 (by decide)]
            rfl
          · intro s hs
            show I4 13 s = _
            rw [f4 13 (by decide)]
            exact hL s hs
          · show I4 25 1 = 1
            rw [f4 25 (by decide)]
            exact hst
      · refine And.intro (fun cd => ?_) (fun _ => ?_)
        · rw [nI_toInt (by omega)] at cd
          have cd : (q : Int) = -9 := cd
          omega
        · exact bad 0 n q I1 hk hx hn e63 ht e f
  | 1, hk =>
    refine sp_ref (6 + 1) (by decide) (fun cd => ?_) (fun cd => ?_)
    · first | refine And.intro (fun cd => absurd cd (by decide)) (fun _ => ?_) | refine And.intro (fun _ => ?_) (fun cd => absurd cd (by decide)) | refine And.intro (fun cd => ?_) (fun cd => ?_)
      exact neg 1 (by decide) hx cd
    · first | refine And.intro (fun cd => absurd cd (by decide)) (fun _ => ?_) | refine And.intro (fun _ => ?_) (fun cd => absurd cd (by decide)) | refine And.intro (fun cd => ?_) (fun cd => ?_)
      obtain ⟨n, hn, e63, ht⟩ := h.txt hk cd
      refine sp_read 1 n _ hk hn ht (fun q T I1 e f e0 e1 e2 e3 e4 er => ?_) (fun q I1 e hq f => ?_)
      · first | refine And.intro (fun cd => absurd cd (by decide)) (fun _ => ?_) | refine And.intro (fun _ => ?_) (fun cd => absurd cd (by decide)) | refine And.intro (fun cd => ?_) (fun cd => ?_)
        have hT := pP_ok e
        refine sp_build hT e0 e1 e2 e3 e4 er (fun I2 f2 hc => ?_)
        have f02 : frN exU I I2 := (f.mono (by decide)).trans (f2.mono (by decide))
        refine sp_lightsChanged 0 (Or.inl hT) (by exact hc) rfl (by decide) ?_ (fun I3 f3 hL hst => ?_)
        · show I2 13 0 = _
          rw [f2 13 (by decide), f 13 (by decide)]
          exact z13
        · have f23 : frN exU I I3 := (f02.u (a := 0) (j := 14) (v := 0) (by decide)).trans (fun x hx => f3 x (fun q => hx (by simp at q; rcases q with rfl | rfl <;> decide)))
          have hc3 : cT T I3 := by
            unfold cT cG cLp at hc ⊢
            rw [f3 7 (by decide), f3 8 (by decide), f3 9 (by decide), f3 10 (by decide), f3 11 (by decide)]
            exact hc
          refine sp_beginAt (tD T) hc3.2.2.1 (fun I4 f4 s17 s18 e16 => ?_)
          refine good 1 n q T _ hk hx hn e63 ht e (((f23.trans (f4.mono (by decide))).u (by decide)).u (by decide)) ?_ ?_ ?_ ?_ (by exact s17) (by exact s18) (by exact e16) rfl rfl
          · have hc4 : cT T I4 := by
              unfold cT cG cLp at hc3 ⊢
              rw [f4 7 (by decide), f4 8 (by decide), f4 9 (by decide), f4 10 (by decide), f4 11 (by decide)]
              exact hc3
            exact hc4
          · show I4 0 14 = 0
            rw [f4 0 (by decide), f3 0 (by decide)]
            rfl
          · intro s hs
            show I4 13 s = _
            rw [f4 13 (by decide)]
            exact hL s hs
          · show I4 25 1 = 1
            rw [f4 25 (by decide)]
            exact hst
      · refine And.intro (fun cd => ?_) (fun _ => ?_)
        · rw [nI_toInt (by omega)] at cd
          have cd : (q : Int) = -9 := cd
          omega
        · exact bad 1 n q I1 hk hx hn e63 ht e f
  | 2, hk =>
    refine sp_ref (6 + 2) (by decide) (fun cd => ?_) (fun cd => ?_)
    · first | refine And.intro (fun cd => absurd cd (by decide)) (fun _ => ?_) | refine And.intro (fun _ => ?_) (fun cd => absurd cd (by decide)) | refine And.intro (fun cd => ?_) (fun cd => ?_)
      exact neg 2 (by decide) hx cd
    · first | refine And.intro (fun cd => absurd cd (by decide)) (fun _ => ?_) | refine And.intro (fun _ => ?_) (fun cd => absurd cd (by decide)) | refine And.intro (fun cd => ?_) (fun cd => ?_)
      obtain ⟨n, hn, e63, ht⟩ := h.txt hk cd
      refine sp_read 2 n _ hk hn ht (fun q T I1 e f e0 e1 e2 e3 e4 er => ?_) (fun q I1 e hq f => ?_)
      · first | refine And.intro (fun cd => absurd cd (by decide)) (fun _ => ?_) | refine And.intro (fun _ => ?_) (fun cd => absurd cd (by decide)) | refine And.intro (fun cd => ?_) (fun cd => ?_)
        have hT := pP_ok e
        refine sp_build hT e0 e1 e2 e3 e4 er (fun I2 f2 hc => ?_)
        have f02 : frN exU I I2 := (f.mono (by decide)).trans (f2.mono (by decide))
        refine sp_lightsChanged 0 (Or.inl hT) (by exact hc) rfl (by decide) ?_ (fun I3 f3 hL hst => ?_)
        · show I2 13 0 = _
          rw [f2 13 (by decide), f 13 (by decide)]
          exact z13
        · have f23 : frN exU I I3 := (f02.u (a := 0) (j := 14) (v := 0) (by decide)).trans (fun x hx => f3 x (fun q => hx (by simp at q; rcases q with rfl | rfl <;> decide)))
          have hc3 : cT T I3 := by
            unfold cT cG cLp at hc ⊢
            rw [f3 7 (by decide), f3 8 (by decide), f3 9 (by decide), f3 10 (by decide), f3 11 (by decide)]
            exact hc
          refine sp_beginAt (tD T) hc3.2.2.1 (fun I4 f4 s17 s18 e16 => ?_)
          refine good 2 n q T _ hk hx hn e63 ht e (((f23.trans (f4.mono (by decide))).u (by decide)).u (by decide)) ?_ ?_ ?_ ?_ (by exact s17) (by exact s18) (by exact e16) rfl rfl
          · have hc4 : cT T I4 := by
              unfold cT cG cLp at hc3 ⊢
              rw [f4 7 (by decide), f4 8 (by decide), f4 9 (by decide), f4 10 (by decide), f4 11 (by decide)]
              exact hc3
            exact hc4
          · show I4 0 14 = 0
            rw [f4 0 (by decide), f3 0 (by decide)]
            rfl
          · intro s hs
            show I4 13 s = _
            rw [f4 13 (by decide)]
            exact hL s hs
          · show I4 25 1 = 1
            rw [f4 25 (by decide)]
            exact hst
      · refine And.intro (fun cd => ?_) (fun _ => ?_)
        · rw [nI_toInt (by omega)] at cd
          have cd : (q : Int) = -9 := cd
          omega
        · exact bad 2 n q I1 hk hx hn e63 ht e f
  | 3, hk =>
    refine sp_ref (6 + 3) (by decide) (fun cd => ?_) (fun cd => ?_)
    · first | refine And.intro (fun cd => absurd cd (by decide)) (fun _ => ?_) | refine And.intro (fun _ => ?_) (fun cd => absurd cd (by decide)) | refine And.intro (fun cd => ?_) (fun cd => ?_)
      exact neg 3 (by decide) hx cd
    · first | refine And.intro (fun cd => absurd cd (by decide)) (fun _ => ?_) | refine And.intro (fun _ => ?_) (fun cd => absurd cd (by decide)) | refine And.intro (fun cd => ?_) (fun cd => ?_)
      obtain ⟨n, hn, e63, ht⟩ := h.txt hk cd
      refine sp_read 3 n _ hk hn ht (fun q T I1 e f e0 e1 e2 e3 e4 er => ?_) (fun q I1 e hq f => ?_)
      · first | refine And.intro (fun cd => absurd cd (by decide)) (fun _ => ?_) | refine And.intro (fun _ => ?_) (fun cd => absurd cd (by decide)) | refine And.intro (fun cd => ?_) (fun cd => ?_)
        have hT := pP_ok e
        refine sp_build hT e0 e1 e2 e3 e4 er (fun I2 f2 hc => ?_)
        have f02 : frN exU I I2 := (f.mono (by decide)).trans (f2.mono (by decide))
        refine sp_lightsChanged 0 (Or.inl hT) (by exact hc) rfl (by decide) ?_ (fun I3 f3 hL hst => ?_)
        · show I2 13 0 = _
          rw [f2 13 (by decide), f 13 (by decide)]
          exact z13
        · have f23 : frN exU I I3 := (f02.u (a := 0) (j := 14) (v := 0) (by decide)).trans (fun x hx => f3 x (fun q => hx (by simp at q; rcases q with rfl | rfl <;> decide)))
          have hc3 : cT T I3 := by
            unfold cT cG cLp at hc ⊢
            rw [f3 7 (by decide), f3 8 (by decide), f3 9 (by decide), f3 10 (by decide), f3 11 (by decide)]
            exact hc
          refine sp_beginAt (tD T) hc3.2.2.1 (fun I4 f4 s17 s18 e16 => ?_)
          refine good 3 n q T _ hk hx hn e63 ht e (((f23.trans (f4.mono (by decide))).u (by decide)).u (by decide)) ?_ ?_ ?_ ?_ (by exact s17) (by exact s18) (by exact e16) rfl rfl
          · have hc4 : cT T I4 := by
              unfold cT cG cLp at hc3 ⊢
              rw [f4 7 (by decide), f4 8 (by decide), f4 9 (by decide), f4 10 (by decide), f4 11 (by decide)]
              exact hc3
            exact hc4
          · show I4 0 14 = 0
            rw [f4 0 (by decide), f3 0 (by decide)]
            rfl
          · intro s hs
            show I4 13 s = _
            rw [f4 13 (by decide)]
            exact hL s hs
          · show I4 25 1 = 1
            rw [f4 25 (by decide)]
            exact hst
      · refine And.intro (fun cd => ?_) (fun _ => ?_)
        · rw [nI_toInt (by omega)] at cd
          have cd : (q : Int) = -9 := cd
          omega
        · exact bad 3 n q I1 hk hx hn e63 ht e f
end PT

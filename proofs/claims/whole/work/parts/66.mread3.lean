/-! reading a text as a town: the reference, lamps -/
section PM
variable {G : am_G} {l : Launch} {t : am_T} {I : am_I} {L : am_J} {Q : bm_P}
theorem sm_isFree {x : Int32} (cl m S D : Nat) (P : Nat → Nat) (hx : x = nI cl) (hcl : cl < 24) (hm : m ≤ 6) (h2 : I 65 2 = nI m) (hc : I 65 (3 + cl) = nI (clK S (some D) cl)) (hD : S.testBit D = true) (hl : ∀ j, j < m → I 65 (29 + 3 * j) = nI (P j) ∧ P j < 24) (h1 : S.testBit cl = true → (∀ j, j < m → P j ≠ cl) → Q (some (.int 1)) t I L) (h0 : ¬ (S.testBit cl = true ∧ ∀ j, j < m → P j ≠ cl) → Q (some (.int 0)) t I L) : bm_C G l 87 [.ref 61, .int x] t I L Q := by
  subst hx
  have i3 : (3 + nI cl).toInt = ((3 + cl : Nat) : Int) := by rw [show (3 : Int32) = nI 3 from rfl, nI_add, nI_toInt (by omega)]
  have i2 : (I 65 2).toInt = (m : Int) := by rw [h2]; exact nI_toInt (by omega)
  have lp : ∀ d i y (b : Bool), m - i = d → i ≤ m → y = nI i → (b = true ↔ S.testBit cl = true ∧ ∀ j, j < i → P j ≠ cl) → bm_W G l 87 20 [some (.ref 61), some (.int (nI cl)), some (.int (bI b)), some (.int y)] [] t I L Q := by
    intro d
    induction d with
    | zero =>
      intro i y b hd hi hy hb
      obtain rfl : i = m := by omega
      subst hy
      refine bm_go (am_ok_all 87 (by decide)) 40 ?_
      refine ⟨2, rfl, (by omega : 2 < 52), ?_⟩
      refine And.intro (fun _ => ?_) (fun cd => ?_)
      · cases b with
        | true => exact ⟨Or.inr rfl, h1 (hb.mp rfl).1 (hb.mp rfl).2⟩
        | false => exact ⟨Or.inl rfl, h0 (fun w => by have := hb.mpr w; cases this)⟩
      · rw [i2, nI_toInt (by omega)] at cd
        omega
    | succ d ih =>
      intro i y b hd hi hy hb
      subst hy
      have im : (29 + 3 * nI i).toInt = ((29 + 3 * i : Nat) : Int) := by rw [show (3 : Int32) = nI 3 from rfl, pk_mul, show (29 : Int32) = nI 29 from rfl, nI_add, nI_toInt (by omega)]
      refine bm_go (am_ok_all 87 (by decide)) 40 ?_
      refine ⟨2, rfl, (by omega : 2 < 52), ?_⟩
      refine And.intro (fun cd => ?_) (fun _ => ?_)
      · rw [i2, nI_toInt (by omega)] at cd
        omega
      · cases b with
        | true =>
          refine And.intro (fun cd => absurd (show (1 : Int32).toInt = 0 from cd) (by decide)) (fun _ => ?_)
          refine ⟨29 + 3 * i, im, (by omega : 29 + 3 * i < 52), ?_⟩
          obtain ⟨g1, g2⟩ := hl i (by omega)
          have hb := hb.mp rfl
          refine And.intro (fun cd => ?_) (fun cd => ?_)
          · rw [g1, nI_toInt (by omega), nI_toInt (by omega)] at cd
            exact ih (i + 1) _ false (by omega) (by omega) (nI_succ i).symm ⟨fun w => (by cases w), fun w => absurd (by omega) (w.2 i (by omega))⟩
          · rw [g1, nI_toInt (by omega), nI_toInt (by omega)] at cd
            refine ih (i + 1) _ true (by omega) (by omega) (nI_succ i).symm ⟨fun _ => ⟨hb.1, fun j hj => ?_⟩, fun _ => rfl⟩
            by_cases e : j = i
            · subst e; omega
            · exact hb.2 j (by omega)
        | false =>
          refine And.intro (fun _ => ?_) (fun cd => absurd (show (0 : Int32).toInt = 0 from rfl) cd)
          refine ih (i + 1) _ false (by omega) (by omega) (nI_succ i).symm ⟨fun w => (by cases w), fun w => ?_⟩
          have := hb.mpr ⟨w.1, fun j hj => w.2 j (by omega)⟩
          cases this
  refine bm_go (am_ok_all 87 (by decide)) 40 ?_
  refine ⟨3 + cl, i3, (by omega : 3 + cl < 52), ?_⟩
  rw [hc]
  unfold clK
  by_cases q1 : S.testBit cl = true
  · have tr : ∀ v, (if some D = some cl then 2 else if S.testBit cl = true then 0 else 1) = v → (v = 0 ∨ v = 2) := by
      intro v hv
      split at hv
      · omega
      · omega
    generalize hv : (if some D = some cl then 2 else if S.testBit cl = true then 0 else 1) = v
    have tv := tr v hv
    refine And.intro (fun cd => ?_) (fun _ => ?_)
    · rw [nI_toInt (by omega)] at cd
      have cd : (v : Int) = 1 := cd
      omega
    · exact lp m 0 _ true rfl (Nat.zero_le _) rfl ⟨fun _ => ⟨q1, fun j hj => by omega⟩, fun _ => rfl⟩
  · have e : (if some D = some cl then 2 else if S.testBit cl = true then 0 else 1) = 1 := by
      rw [if_neg (fun w => q1 (by cases w; exact hD)), if_neg q1]
    rw [e]
    refine And.intro (fun _ => ?_) (fun cd => absurd (show (nI 1).toInt = (1 : Int32).toInt from rfl) cd)
    exact lp m 0 _ false rfl (Nat.zero_le _) rfl ⟨fun w => (by cases w), fun w => absurd w.1 q1⟩
theorem sm_readLamp (k n : Nat) (c : Nat → Int) (q w h S D m : Nat) (K P R : Nat → Nat) (hk : k < 4) (hn : n ≤ 80) (hq : q < n) (ht : txM k n c I) (h8 : I 61 8 = nI q) (h9 : I 61 9 = 0) (hw : I 65 0 = nI w) (hh : I 65 1 = nI h) (h2 : I 65 2 = nI m) (hc : ∀ i, i < w * h → I 65 (3 + i) = nI (clK S (some D) i)) (hD : S.testBit D = true) (hl : ∀ j, j < m → I 65 (29 + 3 * j) = nI (P j) ∧ P j < 24) (hm : m ≤ 6) (hw1 : 1 ≤ w) (hw6 : w ≤ 6) (hh1 : 1 ≤ h) (hh4 : h ≤ 4)
    (h1 : ∀ p kd cl r I', m < 6 → l1 n c w h S (orN m (fun j => 1 <<< P j)) q = (p, some (kd, cl, r)) → p ≤ n → frR I I' → I' 61 8 = nI p → I' 61 9 = 0 → I' 65 2 = nI (m + 1) → I' 65 (28 + 3 * m) = nI kd → I' 65 (29 + 3 * m) = nI cl → I' 65 (30 + 3 * m) = nI r → (∀ j, j ≠ 2 → j < 28 + 3 * m → I' 65 j = I 65 j) → Q none t I' L)
    (h0 : ∀ p I', ((m = 6 ∧ p = q) ∨ (m < 6 ∧ l1 n c w h S (orN m (fun j => 1 <<< P j)) q = (p, none))) → p ≤ n → frR I I' → I' 61 8 = nI p → I' 61 9 = 1 → Q none t I' L) : bm_C G l 88 [.ref 61] t I L Q := by
  have i2 : (I 65 2).toInt = (m : Int) := by rw [h2]; exact nI_toInt (by omega)
  have f0 := frR.refl I
  have fw : frR I (am_u (am_u I 61 9 1) 61 8 (am_u I 61 9 1 61 8 + 0)) := (f0.u (by decide)).u (by decide)
  have ew : am_u (am_u I 61 9 1) 61 8 (am_u I 61 9 1 61 8 + 0) 61 8 = nI q := by
    rw [u_eq, Int32.add_zero, u_nj (by decide)]
    exact h8
  refine bm_go (am_ok_all 88 (by decide)) 160 ?_
  refine sm_sign k n c q hk hn (by omega) ht h8 (fun z hz => ?_)
  have hzc : z.toInt = sgC n c q := by
    rw [hz]
    unfold sgM sgC
    rw [if_pos hq, if_pos hq]
  refine sm_kindOf (fun kd ekd => ?_) (fun ekd => ?_)
  · rw [hzc] at ekd
    obtain ⟨kd6, -, -⟩ := kd_lt ekd
    refine And.intro (fun cd => ?_) (fun _ => ?_)
    · rw [nI_toInt (by omega)] at cd
      omega
    refine ⟨2, rfl, (by omega : 2 < 52), ?_⟩
    refine And.intro (fun cd => ?_) (fun cd => ?_)
    · rw [i2, T6] at cd
      have m6 : m < 6 := by omega
      refine ⟨Or.inl rfl, ?_⟩
      refine And.intro (fun _ => ?_) (fun cd => absurd (show (am_u I 61 9 0 61 9).toInt = 0 from rfl) cd)
      have fa : frR I (am_u (am_u I 61 9 0) 61 8 (am_u I 61 9 0 61 8 + 1)) := (f0.u (by decide)).u (by decide)
      have e8 : am_u (am_u I 61 9 0) 61 8 (am_u I 61 9 0 61 8 + 1) 61 8 = nI (q + 1) := by
        rw [u_eq, u_nj (by decide), h8, nI_succ]
      refine ⟨0, rfl, (by omega : 0 < 52), ?_⟩
      have ew1 : am_u (am_u I 61 9 0) 61 8 (am_u I 61 9 0 61 8 + 1) 65 0 - 1 = nI (w - 1) := by
        show I 65 0 - 1 = _
        rw [hw, k1, pk_sub hw1]
      refine sm_figure k n c (q + 1) 0 (w - 1) hk hn (by omega) (ht.f fa) e8 rfl rfl ew1 (by decide) (by omega) (fun X eX x1 x2 x3 => ?_) (fun eX z2 => ?_)
      · refine ⟨1, rfl, (by omega : 1 < 52), ?_⟩
        have fb := fa.u (a := 61) (j := 8) (v := nI (q + 1 + 1)) (by decide)
        have eh1 : am_u (am_u (am_u I 61 9 0) 61 8 (am_u I 61 9 0 61 8 + 1)) 61 8 (nI (q + 1 + 1)) 65 1 - 1 = nI (h - 1) := by
          show I 65 1 - 1 = _
          rw [hh, k1, pk_sub hh1]
        refine sm_figure k n c (q + 1 + 1) 0 (h - 1) hk hn (by omega) (ht.f fb) rfl rfl rfl eh1 (by decide) (by omega) (fun Y eY y1 y2 y3 => ?_) (fun eY z3 => ?_)
        · have fc := fb.u (a := 61) (j := 8) (v := nI (q + 1 + 1 + 1)) (by decide)
          have wY : w * Y + w ≤ w * h := by
            rw [← Nat.mul_succ]
            exact Nat.mul_le_mul_left w (by omega)
          have wh : w * h ≤ 24 := Nat.mul_le_mul hw6 hh4
          have tkb : (orN m (fun j => 1 <<< P j)).testBit (w * Y + X) = false ↔ ∀ j, j < m → P j ≠ w * Y + X := by
            rw [← Bool.not_eq_true, tb_orN]
            constructor
            · intro g j hj e
              exact g ⟨j, hj, by rw [tb_one]; simpa using e⟩
            · rintro g ⟨j, hj, e⟩
              rw [tb_one] at e
              exact g j hj (by simpa using e)
          refine And.intro (fun cd => absurd (show (0 : Int32).toInt = 0 from rfl) cd) (fun _ => ?_)
          refine ⟨0, rfl, (by omega : 0 < 52), ?_⟩
          refine sm_isFree (w * Y + X) m S D P ?_ (by omega) hm (by exact h2) (by exact hc _ (by omega)) hD (fun j hj => by exact hl j hj) (fun g1 g2 => ?_) (fun g => ?_)
          · show I 65 0 * nI Y + nI X = _
            rw [hw, pk_mul, nI_add]
          · refine And.intro (fun _ => ?_) (fun cd => absurd (show (1 : Int32).toInt = 0 from cd) (by decide))
            refine sm_figure k n c (q + 1 + 1 + 1) 1 5 hk hn (by omega) (ht.f fc) rfl rfl rfl rfl (by decide) (by decide) (fun r er r1 r2 r3 => ?_) (fun er z4 => ?_)
            · have fd := fc.u (a := 61) (j := 8) (v := nI (q + 1 + 1 + 1 + 1)) (by decide)
              refine And.intro (fun cd => absurd (show (0 : Int32).toInt = 0 from rfl) cd) (fun _ => ?_)
              have ix : ∀ b : Nat, b ≤ 30 → ∀ v : Int32, v = nI m → (Int32.ofNat b + 3 * v).toInt = ((b + 3 * m : Nat) : Int) := by
                intro b hb v hv
                rw [hv, show (3 : Int32) = nI 3 from rfl, pk_mul, show Int32.ofNat b = nI b from rfl, nI_add, nI_toInt (by omega)]
              refine ⟨2, rfl, (by omega : 2 < 52), 28 + 3 * m, ix 28 (by decide) _ (by exact h2), (by omega : 28 + 3 * m < 52), 2, rfl, (by omega : 2 < 52), 0, rfl, (by omega : 0 < 52), 29 + 3 * m, ix 29 (by decide) _ ?_, (by omega : 29 + 3 * m < 52), 2, rfl, (by omega : 2 < 52), 30 + 3 * m, ix 30 (by decide) _ ?_, (by omega : 30 + 3 * m < 52), 2, rfl, (by omega : 2 < 52), 2, rfl, (by omega : 2 < 52), ?_⟩
              · rw [u_nj (by omega)]
                exact h2
              · rw [u_nj (by omega), u_nj (by omega)]
                exact h2
              refine h1 (q + 4) kd (w * Y + X) r _ m6 ?_ (by omega) ((((fd.u (Or.inl rfl)).u (Or.inl rfl)).u (Or.inl rfl)).u (Or.inl rfl)) ?_ ?_ ?_ ?_ ?_ ?_ ?_
              · unfold l1
                rw [ekd]
                simp only [eX, show q + 2 = q + 1 + 1 from rfl, show q + 3 = q + 1 + 1 + 1 from rfl, eY, er]
                rw [if_pos ⟨g1, tkb.mpr g2⟩]
              · rfl
              · rfl
              · rw [u_eq, u_nj (by omega), u_nj (by omega), u_nj (by omega)]
                show I 65 2 + 1 = _
                rw [h2, nI_succ]
              · rw [u_nj (by omega), u_nj (by omega), u_nj (by omega), u_eq]
              · rw [u_nj (by omega), u_nj (by omega), u_eq, u_nj (by omega)]
                show I 65 0 * nI Y + nI X = _
                rw [hw, pk_mul, nI_add]
              · rw [u_nj (by omega), u_eq]
              · intro j j1 j2
                rw [u_nj (by omega), u_nj (by omega), u_nj (by omega), u_nj (by omega)]
                rfl
            · refine And.intro (fun _ => ?_) (fun cd => absurd (show (1 : Int32).toInt = 0 from cd) (by decide))
              refine h0 (q + 3) _ (Or.inr ⟨m6, ?_⟩) (by omega) (fc.u (by decide)) (by rfl) rfl
              unfold l1
              rw [ekd]
              simp only [eX, show q + 2 = q + 1 + 1 from rfl, show q + 3 = q + 1 + 1 + 1 from rfl, eY, er]
              rw [if_pos ⟨g1, tkb.mpr g2⟩]
          · refine And.intro (fun cd => absurd (show (0 : Int32).toInt = 0 from rfl) cd) (fun _ => ?_)
            refine ⟨Or.inr rfl, ?_⟩
            refine sm_figure_w rfl ?_
            refine And.intro (fun _ => ?_) (fun cd => absurd (show (1 : Int32).toInt = 0 from cd) (by decide))
            refine h0 (q + 2) _ (Or.inr ⟨m6, ?_⟩) (by omega) ((fc.u (by decide)).u (by decide)) ?_ rfl
            · unfold l1
              rw [ekd]
              simp only [eX, show q + 2 = q + 1 + 1 from rfl, show q + 3 = q + 1 + 1 + 1 from rfl, eY]
              rw [if_neg (fun w => g ⟨w.1, tkb.mp w.2⟩)]
            · show nI (q + 1 + 1 + 1) - 1 = _
              rw [k1, pk_sub (by omega)]
              rfl
        · refine And.intro (fun _ => ?_) (fun cd => absurd (show (1 : Int32).toInt = 0 from cd) (by decide))
          refine sm_figure_w rfl ?_
          refine And.intro (fun _ => ?_) (fun cd => absurd (show (1 : Int32).toInt = 0 from cd) (by decide))
          refine h0 (q + 2) _ (Or.inr ⟨m6, ?_⟩) (by omega) (fb.u (by decide)) (by rfl) rfl
          unfold l1
          rw [ekd]
          simp only [eX, show q + 2 = q + 1 + 1 from rfl, show q + 3 = q + 1 + 1 + 1 from rfl, eY]
      · refine ⟨1, rfl, (by omega : 1 < 52), ?_⟩
        refine sm_figure_w rfl ?_
        refine And.intro (fun _ => ?_) (fun cd => absurd (show (1 : Int32).toInt = 0 from cd) (by decide))
        refine sm_figure_w rfl ?_
        refine And.intro (fun _ => ?_) (fun cd => absurd (show (1 : Int32).toInt = 0 from cd) (by decide))
        refine h0 (q + 1) _ (Or.inr ⟨m6, ?_⟩) (by omega) (fa.u (by decide)) (by exact e8) rfl
        unfold l1
        rw [ekd]
        simp only [eX]
    · rw [i2, T6] at cd
      refine ⟨Or.inr rfl, ?_⟩
      refine And.intro (fun cd => absurd (show (1 : Int32).toInt = 0 from cd) (by decide)) (fun _ => ?_)
      refine ⟨0, rfl, (by omega : 0 < 52), ?_⟩
      refine sm_figure_w rfl ?_
      refine ⟨1, rfl, (by omega : 1 < 52), ?_⟩
      refine sm_figure_w rfl ?_
      refine And.intro (fun _ => ?_) (fun cd => absurd (show (1 : Int32).toInt = 0 from cd) (by decide))
      refine sm_figure_w rfl ?_
      refine And.intro (fun _ => ?_) (fun cd => absurd (show (1 : Int32).toInt = 0 from cd) (by decide))
      exact h0 q _ (Or.inl ⟨by omega, rfl⟩) (by omega) fw ew rfl
  · rw [hzc] at ekd
    refine And.intro (fun _ => ?_) (fun cd => absurd cd (by decide))
    refine ⟨Or.inr rfl, ?_⟩
    refine And.intro (fun cd => absurd (show (1 : Int32).toInt = 0 from cd) (by decide)) (fun _ => ?_)
    refine ⟨0, rfl, (by omega : 0 < 52), ?_⟩
    refine sm_figure_w rfl ?_
    refine ⟨1, rfl, (by omega : 1 < 52), ?_⟩
    refine sm_figure_w rfl ?_
    refine And.intro (fun _ => ?_) (fun cd => absurd (show (1 : Int32).toInt = 0 from cd) (by decide))
    refine sm_figure_w rfl ?_
    refine And.intro (fun _ => ?_) (fun cd => absurd (show (1 : Int32).toInt = 0 from cd) (by decide))
    by_cases m6 : m = 6
    · exact h0 q _ (Or.inl ⟨m6, rfl⟩) (by omega) fw ew rfl
    · refine h0 q _ (Or.inr ⟨by omega, ?_⟩) (by omega) fw ew rfl
      unfold l1
      rw [ekd]
end PM

/-! steps from lamp to lamp: the class's count -/
theorem no2 {a b : Bool} (h : ¬ (a = true ∨ b = true)) : a = false ∧ b = false := by
  revert h
  cases a <;> cases b <;> simp
def bp (T : tT) (f own br i : Nat) : Nat := if i = 0 then 0 else (wo T f own br (i - 1)).2
theorem fq_lt {T : tT} {f own br : Nat} (hT : tG T) (hf : f < 2 ^ 24) : ∀ i, (fq T f own br i).1.1 < 2 ^ 24 ∧ (fq T f own br i).1.2 < 2 ^ 24 ∧ (fq T f own br i).2 < 2 ^ 24
  | 0 => ⟨and_lt _ hf, and_lt _ hf, hf⟩
  | i + 1 => by
    have h1 : (fq T f own br (i + 1)).1.1 < 2 ^ 24 := and_lt _ (and_lt _ (nr_lt hT _))
    have h2 : (fq T f own br (i + 1)).1.2 < 2 ^ 24 := and_lt _ (or_lt (and_lt _ (nr_lt hT _)) (and_lt _ (nr_lt hT _)))
    exact ⟨h1, h2, or_lt (fq_lt hT hf i).2.2 (or_lt h1 h2)⟩
theorem bp_s {T : tT} {f own br : Nat} (hT : tG T) (hf : f < 2 ^ 24) (i x : Nat) : (wo T f own br i).2.testBit x = ((bp T f own br i).testBit x || (fq T f own br i).1.2.testBit x) := by
  cases i with
  | zero =>
    show (f &&& cm own).testBit x = ((0 : Nat).testBit x || (f &&& cm own).testBit x)
    simp
  | succ i =>
    rw [(fq_s hT (fq_all (own := own) (br := br) hT hf i)).2.2, Nat.testBit_or]
    rfl
theorem bp_fst {T : tT} {f own br : Nat} (hT : tG T) (hf : f < 2 ^ 24) (x : Nat) : ∀ i, (fstN i (fun j => (wo T f own br j).2.testBit x) = none ↔ (bp T f own br i).testBit x = false)
  | 0 => by
    constructor
    · intro _
      show (0 : Nat).testBit x = false
      simp
    · intro _; rfl
  | i + 1 => by
    have ih := bp_fst hT hf x i (own := own) (br := br)
    have b := bp_s hT hf (own := own) (br := br) i x
    show _ ↔ (wo T f own br i).2.testBit x = false
    rw [fstN_s]
    cases e : fstN i (fun j => (wo T f own br j).2.testBit x) with
    | some j =>
      have : (bp T f own br i).testBit x = true := by
        cases q : (bp T f own br i).testBit x with
        | true => rfl
        | false => rw [ih.mpr q] at e; cases e
      rw [b, this]
      simp
    | none =>
      simp only
      cases q : (wo T f own br i).2.testBit x with
      | true => simp
      | false => simp
theorem fq_stop {T : tT} {f own br : Nat} (hT : tG T) (hf : f < 2 ^ 24) (h0 : f ≠ 0) {i : Nat} (hA : (fq T f own br i).1.1 = 0) (hB : (fq T f own br i).1.2 = 0) (x : Nat) (hb : (bp T f own br i).testBit x = false) : ∀ n, fstN n (fun j => (wo T f own br j).2.testBit x) = none := by
  intro n
  rw [fstN_none]
  intro j _
  have bi := bp_s hT hf (own := own) (br := br) i x
  rw [hb, hB] at bi
  simp only [Nat.zero_testBit, Bool.or_self] at bi
  have none_i := (bp_fst hT hf x (i + 1) (own := own) (br := br)).mpr bi
  rw [fstN_none] at none_i
  by_cases q : j < i + 1
  · exact none_i j q
  · have st : wo T f own br (i + 1) = wo T f own br i := by
      obtain ⟨_, gA, gB⟩ := fq_s hT (fq_all (own := own) (br := br) hT hf i)
      have n0 : nr T 0 = 0 := by unfold nr; simp
      have e1 : (fq T f own br (i + 1)).1.1 = 0 := by
        show nr T (fq T f own br i).1.1 &&& _ &&& own = 0
        rw [hA, n0]
        simp
      have e2 : (fq T f own br (i + 1)).1.2 = 0 := by
        show (nr T (fq T f own br i).1.1 &&& _ ||| nr T (fq T f own br i).1.2 &&& _) &&& cm own = 0
        rw [hA, hB, n0]
        simp
      rw [e1, Nat.or_zero] at gA
      rw [e2, Nat.or_zero] at gB
      exact Prod.ext gA gB
    have := wo_stop st (j - i)
    rw [show i + (j - i) = j by omega] at this
    show (wo T f own br j).2.testBit x = false
    rw [this]
    exact bi
/-- what is noted of lamp k before step i -/
def nt (T : tT) (f own br i k : Nat) : Option Nat := if k < tN T ∧ ¬ (own.testBit (tP T k) = true ∨ br.testBit (tP T k) = true) then fstN i (fun j => (wo T f own br j).2.testBit (tP T k)) else none
theorem nt_end {T : tT} {f own br k : Nat} (hk : k < tN T) : nt T f own br 25 k = pace T f own br (tP T k) := by
  unfold nt pace
  by_cases q : own.testBit (tP T k) = true ∨ br.testBit (tP T k) = true
  · rw [if_neg (fun w => w.2 q), if_pos q]
  · rw [if_pos ⟨hk, q⟩, if_neg q]
section PP
variable {G : am_G} {l : Launch} {t : am_T} {I : am_I} {L : am_J} {Q : bm_P}
theorem sp_paceOut {T : tT} {x y z : Int32} (f own br : Nat) (hT : tOk T) (hc : cT T I) (hx : x = nI f) (hy : y = nI own) (hz : z = nI br) (hf : f < 2 ^ 24) (h0 : f ≠ 0) (ho : own < 2 ^ 24) (hb : br < 2 ^ 24) (h : ∀ I', frN [26] I I' → (∀ k, k < 8 → I' 26 k = eN (if k < tN T then pace T f own br (tP T k) else none)) → Q none t I' L) : bm_C G l 185 [.ref 25, .ref 7, .int x, .int y, .int z] t I L Q := by
  subst hx hy hz
  have hG := hT.1
  have c24 := hG.c24
  have fin : ∀ I', frN [26] I I' → (∀ k, k < 8 → I' 26 k = eN (nt T f own br 25 k)) → Q none t I' L := by
    intro I' f1 e
    refine h I' f1 (fun k hk => ?_)
    rw [e k hk]
    by_cases q : k < tN T
    · rw [if_pos q, nt_end q]
    · rw [if_neg q]
      unfold nt
      rw [if_neg (fun w => q w.1)]
  have tgl : ∀ (tg : Nat) i, (∀ x, x < 32 → tg.testBit x = ((lc T).testBit x && !own.testBit x && !br.testBit x && !(bp T f own br i).testBit x)) → tg < 2 ^ 24 → ∀ k, k < tN T → tg.testBit (tP T k) = (!own.testBit (tP T k) && !br.testBit (tP T k) && !(bp T f own br i).testBit (tP T k)) := by
    intro tg i e _ k hk
    have lp := hT.2.2.2.2.1 k hk
    rw [e _ (by have := lp.2.1; omega)]
    have : (lc T).testBit (tP T k) = true := by
      unfold lc
      rw [tb_orN]
      exact ⟨k, hk, by rw [tb_one]; simp⟩
    rw [this]
    simp
  have lp : ∀ d i y5 y6 y7 y8 y9 l10 l11 tg (I1 : am_I), 25 - i = d → i ≤ 25 → y9 = nI i → y5 = nI tg → y6 = nI (fq T f own br i).1.1 → y7 = nI (fq T f own br i).1.2 → y8 = nI (fq T f own br i).2 → tg < 2 ^ 24 → (∀ x, x < 32 → tg.testBit x = ((lc T).testBit x && !own.testBit x && !br.testBit x && !(bp T f own br i).testBit x)) → frN [26] I I1 → (∀ k, k < 8 → I1 26 k = eN (nt T f own br i k)) → bm_W G l 185 42 [some (.ref 25), some (.ref 7), some (.int (nI f)), some (.int (nI own)), some (.int (nI br)), some (.int y5), some (.int y6), some (.int y7), some (.int y8), some (.int y9), l10, l11] [] t I1 L Q := by
    intro d
    induction d with
    | zero =>
      intro i y5 y6 y7 y8 y9 l10 l11 tg I1 hd hi e9 e5 e6 e7 e8 tl te f1 en
      obtain rfl : i = 25 := by omega
      subst e9
      refine bm_go (am_ok_all 185 (by decide)) 60 ?_
      refine And.intro (fun _ => fin I1 f1 en) (fun cd => absurd cd (by decide))
    | succ d ih =>
      intro i y5 y6 y7 y8 y9 l10 l11 tg I1 hd hi e9 e5 e6 e7 e8 tl te f1 en
      subst e9 e5 e6 e7 e8
      obtain ⟨fl1, fl2, fl3⟩ := fq_lt (own := own) (br := br) hG hf i
      have tk := tgl tg i te tl
      have hcG : ∀ {I2 : am_I}, frN [26] I I2 → cG T I2 := fun f2 => by
        unfold cG
        rw [f2 7 (by decide)]
        exact hc.1
      refine bm_go (am_ok_all 185 (by decide)) 90 ?_
      refine And.intro (fun cd => ?_) (fun _ => ?_)
      · rw [nI_toInt (by omega), T24] at cd
        omega
      refine And.intro (fun cd => ?_) (fun cd5 => ?_)
      · -- no lamp is left
        rw [nI_toInt (by omega)] at cd
        have t0 : tg = 0 := by omega
        refine fin I1 f1 (fun k hk => ?_)
        rw [en k hk]
        congr 1
        unfold nt
        by_cases q : k < tN T ∧ ¬ (own.testBit (tP T k) = true ∨ br.testBit (tP T k) = true)
        · rw [if_pos q, if_pos q]
          have := tk k q.1
          rw [t0, Nat.zero_testBit] at this
          have b1 : own.testBit (tP T k) = false := (no2 q.2).1
          have b2 : br.testBit (tP T k) = false := (no2 q.2).2
          rw [b1, b2] at this
          have b3 : (bp T f own br i).testBit (tP T k) = true := by
            revert this
            cases (bp T f own br i).testBit (tP T k) <;> simp
          cases e : fstN i (fun j => (wo T f own br j).2.testBit (tP T k)) with
          | some j => exact (fstN_ext e (by omega)).symm
          | none => rw [(bp_fst hG hf (tP T k) i).mp e] at b3; cases b3
        · rw [if_neg q, if_neg q]
      have ior : nI (fq T f own br i).1.1 ||| nI (fq T f own br i).1.2 = nI ((fq T f own br i).1.1 ||| (fq T f own br i).1.2) := n_or _ _
      refine And.intro (fun cd => ?_) (fun _ => ?_)
      · -- nothing new
        rw [ior, nI_toInt (by have := or_lt fl1 fl2; omega)] at cd
        have z := Nat.or_eq_zero_iff.mp (show (fq T f own br i).1.1 ||| (fq T f own br i).1.2 = 0 by omega)
        refine fin I1 f1 (fun k hk => ?_)
        rw [en k hk]
        congr 1
        unfold nt
        by_cases q : k < tN T ∧ ¬ (own.testBit (tP T k) = true ∨ br.testBit (tP T k) = true)
        · rw [if_pos q, if_pos q]
          cases e : fstN i (fun j => (wo T f own br j).2.testBit (tP T k)) with
          | some j => exact (fstN_ext e (by omega)).symm
          | none => exact (fq_stop hG hf h0 z.1 z.2 _ ((bp_fst hG hf (tP T k) i).mp e) 25).symm
        · rw [if_neg q, if_neg q]
      have iand : nI (fq T f own br i).1.2 &&& nI tg = nI ((fq T f own br i).1.2 &&& tg) := n_and _ _
      -- what is noted at this step
      have nts : ∀ k, nt T f own br (i + 1) k = if k < tN T ∧ ((fq T f own br i).1.2 &&& tg).testBit (tP T k) = true then some i else nt T f own br i k := by
        intro k
        unfold nt
        by_cases q : k < tN T ∧ ¬ (own.testBit (tP T k) = true ∨ br.testBit (tP T k) = true)
        · rw [if_pos q, if_pos q, Nat.testBit_and, tk k q.1, fstN_s]
          have b1 : own.testBit (tP T k) = false := (no2 q.2).1
          have b2 : br.testBit (tP T k) = false := (no2 q.2).2
          rw [b1, b2]
          have b := bp_s hG hf (own := own) (br := br) i (tP T k)
          cases e : fstN i (fun j => (wo T f own br j).2.testBit (tP T k)) with
          | some j =>
            have : (bp T f own br i).testBit (tP T k) = true := by
              cases q2 : (bp T f own br i).testBit (tP T k) with
              | true => rfl
              | false => rw [(bp_fst hG hf (tP T k) i).mpr q2] at e; cases e
            rw [this]
            simp
          | none =>
            have := (bp_fst hG hf (tP T k) i).mp e
            rw [this] at b ⊢
            simp only [b, q.1]
            simp
        · rw [if_neg q, if_neg q, if_neg]
          rintro ⟨w1, w2⟩
          rw [Nat.testBit_and, tk k w1] at w2
          have : own.testBit (tP T k) = true ∨ br.testBit (tP T k) = true := by
            cases e1 : own.testBit (tP T k) <;> cases e2 : br.testBit (tP T k) <;> simp_all
          exact q ⟨w1, fun _ => q ⟨w1, fun _ => by simp_all⟩⟩
      have nxt : ∀ (y5 : Int32) tg' (I2 : am_I) l10 l11, y5 = nI tg' → tg' < 2 ^ 24 → (∀ x, x < 32 → tg'.testBit x = (tg.testBit x && !(fq T f own br i).1.2.testBit x)) → frN [26] I I2 → (∀ k, k < 8 → I2 26 k = eN (nt T f own br (i + 1) k)) → bm_W G l 185 42 [some (.ref 25), some (.ref 7), some (.int (nI f)), some (.int (nI own)), some (.int (nI br)), some (.int y5), some (.int (nI (fq T f own br (i + 1)).1.1)), some (.int (nI (fq T f own br (i + 1)).1.2)), some (.int (nI (fq T f own br (i + 1)).2)), some (.int (nI i + 1)), l10, l11] [] t I2 L Q := by
        intro y5 tg' I2 l10 l11 e5 tl' te' f2 en'
        refine ih (i + 1) _ _ _ _ _ _ _ tg' I2 (by omega) (by omega) (nI_succ i).symm e5 rfl rfl rfl tl' (fun x hx => ?_) f2 en'
        rw [te' x hx, te x hx]
        have b := bp_s hG hf (own := own) (br := br) i x
        rw [show bp T f own br (i + 1) = (wo T f own br i).2 from rfl, b]
        cases (lc T).testBit x <;> cases own.testBit x <;> cases br.testBit x <;> cases (bp T f own br i).testBit x <;> cases (fq T f own br i).1.2.testBit x <;> rfl
      have fr : (nI br ^^^ (-1)) &&& (nI (fq T f own br i).2 ^^^ (-1)) = nI (cm br &&& cm (fq T f own br i).2) := by rw [km1, n_cm, n_cm, n_and]
      have v11 : nI (nr T (fq T f own br i).1.1) &&& ((nI br ^^^ (-1)) &&& (nI (fq T f own br i).2 ^^^ (-1))) = nI (nr T (fq T f own br i).1.1 &&& (cm br &&& cm (fq T f own br i).2)) := by rw [fr, n_and]
      have v6 : (nI (nr T (fq T f own br i).1.1) &&& ((nI br ^^^ (-1)) &&& (nI (fq T f own br i).2 ^^^ (-1)))) &&& nI own = nI (fq T f own br (i + 1)).1.1 := by rw [v11, n_and]; rfl
      have v7 : ((nI (nr T (fq T f own br i).1.1) &&& ((nI br ^^^ (-1)) &&& (nI (fq T f own br i).2 ^^^ (-1)))) ||| (nI (nr T (fq T f own br i).1.2) &&& ((nI br ^^^ (-1)) &&& (nI (fq T f own br i).2 ^^^ (-1))))) &&& (nI own ^^^ (-1)) = nI (fq T f own br (i + 1)).1.2 := by rw [v11, fr, n_and, n_or, km1, n_cm, n_and]; rfl
      have v8 : nI (fq T f own br i).2 ||| (nI (fq T f own br (i + 1)).1.1 ||| nI (fq T f own br (i + 1)).1.2) = nI (fq T f own br (i + 1)).2 := by rw [n_or, n_or]; rfl
      rw [← v6, ← v7] at v8
      have nxt2 := nxt
      rw [← v8, ← v6, ← v7] at nxt2
      have la := and_lt tg fl2
      refine And.intro (fun cd => ?_) (fun cd => ?_)
      · rw [iand, nI_toInt (by omega)] at cd
        have z : (fq T f own br i).1.2 &&& tg = 0 := by omega
        refine sp_near _ hG (hcG f1) rfl (w24 fl1) ?_
        refine sp_near _ hG (hcG f1) rfl (w24 fl2) ?_
        refine nxt2 _ tg I1 _ _ rfl tl (fun x hx => ?_) f1 (fun k hk => ?_)
        · have := congrArg (fun v => v.testBit x) z
          simp only [Nat.testBit_and, Nat.zero_testBit] at this
          revert this
          cases tg.testBit x <;> cases (fq T f own br i).1.2.testBit x <;> simp
        · rw [en k hk, nts k, z, if_neg (by simp)]
      · refine sp_notePaces ((fq T f own br i).1.2 &&& tg) (Or.inl hT) ?_ iand la (fun I2 f2 e2 => ?_)
        · unfold cT cG cLp at hc ⊢
          rw [f1 7 (by decide), f1 8 (by decide), f1 9 (by decide), f1 10 (by decide), f1 11 (by decide)]
          exact hc
        have f12 := f1.trans f2
        refine sp_near _ hG (hcG f12) rfl (w24 fl1) ?_
        refine sp_near _ hG (hcG f12) rfl (w24 fl2) ?_
        refine nxt2 _ (tg &&& cm (fq T f own br i).1.2) I2 _ _ ?_ (and_lt _ tl) (fun x hx => tb_and_cm (w24 tl)) f12 (fun k hk => ?_)
        · rw [km1, n_cm, n_and]
        · rw [e2 k hk, nts k]
          by_cases q : k < tN T ∧ ((fq T f own br i).1.2 &&& tg).testBit (tP T k) = true
          · rw [if_pos q, if_pos q]
            rfl
          · rw [if_neg q, if_neg q]
            exact en k hk
  refine bm_go (am_ok_all 185 (by decide)) 60 ?_
  refine sp_fill_26 ?_
  have e4 : nI (lc T) &&& (nI own ^^^ (-1)) &&& (nI br ^^^ (-1)) = nI (lc T &&& cm own &&& cm br) := by rw [km1, n_cm, n_cm, n_and, n_and]
  have lcl : lc T < 2 ^ 24 := orN_lt _ _ (fun j hj => one_lt (by have := (hT.2.2.2.2.1 j hj).2.1; omega))
  have f1 : frN [26] I (am_f I 26 (am_SH 26).2 (nI 1048576)) := (frN.refl _ _).f (by decide)
  refine lp 25 0 _ _ _ _ _ _ _ (lc T &&& cm own &&& cm br) _ rfl (by decide) rfl ?_ ?_ ?_ rfl (and_lt _ (and_lt _ lcl)) (fun x hx => ?_) f1 (fun k hk => ?_)
  · show I 7 4 &&& (nI own ^^^ (-1)) &&& (nI br ^^^ (-1)) = _
    rw [hc.2.2.2.2.1, e4]
  · exact n_and _ _
  · rw [km1, n_cm, n_and]
    rfl
  · rw [Nat.testBit_and, Nat.testBit_and, tb_cm hx, tb_cm hx]
    show _ = (_ && !(0 : Nat).testBit x)
    simp
  · have : (am_SH 26).2 = 8 := rfl
    rw [this, f_eq hk]
    show _ = eN (if _ then none else none)
    rw [ite_self]
    rfl
end PP

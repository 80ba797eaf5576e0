/-! the reference's table of steps -/
theorem gap_d {T : tT} {sh k : Nat} (hk : k < tN T) : gap T sh 0 7 k = pace T (1 <<< tD T) 0 0 (tP T k) := by
  unfold gap
  rw [if_pos ⟨Nat.zero_le _, hk, by rw [if_pos rfl]⟩]
  unfold gap0
  rw [if_pos rfl]
theorem gap_l {T : tT} {sh s l k : Nat} (hs : s ≤ al T) (hb : s.testBit l = true) (hk : k < tN T) : gap T sh s l k = gap0 T sh 0 0 s l k := by
  have s0 : s ≠ 0 := fun e => by rw [e] at hb; simp at hb
  unfold gap
  rw [if_pos ⟨hs, hk, by rw [if_neg s0]; exact hb⟩]
  exact gap0_c s0 0
/-- what the table holds: all steps to lamps ahead of one, and to it those of some places -/
def tbI (T : tT) (sh to kk : Nat) (I : am_I) : Prop := (∀ k, k < to → I 77 (2304 + k) = eM (gap T sh 0 7 k)) ∧ ∀ s l k, s ≤ al T → l < tN T → k < tN T → s.testBit l = true → s.testBit k = false → (k < to ∨ (k = to ∧ 6 * s + l < kk)) → I 77 (36 * s + 6 * l + k) = eM (gap T sh s l k)
def tbT (T : tT) (sh : Nat) (I : am_I) : Prop := (∀ k, k < tN T → I 77 (2304 + k) = eM (gap T sh 0 7 k)) ∧ ∀ s l k, s ≤ al T → l < tN T → k < tN T → s.testBit l = true → s.testBit k = false → I 77 (36 * s + 6 * l + k) = eM (gap T sh s l k)
section PL
variable {G : am_G} {l : Launch} {t : am_T} {I : am_I} {L : am_J} {Q : bm_P}
theorem sm_lays {T : tT} (sh : Nat) (hT : tOk T) (hm : mT T I) (a2 : I 61 19 = nI sh) (hsh : sh < 2 ^ 31) (h : ∀ I', frN [77] I I' → tbT T sh I' → Q none t I' L) : bm_C G l 133 [.ref 61] t I L Q := by
  have n6 := hT.2.2.2.1
  have p := Nat.two_pow_pos (tN T)
  have p6 := Nat.pow_le_pow_right (n := 2) (by decide) n6
  have c24 := hT.1.c24
  have fr61 : ∀ {I1 : am_I}, frN [77] I I1 → I1 61 14 = nI (tN T) := fun f => by rw [f 61 (by decide)]; exact hm.2.2.2.1
  have frT : ∀ {I1 : am_I}, frN [77] I I1 → mT T I1 := fun f => by unfold mT; rw [f 61 (by decide), f 66 (by decide), f 67 (by decide), f 68 (by decide)]; exact hm
  have fr2 : ∀ {I1 : am_I}, frN [77] I I1 → I1 61 19 = nI sh := fun f => by rw [f 61 (by decide)]; exact a2
  have six : ∀ {J : am_I}, frN [77] I J → (6 : Int32) <<< (J 61 14 &&& 31) = nI (6 * 2 ^ tN T) := fun f => by
    rw [fr61 f, k6, n_shl _ (by omega), Nat.shiftLeft_eq]
  have lp : ∀ d to y d2 d3 I1, tN T - to = d → to ≤ tN T → y = nI to → frN [77] I I1 → tbI T sh to 0 I1 → bm_W G l 133 2 [some (.ref 61), some (.int y), d2, d3] [] t I1 L Q := by
    intro d
    induction d with
    | zero =>
      intro to y d2 d3 I1 hd hto hy f1 g1
      obtain rfl : to = tN T := by omega
      subst hy
      refine bm_go (am_ok_all 133 (by decide)) 40 ?_
      refine And.intro (fun _ => h I1 f1 ⟨g1.1, fun s l k h1 h2 h3 h4 h5 => g1.2 s l k h1 h2 h3 h4 h5 (Or.inl h3)⟩) (fun cd => ?_)
      rw [fr61 f1] at cd
      omega
    | succ d ih =>
      intro to y d2 d3 I1 hd hto hy f1 g1
      subst hy
      have lpK : ∀ d kk z d3 I2, 6 * 2 ^ tN T - kk = d → kk ≤ 6 * 2 ^ tN T → z = nI kk → frN [77] I I2 → I2 77 (2304 + to) = eM (gap T sh 0 7 to) → tbI T sh to kk I2 → bm_W G l 133 35 [some (.ref 61), some (.int (nI to)), some (.int z), d3] [] t I2 L Q := by
        intro d
        induction d with
        | zero =>
          intro kk z d3 I2 hd2 hkk hz f2 e2 g2
          obtain rfl : kk = 6 * 2 ^ tN T := by omega
          subst hz
          refine bm_go (am_ok_all 133 (by decide)) 40 ?_
          refine And.intro (fun _ => ?_) (fun cd => ?_)
          · refine ih (to + 1) _ _ _ I2 (by omega) (by omega) (nI_succ to).symm f2 ⟨fun k hk => ?_, fun s l k h1 h2 h3 h4 h5 h6 => ?_⟩
            · by_cases q : k = to
              · subst q; exact e2
              · exact g2.1 k (by omega)
            · refine g2.2 s l k h1 h2 h3 h4 h5 ?_
              by_cases q : k = to
              · refine Or.inr ⟨q, ?_⟩
                unfold al at h1
                omega
              · exact Or.inl (by omega)
          · rw [six f2] at cd
            omega
        | succ d ih2 =>
          intro kk z d3 I2 hd2 hkk hz f2 e2 g2
          subst hz
          have kl : kk < 384 := by omega
          obtain ⟨dv, rm⟩ := mdiv (c := kk) (w := 6) (by omega) (by decide) (by decide)
          rw [← k6] at dv rm
          have hs : kk / 6 ≤ al T := by unfold al; omega
          have hs6 : kk / 6 < 64 := by omega
          have hl6 : kk % 6 < 6 := Nat.mod_lt _ (by decide)
          have ek : 6 * (kk / 6) + kk % 6 = kk := Nat.div_add_mod kk 6
          have skip : (∀ s l, s ≤ al T → l < tN T → s.testBit l = true → s.testBit to = false → 6 * s + l ≠ kk) → ∀ d3, bm_W G l 133 35 [some (.ref 61), some (.int (nI to)), some (.int (nI kk + 1)), d3] [] t I2 L Q := by
            intro w d3
            refine ih2 (kk + 1) _ d3 I2 (by omega) (by omega) (nI_succ kk).symm f2 e2 ⟨g2.1, fun s l k h1 h2 h3 h4 h5 h6 => g2.2 s l k h1 h2 h3 h4 h5 ?_⟩
            rcases h6 with q | ⟨q, q2⟩
            · exact Or.inl q
            · subst q
              have := w s l h1 h2 h4 h5
              exact Or.inr ⟨rfl, by omega⟩
          refine bm_go (am_ok_all 133 (by decide)) 120 ?_
          refine And.intro (fun cd => ?_) (fun _ => ?_)
          · rw [six f2, nI_toInt (by omega), nI_toInt (by omega)] at cd
            omega
          have nb1 := n_bit (s := kk / 6) (j := kk % 6) (by omega) (by omega)
          have nb2 := n_bit (s := kk / 6) (j := to) (by omega) (by omega)
          rw [← dv, ← rm] at nb1
          rw [← dv] at nb2
          refine ⟨by decide, ?_⟩
          refine And.intro (fun cd => ?_) (fun cd => ?_)
          · rw [show (nI kk - nI kk / 6 * 6) = nI (kk % 6) from rm, fr61 f2, nI_toInt (by omega), nI_toInt (by omega)] at cd
            first | refine And.intro (fun cd => absurd cd (by decide)) (fun _ => ?_) | refine And.intro (fun _ => ?_) (fun cd => absurd cd (by decide)) | refine And.intro (fun cd => ?_) (fun cd => ?_)
            refine skip (fun s l q1 q2 q3 q4 e => ?_) _
            omega
          rw [show (nI kk - nI kk / 6 * 6) = nI (kk % 6) from rm, fr61 f2, nI_toInt (by omega), nI_toInt (by omega)] at cd
          have ln : kk % 6 < tN T := by omega
          have dec : ∀ s l, l < tN T → 6 * s + l = kk → s = kk / 6 ∧ l = kk % 6 := fun s l q1 q2 => by omega
          refine ⟨by decide, ?_⟩
          refine ⟨by decide, ?_⟩
          refine And.intro (fun c1 => ?_) (fun c1 => ?_)
          · have b : (kk / 6).testBit (kk % 6) = false := by
              cases e : (kk / 6).testBit (kk % 6) with
              | false => rfl
              | true => rw [nb1, e] at c1; exact absurd rfl c1
            first | refine And.intro (fun cd => absurd cd (by decide)) (fun _ => ?_) | refine And.intro (fun _ => ?_) (fun cd => absurd cd (by decide)) | refine And.intro (fun cd => ?_) (fun cd => ?_)
            refine skip (fun s l q1 q2 q3 q4 e => ?_) _
            obtain ⟨r1, r2⟩ := dec s l q2 e
            subst r1 r2
            rw [b] at q3
            cases q3
          · have b : (kk / 6).testBit (kk % 6) = true := by
              cases e : (kk / 6).testBit (kk % 6) with
              | true => rfl
              | false => rw [nb1, e] at c1; exact absurd c1 (by decide)
            refine ⟨by decide, ?_⟩
            refine And.intro (fun c2 => ?_) (fun c2 => ?_)
            · have b2 : (kk / 6).testBit to = true := by
                cases e : (kk / 6).testBit to with
                | true => rfl
                | false => rw [nb2, e] at c2; exact absurd rfl c2
              first | refine And.intro (fun cd => absurd cd (by decide)) (fun _ => ?_) | refine And.intro (fun _ => ?_) (fun cd => absurd cd (by decide)) | refine And.intro (fun cd => ?_) (fun cd => ?_)
              refine skip (fun s l q1 q2 q3 q4 e => ?_) _
              obtain ⟨r1, r2⟩ := dec s l q2 e
              subst r1 r2
              rw [b2] at q4
              cases q4
            · have b2 : (kk / 6).testBit to = false := by
                cases e : (kk / 6).testBit to with
                | false => rfl
                | true => rw [nb2, e] at c2; exact absurd c2 (by decide)
              first | refine And.intro (fun cd => absurd cd (by decide)) (fun _ => ?_) | refine And.intro (fun _ => ?_) (fun cd => absurd cd (by decide)) | refine And.intro (fun cd => ?_) (fun cd => ?_)
              have e67 : I2 67 (kk % 6) = nI (tP T (kk % 6)) := ((frT f2).2.2.2.2.2.2.2.2 _ ln).2.1
              refine ⟨by decide, ?_⟩
              refine ⟨kk % 6, by rw [show (nI kk - nI kk / 6 * 6) = nI (kk % 6) from rm]; exact nI_toInt (by omega), (by omega : kk % 6 < 6), ?_⟩
              refine ⟨by decide, ?_⟩
              refine ⟨by decide, ?_⟩
              refine sm_steps_l sh (kk / 6) (kk % 6) 0 to hT (frT f2) (fr2 f2) hsh e67 rm dv rfl rfl hs6 ln b (by decide) (by omega) ?_
              rw [← gap_l hs b (by omega)]
              refine ⟨6 * kk + to, by rw [k6, pk_mul, nI_add]; exact nI_toInt (by omega), (by omega : 6 * kk + to < 2310), ?_⟩
              refine ih2 (kk + 1) _ _ _ (by omega) (by omega) (nI_succ kk).symm (f2.u (by decide)) ?_ ⟨fun k hk => ?_, fun s l k h1 h2 h3 h4 h5 h6 => ?_⟩
              · rw [u_nj (by omega)]; exact e2
              · rw [u_nj (by omega)]; exact g2.1 k hk
              · by_cases q : 36 * s + 6 * l + k = 6 * kk + to
                · have r0 : k = to := by omega
                  obtain ⟨r1, r2⟩ := dec s l h2 (by omega)
                  rw [q, u_eq, r0, r1, r2]
                · rw [u_nj q]
                  refine g2.2 s l k h1 h2 h3 h4 h5 ?_
                  rcases h6 with w | ⟨w, w2⟩
                  · exact Or.inl w
                  · exact Or.inr ⟨w, by omega⟩
      refine bm_go (am_ok_all 133 (by decide)) 90 ?_
      refine And.intro (fun cd => ?_) (fun _ => ?_)
      · rw [fr61 f1, nI_toInt (by omega), nI_toInt (by omega)] at cd
        omega
      refine sm_steps_d sh (tD T) 0 to hT (frT f1) (fr2 f1) hsh (frT f1).2.2.2.2.1 rfl rfl rfl rfl hT.2.1 (by decide) (by omega) ?_
      rw [← gap_d (sh := sh) (by omega)]
      refine ⟨2304 + to, by rw [show (2304 : Int32) = nI 2304 from rfl, nI_add]; exact nI_toInt (by omega), (by omega : 2304 + to < 2310), ?_⟩
      refine lpK _ 0 0 _ _ rfl (Nat.zero_le _) rfl (f1.u (by decide)) u_eq ⟨fun k hk => ?_, fun s l k h1 h2 h3 h4 h5 h6 => ?_⟩
      · rw [u_nj (by omega)]; exact g1.1 k hk
      · rw [u_nj (by unfold al at h1; omega)]
        refine g1.2 s l k h1 h2 h3 h4 h5 ?_
        rcases h6 with w | ⟨w, w2⟩
        · exact Or.inl w
        · omega
  refine bm_go (am_ok_all 133 (by decide)) 40 ?_
  exact lp _ 0 0 _ _ I rfl (Nat.zero_le _) rfl (frN.refl _ _) ⟨fun k hk => by omega, fun s l k _ _ _ _ _ h6 => by omega⟩
end PL

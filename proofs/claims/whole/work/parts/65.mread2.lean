/-! reading a text as a town: the reference, cells -/
def clK (S : Nat) (D : Option Nat) (i : Nat) : Nat := if D = some i then 2 else if S.testBit i then 0 else 1
theorem T35' : (35 : Int32).toInt = 35 := rfl
section PM
variable {G : am_G} {l : Launch} {t : am_T} {I : am_I} {L : am_J} {Q : bm_P}
theorem w0c {I : am_I} {j : Nat} {v : Int32} : (am_u I 61 j v 61 j) = v := u_eq
theorem sm_readCells (k n : Nat) (c : Nat → Int) (hk : k < 4) (hn : n ≤ 80) (ht : txM k n c I) (h8 : I 61 8 = nI 0)
    (h1 : ∀ p q w h S D I', pS n c = (p, some (w, h)) → cP n c (w * h) 0 p 0 none = (q, some (S, some D)) → q ≤ n → frR I I' → I' 61 8 = nI q → I' 61 9 = 0 → I' 65 0 = nI w → I' 65 1 = nI h → I' 65 2 = I 65 2 → (∀ i, i < w * h → I' 65 (3 + i) = nI (clK S (some D) i)) → Q none t I' L)
    (h0 : ∀ q I', (pS n c = (q, none) ∨ ∃ p w h o, pS n c = (p, some (w, h)) ∧ cP n c (w * h) 0 p 0 none = (q, o) ∧ (o = none ∨ ∃ S, o = some (S, none))) → q ≤ n → frR I I' → I' 61 8 = nI q → I' 61 9 = 1 → Q none t I' L) : bm_C G l 86 [.ref 61] t I L Q := by
  have e103 : (103 : Int32).toInt = 103 := rfl
  have e48 : (0 - 48 : Int32) = -48 := rfl
  have ex : ∀ q (x y : Int32) d3 d4 (I1 : am_I), (pS n c = (q, none) ∨ ∃ p w h o, pS n c = (p, some (w, h)) ∧ cP n c (w * h) 0 p 0 none = (q, o) ∧ (o = none ∨ ∃ S, o = some (S, none))) → q ≤ n → frR I I1 → I1 61 8 = nI q → I1 61 9 = 1 → bm_W G l 86 68 [some (.ref 61), some (.int x), some (.int y), d3, d4] [] t I1 L Q := by
    intro q x y d3 d4 I1 hp hq f1 e8 e9
    have w9 : (I1 61 9).toInt = 1 := by rw [e9]; rfl
    refine bm_go (am_ok_all 86 (by decide)) 60 ?_
    refine And.intro (fun _ => ?_) (fun cd => by omega)
    refine And.intro (fun _ => ?_) (fun cd => by omega)
    exact ⟨Or.inr rfl, h0 q _ hp hq (f1.u (by decide)) (by exact e8) rfl⟩
  have sg : ∀ p (z : Int32) v, v ≠ 0 → v ≠ 1000 → z.toInt = sgM n c p → (z.toInt = v ↔ sgC n c p = v) := by
    intro p z v v0 v1 hz
    unfold sgM at hz
    unfold sgC
    split at hz
    · rename_i q
      rw [if_pos q, hz]
    · rename_i q
      rw [if_neg q, hz]
      constructor <;> intro w <;> omega
  have s0 := (sk_le n c 0).2 (by omega)
  have f0 : frR I (am_u I 61 8 (nI (sk n c 0))) := (frR.refl I).u (by decide)
  refine bm_go (am_ok_all 86 (by decide)) 120 ?_
  refine sm_here k n c 0 hk hn (by omega) ht h8 (fun z hz => ?_)
  by_cases c1 : z.toInt = 103
  · have c1' := (sg _ z 103 (by decide) (by decide) hz).mp c1
    have hlt := sg_lt (n := n) (c := c) (p := sk n c 0) (by omega)
    refine And.intro (fun _ => ?_) (fun cd => absurd c1 cd)
    refine ⟨Or.inl rfl, ?_⟩
    refine And.intro (fun _ => ?_) (fun cd => absurd (show (am_u (am_u I 61 8 (nI (sk n c 0))) 61 9 0 61 9).toInt = 0 from rfl) cd)
    have fa : frR I (am_u (am_u (am_u I 61 8 (nI (sk n c 0))) 61 9 0) 61 8 (nI (sk n c 0) + 1)) := (f0.u (by decide)).u (by decide)
    refine sm_figure k n c (sk n c 0 + 1) 2 6 hk hn (by omega) (ht.f fa) (by exact (nI_succ _).symm) rfl rfl rfl (by decide) (by decide) (fun w ew w1 w2 w3 => ?_) (fun ew z2 => ?_)
    · refine ⟨0, rfl, (by omega : 0 < 52), ?_⟩
      have fb := (fa.u (a := 61) (j := 8) (v := nI (sk n c 0 + 1 + 1)) (by decide)).u (a := 65) (j := 0) (v := nI w) (by decide)
      refine sm_figure k n c (sk n c 0 + 1 + 1) 1 4 hk hn (by omega) (ht.f fb) rfl rfl rfl rfl (by decide) (by decide) (fun h eh g1 g2 g3 => ?_) (fun eh z3 => ?_)
      · refine ⟨1, rfl, (by omega : 1 < 52), ?_⟩
        have fc := (fb.u (a := 61) (j := 8) (v := nI (sk n c 0 + 1 + 1 + 1)) (by decide)).u (a := 65) (j := 1) (v := nI h) (by decide)
        have es : pS n c = (sk n c 0 + 3, some (w, h)) := by
          unfold pS
          rw [if_pos c1', ew]
          show (match fgO n c 1 4 (sk n c 0 + 1 + 1) with
              | none => (sk n c 0 + 2, none)
              | some h => (sk n c 0 + 3, some (w, h))) = _
          rw [eh]
        have wh : w * h ≤ 24 := Nat.mul_le_mul w3 g3
        generalize hres : cP n c (w * h) 0 (sk n c 0 + 3) 0 none = res
        have lp : ∀ d i x y d3 d4 q S (D : Option Nat) (I1 : am_I), w * h - i = d → i ≤ w * h → y = nI i → x = nI (if D.isSome then 1 else 0) → q ≤ n → frR I I1 → I1 61 8 = nI q → I1 61 9 = 0 → I1 65 0 = nI w → I1 65 1 = nI h → I1 65 2 = I 65 2 → (∀ j, j < i → I1 65 (3 + j) = nI (clK S D j)) → S < 2 ^ i → (∀ j, D = some j → j < i) → cP n c d i q S D = res → bm_W G l 86 68 [some (.ref 61), some (.int x), some (.int y), d3, d4] [] t I1 L Q := by
          intro d
          induction d with
          | zero =>
            intro i x y d3 d4 q S D I1 hd hi hy hx hq f1 e8 e9 e0 e1 e2 ec hS hD er
            obtain rfl : i = w * h := by omega
            subst hy hx
            have er : (q, some (S, D)) = res := er
            have w9 : (I1 61 9).toInt = 0 := by rw [e9]; rfl
            refine bm_go (am_ok_all 86 (by decide)) 60 ?_
            refine And.intro (fun cd => by omega) (fun _ => ?_)
            refine ⟨0, rfl, (by omega : 0 < 52), 1, rfl, (by omega : 1 < 52), ?_⟩
            refine And.intro (fun _ => ?_) (fun cd => ?_)
            · refine And.intro (fun cd => by omega) (fun _ => ?_)
              cases D with
              | none =>
                first | refine And.intro (fun cd => absurd cd (by decide)) (fun _ => ?_) | refine And.intro (fun _ => ?_) (fun cd => absurd cd (by decide)) | refine And.intro (fun cd => ?_) (fun cd => ?_)
                refine ⟨Or.inr rfl, h0 q _ (Or.inr ⟨_, w, h, _, es, hres.trans er.symm, Or.inr ⟨S, rfl⟩⟩) hq (f1.u (by decide)) (by exact e8) rfl⟩
              | some D =>
                refine And.intro (fun _ => ?_) (fun cd => absurd (show (nI 1).toInt = 0 from cd) (by decide))
                refine ⟨Or.inl rfl, h1 _ q w h S D _ es (hres.trans er.symm) hq (f1.u (by decide)) (by exact e8) rfl (by exact e0) (by exact e1) (by exact e2) (fun j hj => by exact ec j hj)⟩
            · rw [e0, e1, pk_mul] at cd
              omega
          | succ d ih =>
            intro i x y d3 d4 q S D I1 hd hi hy hx hq f1 e8 e9 e0 e1 e2 ec hS hD er
            subst hy hx
            have w9 : (I1 61 9).toInt = 0 := by rw [e9]; rfl
            have sl := (sk_le n c q).2 hq
            have er : (if sgC n c (sk n c q) = 68 ∧ D = none then cP n c d (i + 1) (sk n c q + 1) (S ||| 1 <<< i) (some i)
    else if sgC n c (sk n c q) = 46 then cP n c d (i + 1) (sk n c q + 1) (S ||| 1 <<< i) D
    else if sgC n c (sk n c q) = 35 then cP n c d (i + 1) (sk n c q + 1) S D
    else (sk n c q, none)) = res := er
            have fs : frR I (am_u I1 61 8 (nI (sk n c q))) := f1.u (by decide)
            have i3 : (3 + nI i).toInt = ((3 + i : Nat) : Int) := by rw [show (3 : Int32) = nI 3 from rfl, nI_add, nI_toInt (by omega)]
            have nf : ∀ w0 v kd, frR I (am_u (am_u (am_u (am_u I1 61 8 (nI (sk n c q))) 61 9 w0) 61 8 v) 65 (3 + i) kd) := fun w0 v kd => ((fs.u (by decide)).u (by decide)).u (Or.inl rfl)
            have sold : ∀ j, j < i → (S ||| 1 <<< i).testBit j = S.testBit j := fun j hj => by
              rw [Nat.testBit_or, tb_one]
              simp [show ¬ i = j by omega]
            have snew : (S ||| 1 <<< i).testBit i = true := by
              rw [Nat.testBit_or, tb_one]
              simp
            have snot : S.testBit i = false := tb_big hS (Nat.le_refl i)
            have slt : S ||| 1 <<< i < 2 ^ (i + 1) := or_lt (Nat.lt_of_lt_of_le hS (Nat.pow_le_pow_right (by decide) (by omega))) (one_lt (by omega))
            have slt2 : S < 2 ^ (i + 1) := Nat.lt_of_lt_of_le hS (Nat.pow_le_pow_right (by decide) (by omega))
            have dne : D ≠ some i := fun e => by have := hD i e; omega
            have cells : ∀ (w0 v : Int32) kd S' D', (∀ j, j < i → clK S' D' j = clK S D j) → kd = nI (clK S' D' i) → ∀ j, j < i + 1 → am_u (am_u (am_u (am_u I1 61 8 (nI (sk n c q))) 61 9 w0) 61 8 v) 65 (3 + i) kd 65 (3 + j) = nI (clK S' D' j) := by
              intro w0 v kd S' D' hold hkd j hj
              by_cases e : j = i
              · subst e
                rw [u_eq, hkd]
              · rw [u_nj (by omega), hold j (by omega)]
                exact ec j (by omega)
            have cold : ∀ D', (D' = D ∨ (D = none ∧ D' = some i)) → ∀ j, j < i → clK (S ||| 1 <<< i) D' j = clK S D j := by
              intro D' hD' j hj
              unfold clK
              rw [sold j hj]
              rcases hD' with rfl | ⟨rfl, rfl⟩
              · rfl
              · rw [if_neg (show ¬ (some i = some j) by simp; omega), if_neg (show ¬ (none = some j) by simp)]
            refine bm_go (am_ok_all 86 (by decide)) 90 ?_
            refine And.intro (fun cd => by omega) (fun _ => ?_)
            refine ⟨0, rfl, (by omega : 0 < 52), 1, rfl, (by omega : 1 < 52), ?_⟩
            refine And.intro (fun cd => ?_) (fun _ => ?_)
            · rw [e0, e1, pk_mul, nI_toInt (by omega), nI_toInt (by omega)] at cd
              omega
            refine sm_here k n c q hk hn hq (ht.f f1) e8 (fun z hz => ?_)
            have s46 := sg _ z 46 (by decide) (by decide) hz
            have s35 := sg _ z 35 (by decide) (by decide) hz
            have s68 := sg _ z 68 (by decide) (by decide) hz
            by_cases c46 : z.toInt = 46
            · have d46 := s46.mp c46
              have hlt := sg_lt (n := n) (c := c) (p := sk n c q) (by omega)
              rw [if_neg (by omega), if_pos d46] at er
              refine And.intro (fun cd => absurd c46 cd) (fun _ => ?_)
              first | refine And.intro (fun cd => absurd cd (by decide)) (fun _ => ?_) | refine And.intro (fun _ => ?_) (fun cd => absurd cd (by decide)) | refine And.intro (fun cd => ?_) (fun cd => ?_)
              first | refine And.intro (fun cd => absurd cd (by decide)) (fun _ => ?_) | refine And.intro (fun _ => ?_) (fun cd => absurd cd (by decide)) | refine And.intro (fun cd => ?_) (fun cd => ?_)
              refine ⟨Or.inl rfl, ?_⟩
              first | refine And.intro (fun cd => absurd cd (by decide)) (fun _ => ?_) | refine And.intro (fun _ => ?_) (fun cd => absurd cd (by decide)) | refine And.intro (fun cd => ?_) (fun cd => ?_)
              refine And.intro (fun _ => ?_) (fun cd => absurd (show (am_u (am_u I1 61 8 (nI (sk n c q))) 61 9 0 61 9).toInt = 0 from rfl) cd)
              refine ⟨3 + i, i3, (by omega : 3 + i < 52), ?_⟩
              refine ih (i + 1) _ _ _ _ (sk n c q + 1) _ D _ (by omega) (by omega) (nI_succ i).symm (Int32.add_zero _) (by omega) (nf _ _ _) ?_ rfl (by rw [u_nj (by omega)]; exact e0) (by rw [u_nj (by omega)]; exact e1) (by rw [u_nj (by omega)]; exact e2) (cells _ _ _ _ _ (cold D (Or.inl rfl)) ?_) slt (fun j ej => by have := hD j ej; omega) er
              · exact (nI_succ _).symm
              · unfold clK
                rw [if_neg dne, snew]
                rfl
            · refine And.intro (fun _ => ?_) (fun cd => absurd cd c46)
              by_cases c35 : z.toInt = 35
              · have d35 := s35.mp c35
                have hlt := sg_lt (n := n) (c := c) (p := sk n c q) (by omega)
                rw [if_neg (by omega), if_neg (by omega), if_pos d35] at er
                refine And.intro (fun cd => absurd c35 cd) (fun _ => ?_)
                first | refine And.intro (fun cd => absurd cd (by decide)) (fun _ => ?_) | refine And.intro (fun _ => ?_) (fun cd => absurd cd (by decide)) | refine And.intro (fun cd => ?_) (fun cd => ?_)
                first | refine And.intro (fun cd => absurd cd (by decide)) (fun _ => ?_) | refine And.intro (fun _ => ?_) (fun cd => absurd cd (by decide)) | refine And.intro (fun cd => ?_) (fun cd => ?_)
                refine ⟨Or.inl rfl, ?_⟩
                first | refine And.intro (fun cd => absurd cd (by decide)) (fun _ => ?_) | refine And.intro (fun _ => ?_) (fun cd => absurd cd (by decide)) | refine And.intro (fun cd => ?_) (fun cd => ?_)
                refine And.intro (fun _ => ?_) (fun cd => absurd (show (am_u (am_u I1 61 8 (nI (sk n c q))) 61 9 0 61 9).toInt = 0 from rfl) cd)
                refine ⟨3 + i, i3, (by omega : 3 + i < 52), ?_⟩
                refine ih (i + 1) _ _ _ _ (sk n c q + 1) _ D _ (by omega) (by omega) (nI_succ i).symm (Int32.add_zero _) (by omega) (nf _ _ _) ?_ rfl (by rw [u_nj (by omega)]; exact e0) (by rw [u_nj (by omega)]; exact e1) (by rw [u_nj (by omega)]; exact e2) (cells _ _ _ _ _ (fun j hj => rfl) ?_) slt2 (fun j ej => by have := hD j ej; omega) er
                · exact (nI_succ _).symm
                · unfold clK
                  rw [if_neg dne, snot]
                  rfl
              · refine And.intro (fun _ => ?_) (fun cd => absurd cd c35)
                by_cases c68 : z.toInt = 68
                · have d68 := s68.mp c68
                  have hlt := sg_lt (n := n) (c := c) (p := sk n c q) (by omega)
                  refine And.intro (fun cd => absurd c68 cd) (fun _ => ?_)
                  first | refine And.intro (fun cd => absurd cd (by decide)) (fun _ => ?_) | refine And.intro (fun _ => ?_) (fun cd => absurd cd (by decide)) | refine And.intro (fun cd => ?_) (fun cd => ?_)
                  first | refine And.intro (fun cd => absurd cd (by decide)) (fun _ => ?_) | refine And.intro (fun _ => ?_) (fun cd => absurd cd (by decide)) | refine And.intro (fun cd => ?_) (fun cd => ?_)
                  cases D with
                  | none =>
                    rw [if_pos ⟨d68, rfl⟩] at er
                    first | refine And.intro (fun cd => absurd cd (by decide)) (fun _ => ?_) | refine And.intro (fun _ => ?_) (fun cd => absurd cd (by decide)) | refine And.intro (fun cd => ?_) (fun cd => ?_)
                    refine ⟨Or.inl rfl, ?_⟩
                    first | refine And.intro (fun cd => absurd cd (by decide)) (fun _ => ?_) | refine And.intro (fun _ => ?_) (fun cd => absurd cd (by decide)) | refine And.intro (fun cd => ?_) (fun cd => ?_)
                    refine And.intro (fun _ => ?_) (fun cd => absurd (show (am_u (am_u I1 61 8 (nI (sk n c q))) 61 9 0 61 9).toInt = 0 from rfl) cd)
                    refine ⟨3 + i, i3, (by omega : 3 + i < 52), ?_⟩
                    refine ih (i + 1) _ _ _ _ (sk n c q + 1) _ (some i) _ (by omega) (by omega) (nI_succ i).symm rfl (by omega) (nf _ _ _) ?_ rfl (by rw [u_nj (by omega)]; exact e0) (by rw [u_nj (by omega)]; exact e1) (by rw [u_nj (by omega)]; exact e2) (cells _ _ _ _ _ (cold (some i) (Or.inr ⟨rfl, rfl⟩)) ?_) slt (fun j ej => by cases ej; omega) er
                    · exact (nI_succ _).symm
                    · unfold clK
                      rw [if_pos rfl]
                      rfl
                  | some D =>
                    rw [if_neg (by simp), if_neg (by omega), if_neg (by omega)] at er
                    refine And.intro (fun cd => absurd (show (nI 1).toInt ≤ 0 from cd) (by decide)) (fun _ => ?_)
                    refine ⟨Or.inr rfl, ?_⟩
                    first | refine And.intro (fun cd => absurd cd (by decide)) (fun _ => ?_) | refine And.intro (fun _ => ?_) (fun cd => absurd cd (by decide)) | refine And.intro (fun cd => ?_) (fun cd => ?_)
                    refine And.intro (fun cd => absurd (show (1 : Int32).toInt = 0 from cd) (by decide)) (fun _ => ?_)
                    refine ⟨3 + i, i3, (by omega : 3 + i < 52), ?_⟩
                    refine ex (sk n c q) _ _ _ _ _ (Or.inr ⟨_, w, h, _, es, hres.trans er.symm, Or.inl rfl⟩) sl (nf _ _ _) ?_ rfl
                    exact Int32.add_zero _
                · refine And.intro (fun _ => ?_) (fun cd => absurd cd c68)
                  have n68 := fun w => c68 (s68.mpr w)
                  rw [if_neg (fun w => n68 w.1), if_neg (fun w => c46 (s46.mpr w)), if_neg (fun w => c35 (s35.mpr w))] at er
                  first | refine And.intro (fun cd => absurd cd (by decide)) (fun _ => ?_) | refine And.intro (fun _ => ?_) (fun cd => absurd cd (by decide)) | refine And.intro (fun cd => ?_) (fun cd => ?_)
                  refine ⟨Or.inr rfl, ?_⟩
                  first | refine And.intro (fun cd => absurd cd (by decide)) (fun _ => ?_) | refine And.intro (fun _ => ?_) (fun cd => absurd cd (by decide)) | refine And.intro (fun cd => ?_) (fun cd => ?_)
                  refine And.intro (fun cd => absurd (show (1 : Int32).toInt = 0 from cd) (by decide)) (fun _ => ?_)
                  refine ⟨3 + i, i3, (by omega : 3 + i < 52), ?_⟩
                  refine ex (sk n c q) _ _ _ _ _ (Or.inr ⟨_, w, h, _, es, hres.trans er.symm, Or.inl rfl⟩) sl (nf _ _ _) ?_ rfl
                  exact Int32.add_zero _
        exact lp (w * h) 0 _ _ _ _ (sk n c 0 + 3) 0 none _ rfl (Nat.zero_le _) rfl rfl (by omega) fc rfl rfl rfl rfl (by rfl) (fun j hj => by omega) (by decide) (fun j ej => by cases ej) hres
      · refine ⟨1, rfl, (by omega : 1 < 52), ?_⟩
        refine ex (sk n c 0 + 2) _ _ _ _ _ (Or.inl ?_) (by omega) ((fb.u (by decide)).u (by decide)) rfl rfl
        unfold pS
        rw [if_pos c1', ew]
        show (match fgO n c 1 4 (sk n c 0 + 1 + 1) with
              | none => (sk n c 0 + 2, none)
              | some h => (sk n c 0 + 3, some (w, h))) = _
        rw [eh]
    · refine ⟨0, rfl, (by omega : 0 < 52), ?_⟩
      refine sm_figure_w rfl ?_
      refine ⟨1, rfl, (by omega : 1 < 52), ?_⟩
      refine ex (sk n c 0 + 1) _ _ _ _ _ (Or.inl ?_) (by omega) (((fa.u (by decide)).u (by decide)).u (by decide)) (by exact (nI_succ _).symm) rfl
      unfold pS
      rw [if_pos c1', ew]
  · have c1' := fun w => c1 ((sg _ z 103 (by decide) (by decide) hz).mpr w)
    refine And.intro (fun cd => absurd cd c1) (fun _ => ?_)
    refine ⟨Or.inr rfl, ?_⟩
    refine And.intro (fun cd => absurd (show (1 : Int32).toInt = 0 from cd) (by decide)) (fun _ => ?_)
    refine sm_figure_w rfl ?_
    refine ⟨0, rfl, (by omega : 0 < 52), ?_⟩
    refine sm_figure_w rfl ?_
    refine ⟨1, rfl, (by omega : 1 < 52), ?_⟩
    refine ex (sk n c 0) _ _ _ _ _ (Or.inl ?_) s0 ((((f0.u (by decide)).u (by decide)).u (by decide)).u (by decide)) (by exact Int32.add_zero _) rfl
    unfold pS
    rw [if_neg c1']
end PM

/-! from what was seen: the reference counts rows -/
def ok1 (a b s k : Nat) : Bool := (k != b) || s.testBit a
def pos (n : Nat) (x : List Nat) (a : Nat) : Nat := (fstN n (fun i => rwF x i == a)).getD 0
def posC (n : Nat) (x : List Nat) : Bool := (List.range n).all (fun a => (fstN n (fun i => rwF x i == a)).isSome && (List.range n).all (fun b => a == b || (okr (ok1 a b) 0 x == decide (pos n x a < pos n x b))))
theorem posC_ok : ∀ n, n < 7 → (pQ (2 ^ n - 1) 64 0).all (posC n) = true := by decide +kernel
theorem pos_at {n : Nat} (hn : n < 7) {x : List Nat} (hx : x ∈ pQ (2 ^ n - 1) 64 0) {a : Nat} (ha : a < n) : pos n x a < n ∧ rwF x (pos n x a) = a ∧ ∀ i, i < pos n x a → rwF x i ≠ a := by
  have h1 := List.all_eq_true.mp (posC_ok n hn) x hx
  have h2 := List.all_eq_true.mp h1 a (List.mem_range.mpr ha)
  rw [Bool.and_eq_true] at h2
  unfold pos
  cases e : fstN n (fun i => rwF x i == a) with
  | none => rw [e] at h2; exact absurd h2.1 (by decide)
  | some j =>
    obtain ⟨q1, q2, q3⟩ := (fstN_some _ _ _).mp e
    exact ⟨q1, by simpa using q2, fun i hi => by simpa using q3 i hi⟩
theorem pos_ok {n : Nat} (hn : n < 7) {x : List Nat} (hx : x ∈ pQ (2 ^ n - 1) 64 0) {a b : Nat} (ha : a < n) (hb : b < n) (hab : a ≠ b) : okr (ok1 a b) 0 x = decide (pos n x a < pos n x b) := by
  have h1 := List.all_eq_true.mp (posC_ok n hn) x hx
  have h2 := List.all_eq_true.mp h1 a (List.mem_range.mpr ha)
  rw [Bool.and_eq_true] at h2
  have h3 := List.all_eq_true.mp h2.2 b (List.mem_range.mpr hb)
  simp only [Bool.or_eq_true, beq_iff_eq] at h3
  exact h3.resolve_left hab
theorem okr_and (f g : Nat → Nat → Bool) : ∀ (x : List Nat) (s : Nat), okr (fun s k => f s k && g s k) s x = (okr f s x && okr g s x)
  | [], s => rfl
  | k :: x, s => by
    show ((f s k && g s k) && okr (fun s k => f s k && g s k) (s + 2 ^ k) x) = ((f s k && okr f (s + 2 ^ k) x) && (g s k && okr g (s + 2 ^ k) x))
    rw [okr_and f g x]
    cases f s k <;> cases g s k <;> cases okr f (s + 2 ^ k) x <;> cases okr g (s + 2 ^ k) x <;> rfl
theorem okr_aw : ∀ (x : List Nat) (s : Nat), okr aw s x = true
  | [], _ => rfl
  | k :: x, s => by
    show (true && okr aw (s + 2 ^ k) x) = true
    rw [okr_aw x]
    rfl
theorem okD_add (D : Nat → Nat) {a b : Nat} (ha : a < 32) : okD (fun k => if k = b then D k ||| 1 <<< a else D k) = fun s k => okD D s k && ok1 a b s k := by
  funext s k
  unfold okD ok1
  by_cases q : k = b
  · simp only [q, if_true]
    have e : ((D b ||| 1 <<< a) &&& cm s = 0) ↔ (D b &&& cm s = 0 ∧ s.testBit a = true) := by
      rw [Nat.and_or_distrib_right, Nat.or_eq_zero_iff, Nat.and_comm (1 <<< a), and_one, tb_cm ha]
      cases s.testBit a <;> simp
    by_cases w : D b &&& cm s = 0
    · cases c : s.testBit a with
      | true => simp [e, w, c]
      | false => simp [e, w, c]
    · simp [e, w]
  · simp [q]
theorem dmd_s (a b : Nat → Nat) (m : Nat) : dmd a b (m + 1) = fun k => if k = b m then dmd a b m k ||| 1 <<< a m else dmd a b m k := rfl
/-- all that was seen -/
def seenB (n : Nat) (a b : Nat → Nat) (x : List Nat) : Nat → Bool
  | 0 => true
  | m + 1 => seenB n a b x m && decide (pos n x (a m) < pos n x (b m))
theorem okr_dmd {n : Nat} (hn : n < 7) {x : List Nat} (hx : x ∈ pQ (2 ^ n - 1) 64 0) (a b : Nat → Nat) : ∀ m, (∀ i, i < m → a i < n ∧ b i < n ∧ a i ≠ b i) → okr (okD (dmd a b m)) 0 x = seenB n a b x m
  | 0, _ => by
    have : okD (dmd a b 0) = aw := okD_0
    rw [this, okr_aw]
    rfl
  | m + 1, h => by
    obtain ⟨h1, h2, h3⟩ := h m (by omega)
    rw [dmd_s, okD_add (dmd a b m) (show a m < 32 by omega), okr_and, okr_dmd hn hx a b m (fun i hi => h i (by omega)), pos_ok hn hx h1 h2 h3]
    rfl
section PC
variable {G : am_G} {l : Launch} {t : am_T} {I : am_I} {L : am_J} {Q : bm_P}
theorem sm_placeOf {T : tT} {y : Int32} (sh a : Nat) {x : List Nat} (h6 : tN T ≤ 6) (hx : x ∈ pQ (al T) 64 0) (hr : ∀ i, i < tN T → I 76 i = nI (rwF x i)) (ha : a < tN T) (hy : y = nI a) (h : Q (some (.int (nI (pos (tN T) x a)))) t I L) : bm_C G l 149 [.ref 61, .int y] t I L Q := by
  subst hy
  obtain ⟨p1, p2, p3⟩ := pos_at (n := tN T) (by omega) hx ha
  have xl := (pQ_len (n := tN T) (by omega) hx).2
  generalize pos (tN T) x a = P at *
  have lp : ∀ d i z, P - i = d → i ≤ P → z = nI i → bm_W G l 149 2 [some (.ref 61), some (.int (nI a)), some (.int z)] [] t I L Q := by
    intro d
    induction d with
    | zero =>
      intro i z hd hi hz
      obtain rfl : i = P := by omega
      subst hz
      refine bm_go (am_ok_all 149 (by decide)) 40 ?_
      refine ⟨i, nI_toInt (by omega), (by omega : i < 6), ?_⟩
      refine And.intro (fun _ => h) (fun cd => ?_)
      rw [hr i p1, p2] at cd
      exact absurd rfl cd
    | succ d ih =>
      intro i z hd hi hz
      subst hz
      have := xl i (by omega)
      refine bm_go (am_ok_all 149 (by decide)) 40 ?_
      refine ⟨i, nI_toInt (by omega), (by omega : i < 6), ?_⟩
      refine And.intro (fun cd => ?_) (fun _ => ?_)
      · rw [hr i (by omega), nI_toInt (by omega), nI_toInt (by omega)] at cd
        exact absurd (by omega) (p3 i (by omega))
      · exact ih (i + 1) _ (by omega) (by omega) (nI_succ i).symm
  refine bm_go (am_ok_all 149 (by decide)) 40 ?_
  exact lp _ 0 _ rfl (Nat.zero_le _) rfl
theorem sm_fitsSeen {T : tT} (sh m : Nat) (a b : Nat → Nat) {x : List Nat} (h6 : tN T ≤ 6) (hx : x ∈ pQ (al T) 64 0) (hr : ∀ i, i < tN T → I 76 i = nI (rwF x i)) (hm : m ≤ 8) (e42 : I 61 42 = nI m) (hab : ∀ i, i < m → a i < tN T ∧ b i < tN T ∧ I 79 i = nI (a i) ∧ I 80 i = nI (b i)) (h1 : seenB (tN T) a b x m = true → Q (some (.int 1)) t I L) (h0 : seenB (tN T) a b x m = false → Q (some (.int 0)) t I L) : bm_C G l 150 [.ref 61] t I L Q := by
  have lp : ∀ d i z y, m - i = d → i ≤ m → z = nI i → y = bI (seenB (tN T) a b x i) → bm_W G l 150 4 [some (.ref 61), some (.int y), some (.int z)] [] t I L Q := by
    intro d
    induction d with
    | zero =>
      intro i z y hd hi hz hy
      obtain rfl : i = m := by omega
      subst hz hy
      refine bm_go (am_ok_all 150 (by decide)) 40 ?_
      refine And.intro (fun _ => ?_) (fun cd => ?_)
      · cases e : seenB (tN T) a b x i with
        | true => exact ⟨Or.inr rfl, h1 e⟩
        | false => exact ⟨Or.inl rfl, h0 e⟩
      · rw [e42] at cd
        omega
    | succ d ih =>
      intro i z y hd hi hz hy
      subst hz hy
      obtain ⟨q1, q2, q3, q4⟩ := hab i (by omega)
      have pa := (pos_at (n := tN T) (by omega) hx q1).1
      have pb := (pos_at (n := tN T) (by omega) hx q2).1
      have st : seenB (tN T) a b x (i + 1) = (seenB (tN T) a b x i && decide (pos (tN T) x (a i) < pos (tN T) x (b i))) := rfl
      refine bm_go (am_ok_all 150 (by decide)) 60 ?_
      refine And.intro (fun cd => ?_) (fun _ => ?_)
      · rw [e42, nI_toInt (by omega), nI_toInt (by omega)] at cd
        omega
      cases e : seenB (tN T) a b x i with
      | false =>
        refine And.intro (fun _ => ?_) (fun cd => absurd rfl cd)
        exact ih (i + 1) _ _ (by omega) (by omega) (nI_succ i).symm (by rw [st, e]; rfl)
      | true =>
        refine And.intro (fun cd => absurd cd (by decide)) (fun _ => ?_)
        refine ⟨i, nI_toInt (by omega), (by omega : i < 8), ?_⟩
        refine sm_placeOf sh (a i) h6 hx hr q1 q3 ?_
        refine ⟨i, nI_toInt (by omega), (by omega : i < 8), ?_⟩
        refine sm_placeOf sh (b i) h6 hx hr q2 q4 ?_
        refine And.intro (fun cd => ?_) (fun cd => ?_)
        · rw [nI_toInt (by omega), nI_toInt (by omega)] at cd
          exact ih (i + 1) _ _ (by omega) (by omega) (nI_succ i).symm (by rw [st, e, decide_eq_false (by omega)]; rfl)
        · rw [nI_toInt (by omega), nI_toInt (by omega)] at cd
          exact ih (i + 1) _ _ (by omega) (by omega) (nI_succ i).symm (by rw [st, e, decide_eq_true (by omega)]; rfl)
  refine bm_go (am_ok_all 150 (by decide)) 40 ?_
  exact lp _ 0 _ _ rfl (Nat.zero_le _) rfl rfl
def frC (I I' : am_I) : Prop := (∀ x, x ∉ [61, 76, 77] → I' x = I x) ∧ ∀ j, j ∉ [45, 46, 47] → I' 61 j = I 61 j
theorem frC.refl (I : am_I) : frC I I := ⟨fun _ _ => rfl, fun _ _ => rfl⟩
theorem frC.trans {I I' I'' : am_I} (h : frC I I') (g : frC I' I'') : frC I I'' := ⟨fun x hx => (g.1 x hx).trans (h.1 x hx), fun j hj => (g.2 j hj).trans (h.2 j hj)⟩
theorem frC.u61 {I I' : am_I} (h : frC I I') {j : Nat} {v : Int32} (hj : j ∈ [45, 46, 47]) : frC I (am_u I' 61 j v) :=
  ⟨fun x hx => by rw [u_ne (fun e => hx (by rw [e]; decide))]; exact h.1 x hx, fun i hi => by rw [u_nj (fun e => hi (by rw [e]; exact hj))]; exact h.2 i hi⟩
theorem frN.frC {I I' : am_I} (h : frN [76, 77] I I') : frC I I' := ⟨fun x hx => h x (fun q => hx (by simp at q ⊢; omega)), fun _ _ => by rw [h 61 (by decide)]⟩
theorem frC.mT {T : tT} {I I' : am_I} (f : frC I I') (h : mT T I) : mT T I' := h.fr (fun j h1 h2 => f.2 j (by simp; omega)) (f.1 66 (by decide)) (f.1 67 (by decide)) (f.1 68 (by decide))
/-- what is counted -/
def cA (T : tT) (sh : Nat) (x : List Nat) : Bool := (cst (gap T sh) 0 7 x).isSome
def cF (T : tT) (sh : Nat) (a b : Nat → Nat) (m : Nat) (x : List Nat) : Bool := cA T sh x && seenB (tN T) a b x m
def cH (T : tT) (sh : Nat) (a b : Nat → Nat) (m j k : Nat) (x : List Nat) : Bool := cF T sh a b m x && (j != k && decide (pos (tN T) x j < pos (tN T) x k))
theorem cnt_le {p : List Nat → Bool} {A B : List (List Nat)} {n : Nat} (hn : n < 7) (h : pQ (2 ^ n - 1) 64 0 = A ++ B) : A.countP p ≤ 720 := by
  have h1 : (pQ (2 ^ n - 1) 64 0).length ≤ 720 := (by decide +kernel : ∀ n, n < 7 → (pQ (2 ^ n - 1) 64 0).length ≤ 720) n hn
  have h2 := List.countP_le_length (p := p) (l := A)
  rw [h, List.length_append] at h1
  omega
theorem sm_counts {T : tT} {y z : Int32} (sh m j k : Nat) (a b : Nat → Nat) (hok : tOk T) (hm : mT T I) (a2 : I 61 19 = nI sh) (hsh : sh < 2 ^ 31) (hm8 : m ≤ 8) (e42 : I 61 42 = nI m) (hab : ∀ i, i < m → a i < tN T ∧ b i < tN T ∧ I 79 i = nI (a i) ∧ I 80 i = nI (b i)) (hy : y = nI j) (hz : z = nI k) (hjk : (j = 0 ∧ k = 0) ∨ (j < tN T ∧ k < tN T)) (h : ∀ I', frC I I' → I' 61 45 = nI ((pQ (al T) 64 0).countP (cA T sh)) → I' 61 46 = nI ((pQ (al T) 64 0).countP (cF T sh a b m)) → I' 61 47 = nI ((pQ (al T) 64 0).countP (cH T sh a b m j k)) → Q none t I' L) : bm_C G l 151 [.ref 61, .int y, .int z] t I L Q := by
  subst hy hz
  have n6 := hok.2.2.2.1
  have jk : ¬ j = k → j < tN T ∧ k < tN T := fun e => by omega
  have fin : ∀ I5 e4, frC I I5 → I5 61 45 = nI ((pQ (al T) 64 0).countP (cA T sh)) → I5 61 46 = nI ((pQ (al T) 64 0).countP (cF T sh a b m)) → I5 61 47 = nI ((pQ (al T) 64 0).countP (cH T sh a b m j k)) → bm_W G l 151 25 [some (.ref 61), some (.int (nI j)), some (.int (nI k)), some (.int 0), e4] [] t I5 L Q := by
    intro I5 e4 f5 c1 c2 c3
    refine bm_go (am_ok_all 151 (by decide)) 40 ?_
    first | refine And.intro (fun cd => absurd cd (by decide)) (fun _ => ?_) | refine And.intro (fun _ => ?_) (fun cd => absurd cd (by decide)) | refine And.intro (fun cd => ?_) (fun cd => ?_)
    exact h I5 f5 c1 c2 c3
  have lpP : ∀ (q : Nat) (B A : List (List Nat)) (x : List Nat) I5 e4, B.length = q → pQ (al T) 64 0 = A ++ x :: B → frC I I5 → rowI T sh x I5 → I5 61 45 = nI (A.countP (cA T sh)) → I5 61 46 = nI (A.countP (cF T sh a b m)) → I5 61 47 = nI (A.countP (cH T sh a b m j k)) → bm_W G l 151 25 [some (.ref 61), some (.int (nI j)), some (.int (nI k)), some (.int 1), e4] [] t I5 L Q := by
    intro q
    induction q using Nat.strongRecOn with
    | ind q ih =>
      intro B A x I5 e4 hq hP f5 hr c1 c2 c3
      have xm : x ∈ pQ (al T) 64 0 := by rw [hP]; exact List.mem_append_right _ List.mem_cons_self
      have ob := cst_obP (sh := sh) n6 xm
      have hP2 : pQ (al T) 64 0 = (A ++ [x]) ++ B := by rw [hP, List.append_assoc]; rfl
      have e42' : I5 61 42 = nI m := by rw [f5.2 42 (by decide)]; exact e42
      have hab' : ∀ i, i < m → a i < tN T ∧ b i < tN T ∧ I5 79 i = nI (a i) ∧ I5 80 i = nI (b i) := by
        rw [f5.1 79 (by decide), f5.1 80 (by decide)]
        exact hab
      have cs : ∀ p : List Nat → Bool, (A ++ [x]).countP p = A.countP p + (if p x then 1 else 0) := fun p => by
        rw [List.countP_append, List.countP_singleton]
      have go : ∀ I6 e4, frC I I6 → rowI T sh x I6 → I6 61 45 = nI ((A ++ [x]).countP (cA T sh)) → I6 61 46 = nI ((A ++ [x]).countP (cF T sh a b m)) → I6 61 47 = nI ((A ++ [x]).countP (cH T sh a b m j k)) → bm_C G l 135 [.ref 61] t I6 L (fun v t I' L => ∃ w, v = some (.int w) ∧ bm_W G l 151 25 [some (.ref 61), some (.int (nI j)), some (.int (nI k)), some (.int w), e4] [] t I' L Q) := by
        intro I6 e4 f6 hr6 d1 d2 d3
        refine sm_turnsP sh n6 A x B hP hr6 (fun e => ⟨_, rfl, ?_⟩) (fun y B' e I7 f7 hr7 => ⟨_, rfl, ?_⟩)
        · subst e
          rw [List.append_nil] at hP2
          refine fin I6 _ f6 ?_ ?_ ?_
          · rw [hP2]; exact d1
          · rw [hP2]; exact d2
          · rw [hP2]; exact d3
        · subst e
          refine ih B'.length (by rw [← hq]; exact Nat.lt_succ_self _) B' (A ++ [x]) y I7 _ rfl (by rw [hP2]) (f6.trans (f7.mono (by decide)).frC) hr7 ?_ ?_ ?_
          · rw [f7 61 (by decide)]; exact d1
          · rw [f7 61 (by decide)]; exact d2
          · rw [f7 61 (by decide)]; exact d3
      refine bm_go (am_ok_all 151 (by decide)) 120 ?_
      first | refine And.intro (fun cd => absurd cd (by decide)) (fun _ => ?_) | refine And.intro (fun _ => ?_) (fun cd => absurd cd (by decide)) | refine And.intro (fun cd => ?_) (fun cd => ?_)
      refine sm_stepsP sh n6 xm hr ?_
      refine And.intro (fun cd => ?_) (fun cd => ?_)
      · have e := (eM_n ob).mp cd
        have eA : cA T sh x = false := by unfold cA; rw [e]; rfl
        have eF : cF T sh a b m x = false := by unfold cF; rw [eA]; rfl
        have eH : cH T sh a b m j k x = false := by unfold cH; rw [eF]; rfl
        refine bm_C.mono (go I5 e4 f5 hr ?_ ?_ ?_) (fun v t I L ⟨w, e, hw⟩ => by subst e; exact hw)
        · rw [cs, eA]; exact c1
        · rw [cs, eF]; exact c2
        · rw [cs, eH]; exact c3
      · have eA : cA T sh x = true := by
          unfold cA
          cases q : cst (gap T sh) 0 7 x with
          | none => rw [q] at cd; exact absurd rfl cd
          | some v => rfl
        have rowU : ∀ {p : Nat} {v : Int32} {I6 : am_I}, rowI T sh x I6 → p ∈ [45, 46, 47] → rowI T sh x (am_u I6 61 p v) := by
          intro p v I6 hr6 hp
          obtain ⟨r1, r2, r3⟩ := hr6
          refine ⟨by rw [u_nj (fun e => by rw [← e] at hp; exact absurd hp (by decide))]; exact r1, ?_, fun i hi => by rw [u_ne (by decide)]; exact r3 i hi⟩
          unfold tbT at r2 ⊢
          rw [u_ne (by decide)]
          exact r2
        have k1' : (1 : Int32) = nI 1 := rfl
        have k0' : (0 : Int32) = nI 0 := rfl
        have cA1 : I5 61 45 + 1 = nI ((A ++ [x]).countP (cA T sh)) := by rw [cs, eA, c1, k1', nI_add]; rfl
        refine sm_fitsSeen sh m a b n6 xm hr.2.2 hm8 e42' hab' (fun sF => ?_) (fun sF => ?_)
        · have eF : cF T sh a b m x = true := by unfold cF; rw [eA, sF]; rfl
          have cF1 : I5 61 46 + 1 = nI ((A ++ [x]).countP (cF T sh a b m)) := by rw [cs, eF, c2, k1', nI_add]; rfl
          first | refine And.intro (fun cd => absurd cd (by decide)) (fun _ => ?_) | refine And.intro (fun _ => ?_) (fun cd => absurd cd (by decide)) | refine And.intro (fun cd => ?_) (fun cd => ?_)
          first | refine And.intro (fun cd => absurd cd (by decide)) (fun _ => ?_) | refine And.intro (fun _ => ?_) (fun cd => absurd cd (by decide)) | refine And.intro (fun cd => ?_) (fun cd => ?_)
          refine And.intro (fun ce => ?_) (fun ce => ?_)
          · have ejk : j = k := by
              rw [nI_toInt (by omega), nI_toInt (by omega)] at ce
              omega
            have eH : cH T sh a b m j k x = false := by unfold cH; rw [eF, ejk]; simp
            have cH1 : I5 61 47 + 0 = nI ((A ++ [x]).countP (cH T sh a b m j k)) := by rw [cs, eH, c3, k0', nI_add]; rfl
            exact bm_C.mono (go (am_u (am_u (am_u I5 61 45 (I5 61 45 + 1)) 61 46 (I5 61 46 + 1)) 61 47 (I5 61 47 + 0)) (some (.int 1)) (((f5.u61 (by decide)).u61 (by decide)).u61 (by decide)) (rowU (rowU (rowU hr (by decide)) (by decide)) (by decide)) (by rw [u_nj (by decide), u_nj (by decide), u_eq]; exact cA1) (by rw [u_nj (by decide), u_eq]; exact cF1) (by rw [u_eq]; exact cH1)) (fun v t I L ⟨w, e, hw⟩ => by subst e; exact hw)
          · have ejk : ¬ j = k := fun e => ce (by rw [e])
            obtain ⟨jl, kl⟩ := jk ejk
            have pj := (pos_at (n := tN T) (by omega) xm jl).1
            have pk := (pos_at (n := tN T) (by omega) xm kl).1
            have hr2 : ∀ i, i < tN T → am_u (am_u I5 61 45 (I5 61 45 + 1)) 61 46 (I5 61 46 + 1) 76 i = nI (rwF x i) := fun i hi => by rw [u_ne (by decide), u_ne (by decide)]; exact hr.2.2 i hi
            refine sm_placeOf sh j n6 xm hr2 jl rfl ?_
            refine sm_placeOf sh k n6 xm hr2 kl rfl ?_
            refine And.intro (fun cp => ?_) (fun cp => ?_)
            · rw [nI_toInt (by omega), nI_toInt (by omega)] at cp
              have eH : cH T sh a b m j k x = false := by unfold cH; rw [eF, decide_eq_false (by omega)]; simp
              have cH1 : I5 61 47 + 0 = nI ((A ++ [x]).countP (cH T sh a b m j k)) := by rw [cs, eH, c3, k0', nI_add]; rfl
              exact bm_C.mono (go (am_u (am_u (am_u I5 61 45 (I5 61 45 + 1)) 61 46 (I5 61 46 + 1)) 61 47 (I5 61 47 + 0)) (some (.int 1)) (((f5.u61 (by decide)).u61 (by decide)).u61 (by decide)) (rowU (rowU (rowU hr (by decide)) (by decide)) (by decide)) (by rw [u_nj (by decide), u_nj (by decide), u_eq]; exact cA1) (by rw [u_nj (by decide), u_eq]; exact cF1) (by rw [u_eq]; exact cH1)) (fun v t I L ⟨w, e, hw⟩ => by subst e; exact hw)
            · rw [nI_toInt (by omega), nI_toInt (by omega)] at cp
              have eH : cH T sh a b m j k x = true := by unfold cH; rw [eF, decide_eq_true (by omega)]; simp [ejk]
              have cH1 : I5 61 47 + 1 = nI ((A ++ [x]).countP (cH T sh a b m j k)) := by rw [cs, eH, c3, k1', nI_add]; rfl
              exact bm_C.mono (go (am_u (am_u (am_u I5 61 45 (I5 61 45 + 1)) 61 46 (I5 61 46 + 1)) 61 47 (I5 61 47 + 1)) (some (.int 1)) (((f5.u61 (by decide)).u61 (by decide)).u61 (by decide)) (rowU (rowU (rowU hr (by decide)) (by decide)) (by decide)) (by rw [u_nj (by decide), u_nj (by decide), u_eq]; exact cA1) (by rw [u_nj (by decide), u_eq]; exact cF1) (by rw [u_eq]; exact cH1)) (fun v t I L ⟨w, e, hw⟩ => by subst e; exact hw)
        · have eF : cF T sh a b m x = false := by unfold cF; rw [eA, sF]; rfl
          have eH : cH T sh a b m j k x = false := by unfold cH; rw [eF]; rfl
          have cF1 : I5 61 46 + 0 = nI ((A ++ [x]).countP (cF T sh a b m)) := by rw [cs, eF, c2, k0', nI_add]; rfl
          have cH1 : I5 61 47 + 0 = nI ((A ++ [x]).countP (cH T sh a b m j k)) := by rw [cs, eH, c3, k0', nI_add]; rfl
          first | refine And.intro (fun cd => absurd cd (by decide)) (fun _ => ?_) | refine And.intro (fun _ => ?_) (fun cd => absurd cd (by decide)) | refine And.intro (fun cd => ?_) (fun cd => ?_)
          first | refine And.intro (fun cd => absurd cd (by decide)) (fun _ => ?_) | refine And.intro (fun _ => ?_) (fun cd => absurd cd (by decide)) | refine And.intro (fun cd => ?_) (fun cd => ?_)
          exact bm_C.mono (go (am_u (am_u (am_u I5 61 45 (I5 61 45 + 1)) 61 46 (I5 61 46 + 0)) 61 47 (I5 61 47 + 0)) (some (.int 0)) (((f5.u61 (by decide)).u61 (by decide)).u61 (by decide)) (rowU (rowU (rowU hr (by decide)) (by decide)) (by decide)) (by rw [u_nj (by decide), u_nj (by decide), u_eq]; exact cA1) (by rw [u_nj (by decide), u_eq]; exact cF1) (by rw [u_eq]; exact cH1)) (fun v t I L ⟨w, e, hw⟩ => by subst e; exact hw)
  refine bm_go (am_ok_all 151 (by decide)) 60 ?_
  have f0 : frC I (am_u (am_u (am_u I 61 45 0) 61 46 0) 61 47 0) := (((frC.refl I).u61 (by decide)).u61 (by decide)).u61 (by decide)
  refine sm_lays sh hok (f0.mT hm) (by rw [f0.2 19 (by decide)]; exact a2) hsh (fun I5 f5 tb5 => ?_)
  refine sm_firstRow n6 (by rw [f5 61 (by decide), f0.2 14 (by decide)]; exact hm.2.2.2.1) (fun I6 f6 r6 => ?_)
  obtain ⟨B, hB⟩ := P_cons (n := tN T) (by omega)
  have e61 : I6 61 = am_u (am_u (am_u I 61 45 0) 61 46 0) 61 47 0 61 := by rw [f6 61 (by decide), f5 61 (by decide)]
  refine lpP B.length B [] (List.range (tN T)) I6 _ rfl hB ((f0.trans (f5.mono (by decide)).frC).trans (f6.mono (by decide)).frC) ⟨by rw [e61, f0.2 14 (by decide)]; exact hm.2.2.2.1, ?_, r6⟩ (by rw [e61]; rfl) (by rw [e61]; rfl) (by rw [e61]; rfl)
  unfold tbT at tb5 ⊢
  rw [f6 77 (by decide)]
  exact tb5
end PC

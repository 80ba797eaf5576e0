/-! the next row -/
def tnK (r : Nat → Nat) : Nat → Nat
  | 0 => 0
  | k + 1 => if r (k + 1) < r k then tnK r k else k + 1
def tnJ (r : Nat → Nat) (v : Nat) : Nat → Nat
  | 0 => 0
  | j + 1 => if r (j + 1) < v then tnJ r v j else j + 1
def swp (r : Nat → Nat) (a b : Nat) : Nat → Nat := fun i => if i = b then r a else if i = a then r b else r i
def tnR : Nat → (Nat → Nat) → Nat → Nat → Nat → Nat
  | 0, r, _, _ => r
  | d + 1, r, a, b => if a < b then tnR d (swp r a b) (a + 1) (b - 1) else r
def tn (n : Nat) (r : Nat → Nat) : Nat → Nat := tnR n (swp r (tnK r (n - 1) - 1) (tnJ r (r (tnK r (n - 1) - 1)) (n - 1))) (tnK r (n - 1)) (n - 1)
theorem tnK_le (r : Nat → Nat) : ∀ k, tnK r k ≤ k
  | 0 => Nat.le_refl 0
  | k + 1 => by
    show (if r (k + 1) < r k then tnK r k else k + 1) ≤ k + 1
    split
    · have := tnK_le r k
      omega
    · exact Nat.le_refl _
theorem tnK_at (r : Nat → Nat) : ∀ k, tnK r k ≠ 0 → r (tnK r k - 1) ≤ r (tnK r k)
  | 0, h => absurd rfl h
  | k + 1, h => by
    by_cases q : r (k + 1) < r k
    · have e : tnK r (k + 1) = tnK r k := if_pos q
      rw [e] at h ⊢
      exact tnK_at r k h
    · have e : tnK r (k + 1) = k + 1 := if_neg q
      rw [e]
      show r k ≤ r (k + 1)
      omega
theorem tnJ_le (r : Nat → Nat) (v : Nat) : ∀ j, tnJ r v j ≤ j
  | 0 => Nat.le_refl 0
  | j + 1 => by
    show (if r (j + 1) < v then tnJ r v j else j + 1) ≤ j + 1
    split
    · have := tnJ_le r v j
      omega
    · exact Nat.le_refl _
def rwF (r : List Nat) : Nat → Nat := fun i => r.getD i 0
def chkT (n : Nat) : List (List Nat) → Bool
  | [] => true
  | [x] => tnK (rwF x) (n - 1) == 0
  | x :: y :: R => tnK (rwF x) (n - 1) != 0 && (List.range n).all (fun i => tn n (rwF x) i == rwF y i) && chkT n (y :: R)
theorem chkT_ok : ∀ n, n < 7 → chkT n (pQ (2 ^ n - 1) 64 0) = true := by decide +kernel
theorem hdP_ok : ∀ n, n < 7 → ((pQ (2 ^ n - 1) 64 0).head? = some (List.range n)) ∧ (pQ (2 ^ n - 1) 64 0).all (fun r => r.length == n && r.all (fun k => decide (k < n))) = true := by decide +kernel
theorem chkT_at (n : Nat) : ∀ (P : List (List Nat)) (A : List (List Nat)) (x : List Nat) (B : List (List Nat)), P = A ++ x :: B → chkT n P = true → (B = [] → tnK (rwF x) (n - 1) = 0) ∧ (∀ y B', B = y :: B' → tnK (rwF x) (n - 1) ≠ 0 ∧ ∀ i, i < n → tn n (rwF x) i = rwF y i) := by
  have hd : ∀ x B, chkT n (x :: B) = true → (B = [] → tnK (rwF x) (n - 1) = 0) ∧ (∀ y B', B = y :: B' → tnK (rwF x) (n - 1) ≠ 0 ∧ ∀ i, i < n → tn n (rwF x) i = rwF y i) := by
    intro x B h
    cases B with
    | nil =>
      refine ⟨fun _ => ?_, fun y B' e => by cases e⟩
      exact of_decide_eq_true (by simpa [chkT] using h)
    | cons y B =>
      have h : (tnK (rwF x) (n - 1) != 0 && (List.range n).all (fun i => tn n (rwF x) i == rwF y i) && chkT n (y :: B)) = true := h
      rw [Bool.and_eq_true, Bool.and_eq_true] at h
      refine ⟨fun e => (by cases e), fun y' B' e => ?_⟩
      cases e
      refine ⟨by simpa using h.1.1, fun i hi => ?_⟩
      have := List.all_eq_true.mp h.1.2 i (List.mem_range.mpr hi)
      simpa using this
  intro P A
  induction A generalizing P with
  | nil =>
    intro x B e h
    subst e
    exact hd x B h
  | cons z A ih =>
    intro x B e h
    subst e
    refine ih (A ++ x :: B) x B rfl ?_
    cases A with
    | nil =>
      have h : (tnK (rwF z) (n - 1) != 0 && (List.range n).all (fun i => tn n (rwF z) i == rwF x i) && chkT n (x :: B)) = true := h
      rw [Bool.and_eq_true] at h
      exact h.2
    | cons w A =>
      have h : (tnK (rwF z) (n - 1) != 0 && (List.range n).all (fun i => tn n (rwF z) i == rwF w i) && chkT n (w :: (A ++ x :: B))) = true := h
      rw [Bool.and_eq_true] at h
      exact h.2
theorem dec1 {b : Nat} (h : 1 ≤ b) : nI b + (-1) = nI (b - 1) := by rw [← Int32.sub_eq_add_neg, k1, pk_sub h]
section PT
variable {G : am_G} {l : Launch} {t : am_T} {I : am_I} {L : am_J} {Q : bm_P}
theorem sm_firstRow {n : Nat} (h6 : n ≤ 6) (hn : I 61 14 = nI n) (h : ∀ I', frN [76] I I' → (∀ i, i < n → I' 76 i = nI (rwF (List.range n) i)) → Q none t I' L) : bm_C G l 136 [.ref 61] t I L Q := by
  have lp : ∀ d k y I1, n - k = d → k ≤ n → y = nI k → frN [76] I I1 → (∀ i, i < k → I1 76 i = nI i) → bm_W G l 136 2 [some (.ref 61), some (.int y)] [] t I1 L Q := by
    intro d
    induction d with
    | zero =>
      intro k y I1 hd hk hy f1 g1
      obtain rfl : k = n := by omega
      subst hy
      refine bm_go (am_ok_all 136 (by decide)) 30 ?_
      refine And.intro (fun _ => h I1 f1 (fun i hi => ?_)) (fun cd => ?_)
      · rw [g1 i hi]
        unfold rwF
        simp [hi]
      · rw [f1 61 (by decide), hn] at cd
        omega
    | succ d ih =>
      intro k y I1 hd hk hy f1 g1
      subst hy
      refine bm_go (am_ok_all 136 (by decide)) 30 ?_
      refine And.intro (fun cd => ?_) (fun _ => ?_)
      · rw [f1 61 (by decide), hn, nI_toInt (by omega), nI_toInt (by omega)] at cd
        omega
      refine ⟨k, nI_toInt (by omega), (by omega : k < 6), ?_⟩
      refine ih (k + 1) _ _ (by omega) (by omega) (nI_succ k).symm (f1.u (by decide)) (fun i hi => ?_)
      by_cases q : i = k
      · subst q
        exact u_eq
      · rw [u_nj q]
        exact g1 i (by omega)
  refine bm_go (am_ok_all 136 (by decide)) 30 ?_
  exact lp _ 0 0 I rfl (Nat.zero_le _) rfl (frN.refl _ _) (fun i hi => by omega)
theorem lp_rev {n : Nat} (h6 : n ≤ 6) {y1 y2 : Int32} : ∀ (d a b : Nat) (y3 ya yb : Int32) (q : Nat → Nat) (I1 : am_I), ya = nI a → yb = nI b → a ≤ n → b < n → (∀ i, i < n → I1 76 i = nI (q i)) → b ≤ a + d → (∀ I', frN [76] I1 I' → (∀ i, i < n → I' 76 i = nI (tnR d q a b i)) → Q (some (.int 1)) t I' L) → bm_W G l 135 107 [some (.ref 61), some (.int y1), some (.int y2), some (.int y3), some (.int ya), some (.int yb)] [] t I1 L Q := by
  intro d
  induction d with
  | zero =>
    intro a b y3 ya yb q I1 ea eb ha hb g1 hd k
    subst ea eb
    refine bm_go (am_ok_all 135 (by decide)) 30 ?_
    refine And.intro (fun _ => ⟨Or.inr rfl, k I1 (frN.refl _ _) g1⟩) (fun cd => ?_)
    rw [nI_toInt (by omega), nI_toInt (by omega)] at cd
    omega
  | succ d ih =>
    intro a b y3 ya yb q I1 ea eb ha hb g1 hd k
    subst ea eb
    refine bm_go (am_ok_all 135 (by decide)) 60 ?_
    refine And.intro (fun cd => ?_) (fun cd => ?_)
    · rw [nI_toInt (by omega), nI_toInt (by omega)] at cd
      refine ⟨Or.inr rfl, k I1 (frN.refl _ _) (fun i hi => ?_)⟩
      rw [g1 i hi]
      show _ = nI ((if a < b then tnR d (swp q a b) (a + 1) (b - 1) else q) i)
      rw [if_neg (by omega)]
    · rw [nI_toInt (by omega), nI_toInt (by omega)] at cd
      have ab : a < b := by omega
      refine ⟨a, nI_toInt (by omega), (by omega : a < 6), ?_⟩
      refine ⟨b, nI_toInt (by omega), (by omega : b < 6), ?_⟩
      refine ⟨a, nI_toInt (by omega), (by omega : a < 6), ?_⟩
      refine ⟨b, nI_toInt (by omega), (by omega : b < 6), ?_⟩
      refine ih (a + 1) (b - 1) _ _ _ (swp q a b) _ (nI_succ a).symm (dec1 (by omega)) (by omega) (by omega) (fun i hi => ?_) (by omega) (fun I' f' g' => ?_)
      · unfold swp
        by_cases w : i = b
        · rw [if_pos w, w, u_eq]
          exact g1 a (by omega)
        · rw [if_neg w, u_nj w]
          by_cases w2 : i = a
          · rw [if_pos w2, w2, u_eq]
            exact g1 b hb
          · rw [if_neg w2, u_nj w2]
            exact g1 i hi
      · refine k I' ((((frN.refl _ _).u (by decide)).u (by decide)).trans f') (fun i hi => ?_)
        rw [g' i hi]
        show _ = nI ((if a < b then tnR d (swp q a b) (a + 1) (b - 1) else q) i)
        rw [if_pos ab]
theorem sm_turns {n : Nat} (h6 : n ≤ 6) (hn : I 61 14 = nI n) (r : Nat → Nat) (hr : ∀ i, i < n → I 76 i = nI (r i)) (hl : ∀ i, i < n → r i < 6) (h0 : tnK r (n - 1) = 0 → Q (some (.int 0)) t I L) (h1 : tnK r (n - 1) ≠ 0 → ∀ I', frN [76] I I' → (∀ i, i < n → I' 76 i = nI (tn n r i)) → Q (some (.int 1)) t I' L) : bm_C G l 135 [.ref 61] t I L Q := by
  have ti : ∀ {i : Nat}, i < n → (I 76 i).toInt = (r i : Int) := fun hi => by rw [hr _ hi]; exact nI_toInt (by have := hl _ hi; omega)
  by_cases n0 : n = 0
  · subst n0
    have e : (I 61 14 - 2).toInt = -2 := by rw [hn]; rfl
    refine bm_go (am_ok_all 135 (by decide)) 30 ?_
    refine bm_go (am_ok_all 135 (by decide)) 30 ?_
    refine And.intro (fun _ => ?_) (fun cd => ?_)
    · refine And.intro (fun cd => ?_) (fun _ => ⟨Or.inl rfl, h0 rfl⟩)
      rw [e] at cd
      exact absurd cd (by decide)
    · rw [e] at cd
      exact absurd cd (by decide)
  · have lpJ : ∀ j k y2, k + 1 = tnK r (n - 1) → k + 1 ≤ j → j < n → y2 = nI j → tnJ r (r k) j = tnJ r (r k) (n - 1) → bm_W G l 135 47 [some (.ref 61), some (.int (nI k)), some (.int y2), none, none, none] [] t I L Q := by
      intro j
      induction j with
      | zero => intro k y2 _ h2; omega
      | succ j ih =>
        intro k y2 hk h2 h3 e2 hj
        subst e2
        have kn : k < n := by omega
        refine bm_go (am_ok_all 135 (by decide)) 120 ?_
        refine ⟨j + 1, nI_toInt (by omega), (by omega : j + 1 < 6), ?_⟩
        refine ⟨k, nI_toInt (by omega), (by omega : k < 6), ?_⟩
        refine And.intro (fun cd => ?_) (fun cd => ?_)
        · rw [ti h3, ti kn] at cd
          have ej : tnJ r (r k) (j + 1) = j + 1 := if_neg (by omega)
          rw [ej] at hj
          refine ⟨k, nI_toInt (by omega), (by omega : k < 6), ?_⟩
          refine ⟨j + 1, nI_toInt (by omega), (by omega : j + 1 < 6), ?_⟩
          refine ⟨k, nI_toInt (by omega), (by omega : k < 6), ?_⟩
          refine ⟨j + 1, nI_toInt (by omega), (by omega : j + 1 < 6), ?_⟩
          have en : I 61 14 - 1 = nI (n - 1) := by rw [hn, k1, pk_sub (by omega)]
          refine lp_rev h6 n (k + 1) (n - 1) _ _ _ (swp r k (j + 1)) _ (nI_succ k).symm en (by omega) (by omega) (fun i hi => ?_) (by omega) (fun I' f' g' => ?_)
          · unfold swp
            by_cases w : i = j + 1
            · rw [if_pos w, w, u_eq]
              exact hr k kn
            · rw [if_neg w, u_nj w]
              by_cases w2 : i = k
              · rw [if_pos w2, w2, u_eq]
                exact hr (j + 1) h3
              · rw [if_neg w2, u_nj w2]
                exact hr i hi
          · refine h1 (by omega) I' ((((frN.refl _ _).u (by decide)).u (by decide)).trans f') (fun i hi => ?_)
            rw [g' i hi]
            unfold tn
            rw [← hk, show k + 1 - 1 = k from rfl, ← hj]
        · rw [ti h3, ti kn] at cd
          have ej : tnJ r (r k) (j + 1) = tnJ r (r k) j := if_pos (by omega)
          rw [ej] at hj
          have at1 := tnK_at r (n - 1) (by omega)
          rw [← hk, show k + 1 - 1 = k from rfl] at at1
          have : j ≠ k := fun e => by subst e; omega
          exact ih k _ hk (by omega) (by omega) (dec1 (by omega)) hj
    have lpK : ∀ K y1, K < n → y1 = nI K - 1 → tnK r K = tnK r (n - 1) → bm_W G l 135 7 [some (.ref 61), some (.int y1), none, none, none, none] [] t I L Q := by
      intro K
      induction K with
      | zero =>
        intro y1 hK e1 hk
        subst e1
        refine bm_go (am_ok_all 135 (by decide)) 30 ?_
        first | refine And.intro (fun cd => absurd cd (by decide)) (fun _ => ?_) | refine And.intro (fun _ => ?_) (fun cd => absurd cd (by decide)) | refine And.intro (fun cd => ?_) (fun cd => ?_)
        first | refine And.intro (fun cd => absurd cd (by decide)) (fun _ => ?_) | refine And.intro (fun _ => ?_) (fun cd => absurd cd (by decide)) | refine And.intro (fun cd => ?_) (fun cd => ?_)
        exact ⟨Or.inl rfl, h0 hk.symm⟩
      | succ k ih =>
        intro y1 hK e1 hk
        have e1 : y1 = nI k := by rw [e1, k1, pk_sub (by omega)]; rfl
        subst e1
        have i1 : (nI k + 1).toInt = ((k + 1 : Nat) : Int) := by rw [← nI_succ]; exact nI_toInt (by omega)
        refine bm_go (am_ok_all 135 (by decide)) 60 ?_
        refine And.intro (fun cd => ?_) (fun _ => ?_)
        · rw [nI_toInt (by omega)] at cd
          exact absurd cd (by show ¬ ((k : Int) < 0); omega)
        refine ⟨k, nI_toInt (by omega), (by omega : k < 6), ?_⟩
        refine ⟨k + 1, i1, (by omega : k + 1 < 6), ?_⟩
        refine And.intro (fun cd => ?_) (fun cd => ?_)
        · rw [ti (i := k) (by omega), ti hK] at cd
          have ek : tnK r (k + 1) = k + 1 := if_neg (by omega)
          refine And.intro (fun _ => ?_) (fun cd => ?_)
          · have en : I 61 14 - 1 = nI (n - 1) := by rw [hn, k1, pk_sub (by omega)]
            exact lpJ (n - 1) k _ (by omega) (by omega) (by omega) en rfl
          · rw [nI_toInt (by omega)] at cd
            exact absurd cd (by show ¬ ((k : Int) < 0); omega)
        · rw [ti (i := k) (by omega), ti hK] at cd
          have ek : tnK r (k + 1) = tnK r k := if_pos (by omega)
          exact ih _ (by omega) (Int32.sub_eq_add_neg (nI k) 1).symm (by omega)
    refine bm_go (am_ok_all 135 (by decide)) 30 ?_
    refine lpK (n - 1) _ (by omega) ?_ rfl
    show I 61 14 - 2 = nI (n - 1) - 1
    rw [hn, k2, k1]
    apply Int32.toInt_inj.mp
    by_cases n1 : n = 1
    · subst n1; rfl
    · rw [pk_sub (by omega), pk_sub (by omega)]
      rfl
end PT

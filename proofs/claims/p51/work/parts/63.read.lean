/-! reading a text as a town: the class's call; what is read is a town -/
theorem cP_ok {n : Nat} {c : Nat → Int} : ∀ (m i p S : Nat) (D : Option Nat) (q S' : Nat) (D' : Option Nat), S < 2 ^ i → (∀ j, D = some j → j < i ∧ S.testBit j = true) → cP n c m i p S D = (q, some (S', D')) → S' < 2 ^ (i + m) ∧ ∀ j, D' = some j → j < i + m ∧ S'.testBit j = true
  | 0, i, p, S, D, q, S', D', hS, hD, e => by
    have e : (p, some (S, D)) = (q, some (S', D')) := e
    cases e
    exact ⟨hS, hD⟩
  | m + 1, i, p, S, D, q, S', D', hS, hD, e => by
    have e : (if sgC n c (sk n c p) = 68 ∧ D = none then cP n c m (i + 1) (sk n c p + 1) (S ||| 1 <<< i) (some i)
    else if sgC n c (sk n c p) = 46 then cP n c m (i + 1) (sk n c p + 1) (S ||| 1 <<< i) D
    else if sgC n c (sk n c p) = 35 then cP n c m (i + 1) (sk n c p + 1) S D
    else (sk n c p, none)) = _ := e
    have l1 : S ||| 1 <<< i < 2 ^ (i + 1) := or_lt (Nat.lt_of_lt_of_le hS (Nat.pow_le_pow_right (by decide) (by omega))) (one_lt (by omega))
    have l2 : ∀ j, (S ||| 1 <<< i).testBit j = (S.testBit j || decide (i = j)) := fun j => by rw [Nat.testBit_or, tb_one]
    rw [show i + (m + 1) = i + 1 + m by omega]
    split at e
    · exact cP_ok m (i + 1) _ _ _ q S' D' l1 (fun j ej => by cases ej; exact ⟨by omega, by rw [l2]; simp⟩) e
    · split at e
      · exact cP_ok m (i + 1) _ _ _ q S' D' l1 (fun j ej => ⟨by have := (hD j ej).1; omega, by rw [l2, (hD j ej).2]; rfl⟩) e
      · split at e
        · exact cP_ok m (i + 1) _ _ _ q S' D' (Nat.lt_of_lt_of_le hS (Nat.pow_le_pow_right (by decide) (by omega))) (fun j ej => ⟨by have := (hD j ej).1; omega, (hD j ej).2⟩) e
        · cases e
theorem lP_ok {n : Nat} {c : Nat → Int} {w h S : Nat} (hw1 : 1 ≤ w) (hh1 : 1 ≤ h) (hw6 : w ≤ 6) (hh4 : h ≤ 4) : ∀ (m k p : Nat) (K P R : Nat → Nat) (q k' : Nat) (K' P' R' : Nat → Nat), k ≤ 6 → lOk w h S k K P R → lP n c w h S m k p K P R = (q, some (k', K', P', R')) → k' ≤ 6 ∧ lOk w h S k' K' P' R'
  | 0, k, p, K, P, R, q, k', K', P', R', hk, hl, e => by
    have e : (p, none) = (q, some (k', K', P', R')) := e
    cases e
  | m + 1, k, p, K, P, R, q, k', K', P', R', hk, hl, e => by
    have e : (if n ≤ sk n c p then (sk n c p, some (k, K, P, R)) else if 6 ≤ k then (sk n c p, none) else match l1 n c w h S (orN k (fun j => 1 <<< P j)) (sk n c p) with
        | (q, none) => (q, none)
        | (q, some (kd, cl, r)) => lP n c w h S m (k + 1) q (up K k kd) (up P k cl) (up R k r)) = _ := e
    split at e
    · cases e
      exact ⟨hk, hl⟩
    · split at e
      · cases e
      · split at e
        · cases e
        · rename_i el
          obtain ⟨o1, o2, o3, o4, o5, o6⟩ := l1_ok hw1 hh1 hw6 hh4 el
          exact lP_ok hw1 hh1 hw6 hh4 m (k + 1) _ _ _ _ q k' K' P' R' (by omega) (lOk_up hl o1 o2 o3 o4 o5 o6) e
theorem pS_ok {n : Nat} {c : Nat → Int} {p w h : Nat} (e : pS n c = (p, some (w, h))) : 2 ≤ w ∧ w ≤ 6 ∧ 1 ≤ h ∧ h ≤ 4 := by
  unfold pS at e
  split at e
  · split at e
    · cases e
    · rename_i w' ew
      split at e
      · cases e
      · rename_i h' eh
        cases e
        have := fg_some (by decide) ew
        have := fg_some (by decide) eh
        omega
  · cases e
theorem pP_ok {n : Nat} {c : Nat → Int} {q : Nat} {T : tT} (e : pP n c = (q, some T)) : tOk T := by
  unfold pP at e
  split at e
  · cases e
  · rename_i p w h es
    obtain ⟨g1, g2, g3, g4⟩ := pS_ok es
    split at e
    · cases e
    · cases e
    · rename_i q' S D ec
      obtain ⟨c1, c2⟩ := cP_ok _ _ _ _ _ _ _ _ (by decide) (fun j ej => by cases ej) ec
      rw [Nat.zero_add] at c1 c2
      split at e
      · cases e
      · rename_i r k K P R el
        obtain ⟨l1, l2, l3⟩ := lP_ok (by omega) g3 g2 g4 _ _ _ _ _ _ _ _ _ _ _ (by decide) ⟨fun j hj => by omega, fun i j hi => by omega⟩ el
        cases e
        exact ⟨⟨g1, g2, g3, g4, c1⟩, (c2 D rfl).1, (c2 D rfl).2, l1, l2, fun i j hi hj ee => l3 i j hi hj ee⟩
section PB
variable {G : am_G} {l : Launch} {t : am_T} {I : am_I} {L : am_J} {Q : bm_P}
theorem sp_read (k n : Nat) (c : Nat → Int) (hk : k < 4) (hn : n ≤ 80) (ht : txC k n c I)
    (h1 : ∀ q T I', pP n c = (q, some T) → frN [3, 4, 5, 6] I I' → I' 3 0 = nI (tW T) → I' 3 1 = nI (tH T) → I' 3 2 = nI (tS T) → I' 3 3 = nI (tD T) → I' 3 4 = nI (tN T) → (∀ j, j < tN T → I' 4 j = nI (tK T j) ∧ I' 5 j = nI (tP T j) ∧ I' 6 j = nI (tR T j)) → Q (some (.int (-9))) (some (38 + 2 * (6 + k)), t.2) I' L)
    (h0 : ∀ q I', pP n c = (q, none) → q ≤ n → frN [3, 4, 5, 6] I I' → Q (some (.int (nI q))) (some (38 + 2 * (6 + k)), t.2) I' L) : bm_C G l 202 [.ref 3, .ref (38 + 2 * (6 + k))] t I L Q := by
  have tx : ∀ {I' : am_I}, frN [3, 4, 5, 6] I I' → txC k n c I' := by
    intro I' f
    unfold txC at ht ⊢
    rw [f _ (by simp; omega), f _ (by simp; omega)]
    exact ht
  have up3 : ∀ {I1 I2 : am_I}, frN [3] I1 I2 → frN [3, 4, 5, 6] I1 I2 := fun f x hx => f x (fun e => hx (by simp at e ⊢; omega))
  unfold pP at h1 h0
  have bad : ∀ (p : Nat) (I' : am_I), p ≤ n → frN [3, 4, 5, 6] I I' → I' 3 9 = nI p → (frN [3, 4, 5, 6] I I' → Q (some (.int (nI p))) (some (38 + 2 * (6 + k)), t.2) I' L) → Q (some (.int (I' 3 9))) (some (38 + 2 * (6 + k)), t.2) I' L := fun p I' hp f e q => by rw [e]; exact q f
  have run : bm_W G l 202 10 [some (.ref 3), some (.ref (38 + 2 * (6 + k))), none] [] (some (38 + 2 * (6 + k)), t.2) (am_u I 3 9 0) L Q := by
    have f0 : frN [3, 4, 5, 6] I (am_u I 3 9 0) := (frN.refl _ _).u (by decide)
    refine bm_go (am_ok_all 202 (by decide)) 50 ?_
    refine sp_readSize k n c hk hn (tx f0) u_eq (fun p w h I1 es hp f1 e9 ew eh => ?_) (fun p I1 es hp f1 e9 => ?_)
    · rw [es] at h1 h0
      obtain ⟨g1, g2, g3, g4⟩ := pS_ok es
      have fa := f0.trans (up3 f1)
      first | refine And.intro (fun cd => absurd cd (by decide)) (fun _ => ?_) | refine And.intro (fun _ => ?_) (fun cd => absurd cd (by decide)) | refine And.intro (fun cd => ?_) (fun cd => ?_)
      refine sp_readCells k n c p w h hk hn hp (tx fa) e9 ew eh g2 g4 (fun q S D I2 ec hq f2 e9' eS eD ew' eh' => ?_) (fun q o I2 ec ho hq f2 e9' => ?_)
      · simp only [ec] at h1 h0
        obtain ⟨c1, c2⟩ := cP_ok _ _ _ _ _ _ _ _ (by decide) (fun j ej => by cases ej) ec
        rw [Nat.zero_add] at c1 c2
        have fb := fa.trans (up3 f2)
        have wh : w * h ≤ 24 := Nat.mul_le_mul g2 g4
        first | refine And.intro (fun cd => absurd cd (by decide)) (fun _ => ?_) | refine And.intro (fun _ => ?_) (fun cd => absurd cd (by decide)) | refine And.intro (fun cd => ?_) (fun cd => ?_)
        refine sp_readLamps k n c q w h S hk hn hq (tx fb) e9' ew' eh' eS g2 (by omega) g4 g3 (Nat.lt_of_lt_of_le c1 (Nat.pow_le_pow_right (by decide) wh)) (fun r m K P R I3 el hm hl f3 e4 e3 er => ?_) (fun r I3 el hr f3 e9'' => ?_)
        · simp only [el] at h1 h0
          first | refine And.intro (fun cd => absurd cd (by decide)) (fun _ => ?_) | refine And.intro (fun _ => ?_) (fun cd => absurd cd (by decide)) | refine And.intro (fun cd => ?_) (fun cd => ?_)
          first | refine And.intro (fun cd => absurd cd (by decide)) (fun _ => ?_) | refine And.intro (fun _ => ?_) (fun cd => absurd cd (by decide)) | refine And.intro (fun cd => ?_) (fun cd => ?_)
          refine h1 r _ I3 rfl (fb.trans f3) ?_ ?_ ?_ ?_ e4 er
          · rw [e3 0 (by decide)]; exact ew'
          · rw [e3 1 (by decide)]; exact eh'
          · rw [e3 2 (by decide)]; exact eS
          · rw [e3 3 (by decide)]; exact eD
        · simp only [el] at h1 h0
          first | refine And.intro (fun cd => absurd cd (by decide)) (fun _ => ?_) | refine And.intro (fun _ => ?_) (fun cd => absurd cd (by decide)) | refine And.intro (fun cd => ?_) (fun cd => ?_)
          first | refine And.intro (fun cd => absurd cd (by decide)) (fun _ => ?_) | refine And.intro (fun _ => ?_) (fun cd => absurd cd (by decide)) | refine And.intro (fun cd => ?_) (fun cd => ?_)
          exact bad r I3 hr (fb.trans f3) e9'' (h0 r I3 rfl hr)
      · have fb := fa.trans (up3 f2)
        first | refine And.intro (fun cd => absurd cd (by decide)) (fun _ => ?_) | refine And.intro (fun _ => ?_) (fun cd => absurd cd (by decide)) | refine And.intro (fun cd => ?_) (fun cd => ?_)
        first | refine And.intro (fun cd => absurd cd (by decide)) (fun _ => ?_) | refine And.intro (fun _ => ?_) (fun cd => absurd cd (by decide)) | refine And.intro (fun cd => ?_) (fun cd => ?_)
        refine bad q I2 hq fb e9' (h0 q I2 ?_ hq)
        rcases ho with rfl | ⟨S, rfl⟩
        · simp only [ec]
        · simp only [ec]
    · simp only [es] at h1 h0
      have fa := f0.trans (up3 f1)
      first | refine And.intro (fun cd => absurd cd (by decide)) (fun _ => ?_) | refine And.intro (fun _ => ?_) (fun cd => absurd cd (by decide)) | refine And.intro (fun cd => ?_) (fun cd => ?_)
      first | refine And.intro (fun cd => absurd cd (by decide)) (fun _ => ?_) | refine And.intro (fun _ => ?_) (fun cd => absurd cd (by decide)) | refine And.intro (fun cd => ?_) (fun cd => ?_)
      exact bad p I1 hp fa e9 (h0 p I1 rfl hp)
  match k, hk with
  | 0, _ =>
    refine bm_go (am_ok_all 202 (by decide)) 5 ?_
    exact run
  | 1, _ =>
    refine bm_go (am_ok_all 202 (by decide)) 5 ?_
    exact run
  | 2, _ =>
    refine bm_go (am_ok_all 202 (by decide)) 5 ?_
    exact run
  | 3, _ =>
    refine bm_go (am_ok_all 202 (by decide)) 5 ?_
    exact run
end PB

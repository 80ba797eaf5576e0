/-! pair: shortest -/
section PS
variable {G : am_G} {l : Launch} {t : am_T} {I : am_I} {L : am_J} {Q : bm_P}
/-- the class, all of it but the row's number -/
theorem sp_shortest_0 {T : tT} (sh : Nat) (hok : tOk T) (hc : cT T I) (hL : cL T sh 13 I) (hO : InvO T sh t I) (h0 : ∀ I', frN exL I I' → I' 25 1 = 0 → I' 25 3 = nI (tN T) → I' 25 4 = nI (al T) → tabs T sh I' → Bo (gap T sh) (tN T) (al T) 0 7 = none → Q (some (.int (-9))) (t.1, some 7, some 12) I' L) (h1 : ∀ v I', frN (38 :: 39 :: exL) I I' → I' 25 1 = 0 → I' 25 3 = nI (tN T) → I' 25 4 = nI (al T) → tabs T sh I' → Bo (gap T sh) (tN T) (al T) 0 7 = some v → I' 38 1 = nI (tN T) → (∀ j, j < tN T → I' 39 j = nI (rwF (gd (gap T sh) (tN T) (al T) 64 0 7) j)) → Q (some (.int (nI v))) (t.1, some 7, some 12) I' L) (hlen : ∀ v, Bo (gap T sh) (tN T) (al T) 0 7 = some v → (gd (gap T sh) (tN T) (al T) 64 0 7).length = tN T) {x : Int32} (hx : x = nI 0) : bm_C G l 26 [.ref 0, .int x] t I L Q := by
  have n6 := hok.2.2.2.1
  have c24 := hok.1.c24
  have c2 := hok.1.c2
  have T20 : (1048576 : Int32).toInt = 1048576 := rfl
  have a64 := al_lt (Or.inl hok)
  have ob : ob (Bo (gap T sh) (tN T) (al T) 0 7) := fun v e => by
    have := Bo_lt (g := gap T sh) (fun s l k v e => gap_lt e) (tN T) (al T) _ 0 7 v rfl e
    omega
  subst hx
  refine bm_go (am_ok_all 26 (by decide)) 60 ?_
  refine sp_picked_r (nI 0) (fun cd => ?_) (fun k hk hx => ?_)
  · exfalso
    rcases cd with cd | cd <;> exact absurd cd (by decide)
  · have : k = 0 := (n_eq32 (by decide) (by omega) hx).symm
    subst this
    refine And.intro (fun _ => ?_) (fun cd => ?_)
    · refine sp_learn sh hok hc hL hO (fun I1 f1 e1 e3 e4 tb => ?_)
      refine bm_go (am_ok_all 189 (by decide)) 30 ?_
      refine sp_key 0 7 rfl rfl (by decide) (by decide) ?_
      refine ⟨7, rfl, (by omega : 7 < 512), ?_⟩
      have e7 : I1 29 7 = eN (Bo (gap T sh) (tN T) (al T) 0 7) := tb.2.2.1 0 7 (Nat.zero_le _) (by decide)
      refine And.intro (fun cd => ?_) (fun cd => ?_)
      · rw [T20, e7] at cd
        cases e : Bo (gap T sh) (tN T) (al T) 0 7 with
        | none =>
          have := (eN_nv ob).mpr e
          omega
        | some v =>
          refine sp_tellShortest_0 sh v n6 e3 e4 tb e (hlen v e) (fun I2 f2 z1 z2 => ?_)
          have := h1 v I2 ((f1.mono (by decide)).trans (f2.mono (by decide))) (by rw [f2 25 (by decide)]; exact e1) (by rw [f2 25 (by decide)]; exact e3) (by rw [f2 25 (by decide)]; exact e4) (by
            unfold tabs at tb ⊢
            rw [f2 27 (by decide), f2 28 (by decide), f2 29 (by decide), f2 30 (by decide)]
            exact tb) e z1 z2
          rw [e] at e7
          rw [← show eN (some v) = nI v from rfl, ← e7] at this
          exact this
      · rw [T20, e7] at cd
        exact h0 I1 f1 e1 e3 e4 tb ((eN_nv ob).mp cd)
    · rw [hc.2.1, nI_toInt (by omega)] at cd
      exact absurd cd (by show ¬ ((tC T : Int) = 0); omega)
theorem sp_shortest_1 {T : tT} (sh : Nat) (hok : tOk T) (hc : cT T I) (hL : cL T sh 13 I) (hO : InvO T sh t I) (h0 : ∀ I', frN exL I I' → I' 25 1 = 0 → I' 25 3 = nI (tN T) → I' 25 4 = nI (al T) → tabs T sh I' → Bo (gap T sh) (tN T) (al T) 0 7 = none → Q (some (.int (-9))) (t.1, some 7, some 12) I' L) (h1 : ∀ v I', frN (40 :: 41 :: exL) I I' → I' 25 1 = 0 → I' 25 3 = nI (tN T) → I' 25 4 = nI (al T) → tabs T sh I' → Bo (gap T sh) (tN T) (al T) 0 7 = some v → I' 40 1 = nI (tN T) → (∀ j, j < tN T → I' 41 j = nI (rwF (gd (gap T sh) (tN T) (al T) 64 0 7) j)) → Q (some (.int (nI v))) (t.1, some 7, some 12) I' L) (hlen : ∀ v, Bo (gap T sh) (tN T) (al T) 0 7 = some v → (gd (gap T sh) (tN T) (al T) 64 0 7).length = tN T) {x : Int32} (hx : x = nI 1) : bm_C G l 26 [.ref 0, .int x] t I L Q := by
  have n6 := hok.2.2.2.1
  have c24 := hok.1.c24
  have c2 := hok.1.c2
  have T20 : (1048576 : Int32).toInt = 1048576 := rfl
  have a64 := al_lt (Or.inl hok)
  have ob : ob (Bo (gap T sh) (tN T) (al T) 0 7) := fun v e => by
    have := Bo_lt (g := gap T sh) (fun s l k v e => gap_lt e) (tN T) (al T) _ 0 7 v rfl e
    omega
  subst hx
  refine bm_go (am_ok_all 26 (by decide)) 60 ?_
  refine sp_picked_r (nI 1) (fun cd => ?_) (fun k hk hx => ?_)
  · exfalso
    rcases cd with cd | cd <;> exact absurd cd (by decide)
  · have : k = 1 := (n_eq32 (by decide) (by omega) hx).symm
    subst this
    refine And.intro (fun _ => ?_) (fun cd => ?_)
    · refine sp_learn sh hok hc hL hO (fun I1 f1 e1 e3 e4 tb => ?_)
      refine bm_go (am_ok_all 189 (by decide)) 30 ?_
      refine sp_key 0 7 rfl rfl (by decide) (by decide) ?_
      refine ⟨7, rfl, (by omega : 7 < 512), ?_⟩
      have e7 : I1 29 7 = eN (Bo (gap T sh) (tN T) (al T) 0 7) := tb.2.2.1 0 7 (Nat.zero_le _) (by decide)
      refine And.intro (fun cd => ?_) (fun cd => ?_)
      · rw [T20, e7] at cd
        cases e : Bo (gap T sh) (tN T) (al T) 0 7 with
        | none =>
          have := (eN_nv ob).mpr e
          omega
        | some v =>
          refine sp_tellShortest_1 sh v n6 e3 e4 tb e (hlen v e) (fun I2 f2 z1 z2 => ?_)
          have := h1 v I2 ((f1.mono (by decide)).trans (f2.mono (by decide))) (by rw [f2 25 (by decide)]; exact e1) (by rw [f2 25 (by decide)]; exact e3) (by rw [f2 25 (by decide)]; exact e4) (by
            unfold tabs at tb ⊢
            rw [f2 27 (by decide), f2 28 (by decide), f2 29 (by decide), f2 30 (by decide)]
            exact tb) e z1 z2
          rw [e] at e7
          rw [← show eN (some v) = nI v from rfl, ← e7] at this
          exact this
      · rw [T20, e7] at cd
        exact h0 I1 f1 e1 e3 e4 tb ((eN_nv ob).mp cd)
    · rw [hc.2.1, nI_toInt (by omega)] at cd
      exact absurd cd (by show ¬ ((tC T : Int) = 0); omega)
theorem sp_shortest_2 {T : tT} (sh : Nat) (hok : tOk T) (hc : cT T I) (hL : cL T sh 13 I) (hO : InvO T sh t I) (h0 : ∀ I', frN exL I I' → I' 25 1 = 0 → I' 25 3 = nI (tN T) → I' 25 4 = nI (al T) → tabs T sh I' → Bo (gap T sh) (tN T) (al T) 0 7 = none → Q (some (.int (-9))) (t.1, some 7, some 12) I' L) (h1 : ∀ v I', frN (42 :: 43 :: exL) I I' → I' 25 1 = 0 → I' 25 3 = nI (tN T) → I' 25 4 = nI (al T) → tabs T sh I' → Bo (gap T sh) (tN T) (al T) 0 7 = some v → I' 42 1 = nI (tN T) → (∀ j, j < tN T → I' 43 j = nI (rwF (gd (gap T sh) (tN T) (al T) 64 0 7) j)) → Q (some (.int (nI v))) (t.1, some 7, some 12) I' L) (hlen : ∀ v, Bo (gap T sh) (tN T) (al T) 0 7 = some v → (gd (gap T sh) (tN T) (al T) 64 0 7).length = tN T) {x : Int32} (hx : x = nI 2) : bm_C G l 26 [.ref 0, .int x] t I L Q := by
  have n6 := hok.2.2.2.1
  have c24 := hok.1.c24
  have c2 := hok.1.c2
  have T20 : (1048576 : Int32).toInt = 1048576 := rfl
  have a64 := al_lt (Or.inl hok)
  have ob : ob (Bo (gap T sh) (tN T) (al T) 0 7) := fun v e => by
    have := Bo_lt (g := gap T sh) (fun s l k v e => gap_lt e) (tN T) (al T) _ 0 7 v rfl e
    omega
  subst hx
  refine bm_go (am_ok_all 26 (by decide)) 60 ?_
  refine sp_picked_r (nI 2) (fun cd => ?_) (fun k hk hx => ?_)
  · exfalso
    rcases cd with cd | cd <;> exact absurd cd (by decide)
  · have : k = 2 := (n_eq32 (by decide) (by omega) hx).symm
    subst this
    refine And.intro (fun _ => ?_) (fun cd => ?_)
    · refine sp_learn sh hok hc hL hO (fun I1 f1 e1 e3 e4 tb => ?_)
      refine bm_go (am_ok_all 189 (by decide)) 30 ?_
      refine sp_key 0 7 rfl rfl (by decide) (by decide) ?_
      refine ⟨7, rfl, (by omega : 7 < 512), ?_⟩
      have e7 : I1 29 7 = eN (Bo (gap T sh) (tN T) (al T) 0 7) := tb.2.2.1 0 7 (Nat.zero_le _) (by decide)
      refine And.intro (fun cd => ?_) (fun cd => ?_)
      · rw [T20, e7] at cd
        cases e : Bo (gap T sh) (tN T) (al T) 0 7 with
        | none =>
          have := (eN_nv ob).mpr e
          omega
        | some v =>
          refine sp_tellShortest_2 sh v n6 e3 e4 tb e (hlen v e) (fun I2 f2 z1 z2 => ?_)
          have := h1 v I2 ((f1.mono (by decide)).trans (f2.mono (by decide))) (by rw [f2 25 (by decide)]; exact e1) (by rw [f2 25 (by decide)]; exact e3) (by rw [f2 25 (by decide)]; exact e4) (by
            unfold tabs at tb ⊢
            rw [f2 27 (by decide), f2 28 (by decide), f2 29 (by decide), f2 30 (by decide)]
            exact tb) e z1 z2
          rw [e] at e7
          rw [← show eN (some v) = nI v from rfl, ← e7] at this
          exact this
      · rw [T20, e7] at cd
        exact h0 I1 f1 e1 e3 e4 tb ((eN_nv ob).mp cd)
    · rw [hc.2.1, nI_toInt (by omega)] at cd
      exact absurd cd (by show ¬ ((tC T : Int) = 0); omega)
theorem sp_shortest_3 {T : tT} (sh : Nat) (hok : tOk T) (hc : cT T I) (hL : cL T sh 13 I) (hO : InvO T sh t I) (h0 : ∀ I', frN exL I I' → I' 25 1 = 0 → I' 25 3 = nI (tN T) → I' 25 4 = nI (al T) → tabs T sh I' → Bo (gap T sh) (tN T) (al T) 0 7 = none → Q (some (.int (-9))) (t.1, some 7, some 12) I' L) (h1 : ∀ v I', frN (44 :: 45 :: exL) I I' → I' 25 1 = 0 → I' 25 3 = nI (tN T) → I' 25 4 = nI (al T) → tabs T sh I' → Bo (gap T sh) (tN T) (al T) 0 7 = some v → I' 44 1 = nI (tN T) → (∀ j, j < tN T → I' 45 j = nI (rwF (gd (gap T sh) (tN T) (al T) 64 0 7) j)) → Q (some (.int (nI v))) (t.1, some 7, some 12) I' L) (hlen : ∀ v, Bo (gap T sh) (tN T) (al T) 0 7 = some v → (gd (gap T sh) (tN T) (al T) 64 0 7).length = tN T) {x : Int32} (hx : x = nI 3) : bm_C G l 26 [.ref 0, .int x] t I L Q := by
  have n6 := hok.2.2.2.1
  have c24 := hok.1.c24
  have c2 := hok.1.c2
  have T20 : (1048576 : Int32).toInt = 1048576 := rfl
  have a64 := al_lt (Or.inl hok)
  have ob : ob (Bo (gap T sh) (tN T) (al T) 0 7) := fun v e => by
    have := Bo_lt (g := gap T sh) (fun s l k v e => gap_lt e) (tN T) (al T) _ 0 7 v rfl e
    omega
  subst hx
  refine bm_go (am_ok_all 26 (by decide)) 60 ?_
  refine sp_picked_r (nI 3) (fun cd => ?_) (fun k hk hx => ?_)
  · exfalso
    rcases cd with cd | cd <;> exact absurd cd (by decide)
  · have : k = 3 := (n_eq32 (by decide) (by omega) hx).symm
    subst this
    refine And.intro (fun _ => ?_) (fun cd => ?_)
    · refine sp_learn sh hok hc hL hO (fun I1 f1 e1 e3 e4 tb => ?_)
      refine bm_go (am_ok_all 189 (by decide)) 30 ?_
      refine sp_key 0 7 rfl rfl (by decide) (by decide) ?_
      refine ⟨7, rfl, (by omega : 7 < 512), ?_⟩
      have e7 : I1 29 7 = eN (Bo (gap T sh) (tN T) (al T) 0 7) := tb.2.2.1 0 7 (Nat.zero_le _) (by decide)
      refine And.intro (fun cd => ?_) (fun cd => ?_)
      · rw [T20, e7] at cd
        cases e : Bo (gap T sh) (tN T) (al T) 0 7 with
        | none =>
          have := (eN_nv ob).mpr e
          omega
        | some v =>
          refine sp_tellShortest_3 sh v n6 e3 e4 tb e (hlen v e) (fun I2 f2 z1 z2 => ?_)
          have := h1 v I2 ((f1.mono (by decide)).trans (f2.mono (by decide))) (by rw [f2 25 (by decide)]; exact e1) (by rw [f2 25 (by decide)]; exact e3) (by rw [f2 25 (by decide)]; exact e4) (by
            unfold tabs at tb ⊢
            rw [f2 27 (by decide), f2 28 (by decide), f2 29 (by decide), f2 30 (by decide)]
            exact tb) e z1 z2
          rw [e] at e7
          rw [← show eN (some v) = nI v from rfl, ← e7] at this
          exact this
      · rw [T20, e7] at cd
        exact h0 I1 f1 e1 e3 e4 tb ((eN_nv ob).mp cd)
    · rw [hc.2.1, nI_toInt (by omega)] at cd
      exact absurd cd (by show ¬ ((tC T : Int) = 0); omega)
theorem sp_shortest_4 {T : tT} (sh : Nat) (hok : tOk T) (hc : cT T I) (hL : cL T sh 13 I) (hO : InvO T sh t I) (h0 : ∀ I', frN exL I I' → I' 25 1 = 0 → I' 25 3 = nI (tN T) → I' 25 4 = nI (al T) → tabs T sh I' → Bo (gap T sh) (tN T) (al T) 0 7 = none → Q (some (.int (-9))) (t.1, some 7, some 12) I' L) (h1 : ∀ v I', frN (46 :: 47 :: exL) I I' → I' 25 1 = 0 → I' 25 3 = nI (tN T) → I' 25 4 = nI (al T) → tabs T sh I' → Bo (gap T sh) (tN T) (al T) 0 7 = some v → I' 46 1 = nI (tN T) → (∀ j, j < tN T → I' 47 j = nI (rwF (gd (gap T sh) (tN T) (al T) 64 0 7) j)) → Q (some (.int (nI v))) (t.1, some 7, some 12) I' L) (hlen : ∀ v, Bo (gap T sh) (tN T) (al T) 0 7 = some v → (gd (gap T sh) (tN T) (al T) 64 0 7).length = tN T) {x : Int32} (hx : x = nI 4) : bm_C G l 26 [.ref 0, .int x] t I L Q := by
  have n6 := hok.2.2.2.1
  have c24 := hok.1.c24
  have c2 := hok.1.c2
  have T20 : (1048576 : Int32).toInt = 1048576 := rfl
  have a64 := al_lt (Or.inl hok)
  have ob : ob (Bo (gap T sh) (tN T) (al T) 0 7) := fun v e => by
    have := Bo_lt (g := gap T sh) (fun s l k v e => gap_lt e) (tN T) (al T) _ 0 7 v rfl e
    omega
  subst hx
  refine bm_go (am_ok_all 26 (by decide)) 60 ?_
  refine sp_picked_r (nI 4) (fun cd => ?_) (fun k hk hx => ?_)
  · exfalso
    rcases cd with cd | cd <;> exact absurd cd (by decide)
  · have : k = 4 := (n_eq32 (by decide) (by omega) hx).symm
    subst this
    refine And.intro (fun _ => ?_) (fun cd => ?_)
    · refine sp_learn sh hok hc hL hO (fun I1 f1 e1 e3 e4 tb => ?_)
      refine bm_go (am_ok_all 189 (by decide)) 30 ?_
      refine sp_key 0 7 rfl rfl (by decide) (by decide) ?_
      refine ⟨7, rfl, (by omega : 7 < 512), ?_⟩
      have e7 : I1 29 7 = eN (Bo (gap T sh) (tN T) (al T) 0 7) := tb.2.2.1 0 7 (Nat.zero_le _) (by decide)
      refine And.intro (fun cd => ?_) (fun cd => ?_)
      · rw [T20, e7] at cd
        cases e : Bo (gap T sh) (tN T) (al T) 0 7 with
        | none =>
          have := (eN_nv ob).mpr e
          omega
        | some v =>
          refine sp_tellShortest_4 sh v n6 e3 e4 tb e (hlen v e) (fun I2 f2 z1 z2 => ?_)
          have := h1 v I2 ((f1.mono (by decide)).trans (f2.mono (by decide))) (by rw [f2 25 (by decide)]; exact e1) (by rw [f2 25 (by decide)]; exact e3) (by rw [f2 25 (by decide)]; exact e4) (by
            unfold tabs at tb ⊢
            rw [f2 27 (by decide), f2 28 (by decide), f2 29 (by decide), f2 30 (by decide)]
            exact tb) e z1 z2
          rw [e] at e7
          rw [← show eN (some v) = nI v from rfl, ← e7] at this
          exact this
      · rw [T20, e7] at cd
        exact h0 I1 f1 e1 e3 e4 tb ((eN_nv ob).mp cd)
    · rw [hc.2.1, nI_toInt (by omega)] at cd
      exact absurd cd (by show ¬ ((tC T : Int) = 0); omega)
theorem sp_shortest_5 {T : tT} (sh : Nat) (hok : tOk T) (hc : cT T I) (hL : cL T sh 13 I) (hO : InvO T sh t I) (h0 : ∀ I', frN exL I I' → I' 25 1 = 0 → I' 25 3 = nI (tN T) → I' 25 4 = nI (al T) → tabs T sh I' → Bo (gap T sh) (tN T) (al T) 0 7 = none → Q (some (.int (-9))) (t.1, some 7, some 12) I' L) (h1 : ∀ v I', frN (48 :: 49 :: exL) I I' → I' 25 1 = 0 → I' 25 3 = nI (tN T) → I' 25 4 = nI (al T) → tabs T sh I' → Bo (gap T sh) (tN T) (al T) 0 7 = some v → I' 48 1 = nI (tN T) → (∀ j, j < tN T → I' 49 j = nI (rwF (gd (gap T sh) (tN T) (al T) 64 0 7) j)) → Q (some (.int (nI v))) (t.1, some 7, some 12) I' L) (hlen : ∀ v, Bo (gap T sh) (tN T) (al T) 0 7 = some v → (gd (gap T sh) (tN T) (al T) 64 0 7).length = tN T) {x : Int32} (hx : x = nI 5) : bm_C G l 26 [.ref 0, .int x] t I L Q := by
  have n6 := hok.2.2.2.1
  have c24 := hok.1.c24
  have c2 := hok.1.c2
  have T20 : (1048576 : Int32).toInt = 1048576 := rfl
  have a64 := al_lt (Or.inl hok)
  have ob : ob (Bo (gap T sh) (tN T) (al T) 0 7) := fun v e => by
    have := Bo_lt (g := gap T sh) (fun s l k v e => gap_lt e) (tN T) (al T) _ 0 7 v rfl e
    omega
  subst hx
  refine bm_go (am_ok_all 26 (by decide)) 60 ?_
  refine sp_picked_r (nI 5) (fun cd => ?_) (fun k hk hx => ?_)
  · exfalso
    rcases cd with cd | cd <;> exact absurd cd (by decide)
  · have : k = 5 := (n_eq32 (by decide) (by omega) hx).symm
    subst this
    refine And.intro (fun _ => ?_) (fun cd => ?_)
    · refine sp_learn sh hok hc hL hO (fun I1 f1 e1 e3 e4 tb => ?_)
      refine bm_go (am_ok_all 189 (by decide)) 30 ?_
      refine sp_key 0 7 rfl rfl (by decide) (by decide) ?_
      refine ⟨7, rfl, (by omega : 7 < 512), ?_⟩
      have e7 : I1 29 7 = eN (Bo (gap T sh) (tN T) (al T) 0 7) := tb.2.2.1 0 7 (Nat.zero_le _) (by decide)
      refine And.intro (fun cd => ?_) (fun cd => ?_)
      · rw [T20, e7] at cd
        cases e : Bo (gap T sh) (tN T) (al T) 0 7 with
        | none =>
          have := (eN_nv ob).mpr e
          omega
        | some v =>
          refine sp_tellShortest_5 sh v n6 e3 e4 tb e (hlen v e) (fun I2 f2 z1 z2 => ?_)
          have := h1 v I2 ((f1.mono (by decide)).trans (f2.mono (by decide))) (by rw [f2 25 (by decide)]; exact e1) (by rw [f2 25 (by decide)]; exact e3) (by rw [f2 25 (by decide)]; exact e4) (by
            unfold tabs at tb ⊢
            rw [f2 27 (by decide), f2 28 (by decide), f2 29 (by decide), f2 30 (by decide)]
            exact tb) e z1 z2
          rw [e] at e7
          rw [← show eN (some v) = nI v from rfl, ← e7] at this
          exact this
      · rw [T20, e7] at cd
        exact h0 I1 f1 e1 e3 e4 tb ((eN_nv ob).mp cd)
    · rw [hc.2.1, nI_toInt (by omega)] at cd
      exact absurd cd (by show ¬ ((tC T : Int) = 0); omega)
end PS

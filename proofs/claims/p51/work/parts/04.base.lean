/-! what the small machine's words give -/
theorem am_ld_spec {f : Value → Prop} : ∀ (ls : am_L) (i : Nat), am_ld ls i f → ∃ v, ls[i]? = some (some v) ∧ f v
  | [], i, h => by cases i <;> exact h.elim
  | some v :: r, 0, h => ⟨v, rfl, h⟩
  | none :: r, 0, h => h.elim
  | some v :: r, i + 1, h => by
    obtain ⟨w, h1, h2⟩ := am_ld_spec r i h
    exact ⟨w, by simpa using h1, h2⟩
  | none :: r, i + 1, h => by
    obtain ⟨w, h1, h2⟩ := am_ld_spec r i h
    exact ⟨w, by simpa using h1, h2⟩
theorem am_kl_some {a : Option Value} {w : Value} (h : am_kl a = some w) : a = some w ∧ w.category ≠ 2 := by
  cases a with
  | none => cases h
  | some v => cases v <;> simp [am_kl] at h <;> subst h <;> exact ⟨rfl, by simp [Value.category]⟩
theorem am_set_spec : ∀ (ls : am_L) (i : Nat) (v : Value) (f : am_L → Prop), am_set ls i v f → ∃ ls' : am_L, f ls' ∧ i < ls.length ∧ ls'.length = ls.length ∧ ∀ (j : Nat) (w : Value), ls'[j]? = some (some w) → (j = i ∧ w = v) ∨ (j ≠ i ∧ ls[j]? = some (some w) ∧ ¬ (j + 1 = i ∧ w.category = 2))
  | [], i, v, f, h => by cases i <;> exact h.elim
  | a :: r, 0, v, f, h => ⟨some v :: r, h, by simp, by simp, fun j w hj => by
      cases j with
      | zero =>
        left
        simp at hj
        exact ⟨rfl, hj.symm⟩
      | succ j =>
        right
        exact ⟨by omega, by simpa using hj, by omega⟩⟩
  | a :: r, 1, v, f, h => by
      obtain ⟨r', h1, h2, h3, h4⟩ := am_set_spec r 0 v _ h
      refine ⟨am_kl a :: r', h1, by simp; omega, by simp [h3], fun j w hj => ?_⟩
      cases j with
      | zero =>
        right
        have hj : am_kl a = some w := by simpa using hj
        obtain ⟨e1, e2⟩ := am_kl_some hj
        exact ⟨by omega, by simp [e1], fun q => e2 q.2⟩
      | succ j =>
        have hj : r'[j]? = some (some w) := by simpa using hj
        rcases h4 j w hj with ⟨e, e2⟩ | ⟨e, e2, e3⟩
        · left; exact ⟨by omega, e2⟩
        · right; exact ⟨by omega, by simpa using e2, by omega⟩
  | a :: r, i + 2, v, f, h => by
      obtain ⟨r', h1, h2, h3, h4⟩ := am_set_spec r (i + 1) v _ h
      refine ⟨a :: r', h1, by simp; omega, by simp [h3], fun j w hj => ?_⟩
      cases j with
      | zero =>
        right
        have hj : a = some w := by simpa using hj
        exact ⟨by omega, by simp [hj], by omega⟩
      | succ j =>
        have hj : r'[j]? = some (some w) := by simpa using hj
        rcases h4 j w hj with ⟨e, e2⟩ | ⟨e, e2, e3⟩
        · left; exact ⟨by omega, e2⟩
        · right; exact ⟨by omega, by simpa using e2, fun q => e3 ⟨by omega, q.2⟩⟩
theorem am_setL_spec : ∀ (ls : am_L) (i : Nat) (v : Value) (f : am_L → Prop), am_setL ls i v f → ∃ ls' : am_L, f ls' ∧ i + 1 < ls.length ∧ ls'.length = ls.length ∧ ∀ (j : Nat) (w : Value), ls'[j]? = some (some w) → (j = i ∧ w = v) ∨ (j ≠ i ∧ j ≠ i + 1 ∧ ls[j]? = some (some w) ∧ ¬ (j + 1 = i ∧ w.category = 2))
  | [], i, v, f, h => by cases i <;> exact h.elim
  | [a], 0, v, f, h => h.elim
  | a :: a2 :: r, 0, v, f, h => ⟨some v :: none :: r, h, by simp, by simp, fun j w hj => by
      match j, hj with
      | 0, hj =>
        left
        simp at hj
        exact ⟨rfl, hj.symm⟩
      | 1, hj => simp at hj
      | j + 2, hj =>
        right
        exact ⟨by omega, by omega, by simpa using hj, by omega⟩⟩
  | a :: r, 1, v, f, h => by
      obtain ⟨r', h1, h2, h3, h4⟩ := am_setL_spec r 0 v _ h
      refine ⟨am_kl a :: r', h1, by simp; omega, by simp [h3], fun j w hj => ?_⟩
      cases j with
      | zero =>
        right
        have hj : am_kl a = some w := by simpa using hj
        obtain ⟨e1, e2⟩ := am_kl_some hj
        exact ⟨by omega, by omega, by simp [e1], fun q => e2 q.2⟩
      | succ j =>
        have hj : r'[j]? = some (some w) := by simpa using hj
        rcases h4 j w hj with ⟨e, e2⟩ | ⟨e, e1, e2, e3⟩
        · left; exact ⟨by omega, e2⟩
        · right; exact ⟨by omega, by omega, by simpa using e2, by omega⟩
  | a :: r, i + 2, v, f, h => by
      obtain ⟨r', h1, h2, h3, h4⟩ := am_setL_spec r (i + 1) v _ h
      refine ⟨a :: r', h1, by simp; omega, by simp [h3], fun j w hj => ?_⟩
      cases j with
      | zero =>
        right
        have hj : a = some w := by simpa using hj
        exact ⟨by omega, by omega, by simp [hj], by omega⟩
      | succ j =>
        have hj : r'[j]? = some (some w) := by simpa using hj
        rcases h4 j w hj with ⟨e, e2⟩ | ⟨e, e1, e2, e3⟩
        · left; exact ⟨by omega, e2⟩
        · right; exact ⟨by omega, by omega, by simpa using e2, fun q => e3 ⟨by omega, q.2⟩⟩
theorem am_i_spec {v : Value} {f : Int32 → Prop} (h : am_i v f) : ∃ x, v = .int x ∧ f x := by cases v <;> first | exact ⟨_, rfl, h⟩ | exact h.elim
theorem am_l_spec {v : Value} {f : Int64 → Prop} (h : am_l v f) : ∃ x, v = .long x ∧ f x := by cases v <;> first | exact ⟨_, rfl, h⟩ | exact h.elim
theorem am_a_spec {v : Value} {f : Prop} (h : am_a v f) : ((∃ x, v = .ref x) ∨ v = .null ∨ ∃ x, v = .float x) ∧ f := by
  cases v <;> first | exact ⟨Or.inl ⟨_, rfl⟩, h⟩ | exact ⟨Or.inr (Or.inl rfl), h⟩ | exact ⟨Or.inr (Or.inr ⟨_, rfl⟩), h⟩ | exact h.elim
theorem am_pv_spec {st : List Value} {f : Value → List Value → Prop} (h : am_pv st f) : ∃ v r, st = v :: r ∧ f v r := by
  cases st with
  | nil => exact h.elim
  | cons v r => exact ⟨v, r, rfl, h⟩
theorem am_pi_spec {st : List Value} {f : Int32 → List Value → Prop} (h : am_pi st f) : ∃ v r, st = .int v :: r ∧ f v r := by
  cases st with
  | nil => exact h.elim
  | cons v r => cases v <;> first | exact ⟨_, r, rfl, h⟩ | exact h.elim
theorem am_pl_spec {st : List Value} {f : Int64 → List Value → Prop} (h : am_pl st f) : ∃ v r, st = .long v :: r ∧ f v r := by
  cases st with
  | nil => exact h.elim
  | cons v r => cases v <;> first | exact ⟨_, r, rfl, h⟩ | exact h.elim
theorem am_pr_spec {st : List Value} {f : Nat → List Value → Prop} (h : am_pr st f) : ∃ v r, st = .ref v :: r ∧ f v r := by
  cases st with
  | nil => exact h.elim
  | cons v r => cases v <;> first | exact ⟨_, r, rfl, h⟩ | exact h.elim
theorem am_cat1_spec {v : Value} {f : Prop} (h : am_cat1 v f) : v.category = 1 ∧ f := by
  cases v <;> first | exact ⟨rfl, h⟩ | exact h.elim
theorem am_sh_spec {g : am_S} {a : Nat} {f : Nat → Nat → Prop} (h : am_sh g a f) : a < g.1.1 ∧ f (g.1.2 a).1 (g.1.2 a).2 := by
  unfold am_sh at h
  cases hb : Nat.ble (a + 1) g.1.1 with
  | true => rw [hb] at h; exact ⟨Nat.le_of_ble_eq_true hb, h⟩
  | false => rw [hb] at h; exact h.elim
theorem am_if_spec {c : Bool} {f : Prop} (h : am_if c f) : c = true ∧ f := by
  cases c with
  | true => exact ⟨rfl, h⟩
  | false => exact h.elim
theorem am_rv_spec {o : Option Nat} {f : Value → Prop} {G : am_G} (h : am_rv o f) : ∃ v, va_rf (o.map (fun q => G.1 + q)) = am_cv G v ∧ f v := by
  cases o with
  | none => exact ⟨_, rfl, h⟩
  | some q => exact ⟨_, rfl, h⟩
theorem am_take_spec {f : List Value → List Value → Prop} : ∀ (n : Nat) (st acc : List Value), am_take n st acc f → ∃ xs r, st = xs ++ r ∧ xs.length = n ∧ f (xs.reverse ++ acc) r
  | 0, st, acc, h => ⟨[], st, rfl, rfl, h⟩
  | n + 1, [], acc, h => h.elim
  | n + 1, v :: st, acc, h => by
    obtain ⟨xs, r, h1, h2, h3⟩ := am_take_spec n st (v :: acc) h
    exact ⟨v :: xs, r, by rw [h1]; rfl, by simp [h2], by simpa using h3⟩
theorem am_cats_eq (G : am_G) : ∀ (vs : List Value), am_cats vs = ((vs.map (am_cv G)).map fun v => v.category).sum
  | [] => rfl
  | v :: r => by
    have h := am_cats_eq G r
    simp only [am_cats, List.map_cons, List.sum_cons, h]
    congr 1
    cases v <;> rfl
theorem am_cv_cat (G : am_G) (v : Value) : (am_cv G v).category = v.category := by cases v <;> rfl
/-! locals -/
def am_al1 (G : am_G) (ls : am_L) : List (Nat × Value) := (List.range ls.length).filterMap (fun i => match ls[i]? with
  | some (some v) => some (i, am_cv G v)
  | _ => none)
theorem am_al1_mem {G : am_G} {ls : am_L} {i : Nat} {w : Value} : (i, w) ∈ am_al1 G ls ↔ ∃ v, ls[i]? = some (some v) ∧ w = am_cv G v := by
  constructor
  · intro h
    obtain ⟨j, -, h2⟩ := List.mem_filterMap.mp h
    revert h2
    split
    · next v hv =>
      intro h2
      cases h2
      exact ⟨v, hv, rfl⟩
    · intro h2; cases h2
  · rintro ⟨v, hv, rfl⟩
    refine List.mem_filterMap.mpr ⟨i, List.mem_range.mpr (List.getElem?_eq_some_iff.mp hv).1, ?_⟩
    rw [hv]
theorem am_lok.has {G : am_G} {n : Nat} {ls : am_L} {A : Array Slot} (h : am_lok G n ls A) : lv_has A n (am_al1 G ls) := by
  refine ⟨h.1, h.2.2.1, fun q hq => ?_⟩
  obtain ⟨v, h1, h2⟩ := am_al1_mem.mp (show (q.1, q.2) ∈ am_al1 G ls from hq)
  rw [h2]
  exact h.2.2.2 _ _ h1
theorem am_lok.st {G : am_G} {n i : Nat} {ls ls' : am_L} {A B : Array Slot} {v : Value} (h : am_lok G n ls A) (hl : ls'.length = ls.length) (hs : ∀ (j : Nat) (w : Value), ls'[j]? = some (some w) → (j = i ∧ w = v) ∨ (j ≠ i ∧ ls[j]? = some (some w) ∧ ¬ (j + 1 = i ∧ w.category = 2)))
    (hb : lv_has B n ((i, am_cv G v) :: (am_al1 G ls).filter (fun q => !(q.1 == i) && !(q.1 + 1 == i && q.2.category == 2)))) : am_lok G n ls' B := by
  refine ⟨hb.1, by rw [hl]; exact h.2.1, hb.2.1, fun j w hj => ?_⟩
  rcases hs j w hj with ⟨rfl, rfl⟩ | ⟨e1, e2, e3⟩
  · exact hb.2.2 (j, am_cv G w) List.mem_cons_self
  · refine hb.2.2 (j, am_cv G w) (List.mem_cons_of_mem _ (List.mem_filter.mpr ⟨am_al1_mem.mpr ⟨w, e2, rfl⟩, ?_⟩))
    simp only [am_cv_cat]
    by_cases hc : w.category = 2 <;> simp [e1, hc]
    intro q
    exact e3 ⟨q, hc⟩
theorem am_lok.stL {G : am_G} {n i : Nat} {ls ls' : am_L} {A B : Array Slot} {v : Value} (h : am_lok G n ls A) (hl : ls'.length = ls.length) (hs : ∀ (j : Nat) (w : Value), ls'[j]? = some (some w) → (j = i ∧ w = v) ∨ (j ≠ i ∧ j ≠ i + 1 ∧ ls[j]? = some (some w) ∧ ¬ (j + 1 = i ∧ w.category = 2)))
    (hb : lv_has B n ((i, am_cv G v) :: (am_al1 G ls).filter (fun q => !(q.1 == i) && (!(q.1 == i + 1) && !(q.1 + 1 == i && q.2.category == 2))))) : am_lok G n ls' B := by
  refine ⟨hb.1, by rw [hl]; exact h.2.1, hb.2.1, fun j w hj => ?_⟩
  rcases hs j w hj with ⟨rfl, rfl⟩ | ⟨e1, e0, e2, e3⟩
  · exact hb.2.2 (j, am_cv G w) List.mem_cons_self
  · refine hb.2.2 (j, am_cv G w) (List.mem_cons_of_mem _ (List.mem_filter.mpr ⟨am_al1_mem.mpr ⟨w, e2, rfl⟩, ?_⟩))
    simp only [am_cv_cat]
    by_cases hc : w.category = 2 <;> simp [e1, e0, hc]
    intro q
    exact e3 ⟨q, hc⟩
theorem am_ia_mem (G : am_G) : ∀ (As : List Value) (k i : Nat) (v : Value), (am_ia As)[i]? = some (some v) → (k + i, am_cv G v) ∈ lv_args k (As.map (am_cv G))
  | [], k, i, v, h => by simp [am_ia] at h
  | a :: As, k, i, v, h => by
    have hc : (am_cv G a).category = a.category := am_cv_cat G a
    have two : (∀ r, am_ia (a :: As) = some a :: none :: r → r = am_ia As → a.category = 2 → (k + i, am_cv G v) ∈ lv_args k ((a :: As).map (am_cv G))) := by
      intro r e1 e2 e3
      rw [e1, e2] at h
      simp only [List.map_cons, lv_args, hc, e3, if_true]
      match i, h with
      | 0, h =>
        simp at h
        subst h
        exact List.mem_cons_self
      | 1, h => simp at h
      | i + 2, h =>
        have h' : (am_ia As)[i]? = some (some v) := by simpa using h
        have := am_ia_mem G As (k + 2) i v h'
        rw [show k + (i + 2) = k + 2 + i by omega]
        exact List.mem_cons_of_mem _ this
    have one : am_ia (a :: As) = some a :: am_ia As → a.category = 1 → (k + i, am_cv G v) ∈ lv_args k ((a :: As).map (am_cv G)) := by
      intro e1 e3
      rw [e1] at h
      simp only [List.map_cons, lv_args, hc, e3]
      match i, h with
      | 0, h =>
        simp at h
        subst h
        exact List.mem_cons_self
      | i + 1, h =>
        have h' : (am_ia As)[i]? = some (some v) := by simpa using h
        have := am_ia_mem G As (k + 1) i v h'
        rw [show k + (i + 1) = k + 1 + i by omega]
        exact List.mem_cons_of_mem _ this
    cases a with
    | long x => exact two _ rfl rfl rfl
    | double x => exact two _ rfl rfl rfl
    | int x => exact one rfl rfl
    | float x => exact one rfl rfl
    | null => exact one rfl rfl
    | ref x => exact one rfl rfl
    | retAddr x => exact one rfl rfl
theorem am_pad_get : ∀ (n : Nat) (l : am_L) (i : Nat) (v : Value), (am_pad n l)[i]? = some (some v) → l[i]? = some (some v)
  | 0, l, i, v, h => by simp [am_pad] at h
  | n + 1, [], i, v, h => by
    cases i with
    | zero => simp [am_pad] at h
    | succ i =>
      have h' : (am_pad n [])[i]? = some (some v) := by simpa [am_pad] using h
      have := am_pad_get n [] i v h'
      simp at this
  | n + 1, a :: r, i, v, h => by
    cases i with
    | zero => simpa [am_pad] using h
    | succ i =>
      have h' : (am_pad n r)[i]? = some (some v) := by simpa [am_pad] using h
      simpa using am_pad_get n r i v h'
theorem am_pad_len : ∀ (n : Nat) (l : am_L), (am_pad n l).length = n
  | 0, l => rfl
  | n + 1, [] => by simp [am_pad, am_pad_len n]
  | n + 1, a :: r => by simp [am_pad, am_pad_len n]
theorem am_sl_len (G : am_G) : ∀ (As : List Value), (lg_sl (As.map (am_cv G))).length = am_cats As
  | [] => rfl
  | a :: As => by
    have h := am_sl_len G As
    simp only [lg_sl] at h
    simp only [lg_sl, List.map_cons, List.flatMap_cons, List.length_append, h, am_cats, am_cv_cat]
    congr 1
    cases a <;> simp [Value.category]
theorem am_entry (G : am_G) (As : List Value) {n : Nat} (h : am_cats As ≤ n) : am_lok G n (am_init n As) ((lg_sl (As.map (am_cv G)) ++ List.replicate (n - (lg_sl (As.map (am_cv G))).length) Slot.unset).toArray) := by
  have hl := lv_entry (As.map (am_cv G)) (n := n) (by rw [am_sl_len]; exact h)
  refine ⟨hl.1, by rw [am_init, am_pad_len]; exact Nat.le_refl _, hl.2.1, fun i v hi => ?_⟩
  have h1 := am_ia_mem G As 0 i v (am_pad_get _ _ _ _ hi)
  rw [Nat.zero_add] at h1
  exact hl.2.2 _ h1

/-! pairs: bars, rings, thief, lamp -/
/-- a set that grows step by step is full after as many steps as there are places -/
theorem grow {C : Nat} (f : Nat → Nat) (hl : ∀ i, f i < 2 ^ C) (hg : ∀ i b, (f i).testBit b = true → (f (i + 1)).testBit b = true) (hs : ∀ i j, f i = f j → f (i + 1) = f (j + 1)) : ∀ i, C ≤ i → f i = f C := by
  have pcm : ∀ n a b, (∀ i, i < n → a.testBit i = true → b.testBit i = true) → pcn n a ≤ pcn n b ∧ (pcn n a = pcn n b → ∀ i, i < n → a.testBit i = b.testBit i) := by
    intro n
    induction n with
    | zero => intro a b _; exact ⟨Nat.le_refl _, fun _ i hi => by omega⟩
    | succ n ih =>
      intro a b hab
      have h0 := hab 0 (by omega)
      rw [Nat.testBit_zero, Nat.testBit_zero] at h0
      simp only [decide_eq_true_eq] at h0
      obtain ⟨h1, h2⟩ := ih (a / 2) (b / 2) (fun i hi => by rw [Nat.testBit_div_two, Nat.testBit_div_two]; exact hab (i + 1) (by omega))
      rw [pcn_s, pcn_s]
      refine ⟨by omega, fun e i hi => ?_⟩
      match i, hi with
      | 0, _ =>
        rw [Nat.testBit_zero, Nat.testBit_zero]
        have : a % 2 = b % 2 := by omega
        rw [this]
      | i + 1, hi =>
        rw [← Nat.testBit_div_two, ← Nat.testBit_div_two]
        exact h2 (by omega) i (by omega)
  have mono : ∀ i, pcn C (f i) ≤ pcn C (f (i + 1)) := fun i => (pcm C _ _ (fun b _ => hg i b)).1
  have eq : ∀ i, pcn C (f i) = pcn C (f (i + 1)) → f i = f (i + 1) := fun i e => tb_ext (hl i) (hl (i + 1)) ((pcm C _ _ (fun b _ => hg i b)).2 e)
  have stay : ∀ i, f i = f (i + 1) → ∀ j, f (i + j) = f i := by
    intro i e j
    induction j with
    | zero => rfl
    | succ j ih =>
      have := hs (i + j) i ih
      rw [← e] at this
      exact this
  have ex : ∃ i, i ≤ C ∧ f i = f (i + 1) := by
    by_cases q : ∃ i, i ≤ C ∧ f i = f (i + 1)
    · exact q
    · exfalso
      have inc : ∀ i, i ≤ C → pcn C (f i) + 1 ≤ pcn C (f (i + 1)) := by
        intro i hi
        have h1 := mono i
        have h2 : ¬ pcn C (f i) = pcn C (f (i + 1)) := fun e => q ⟨i, hi, eq i e⟩
        omega
      have all : ∀ i, i ≤ C + 1 → i ≤ pcn C (f i) := by
        intro i
        induction i with
        | zero => intro _; omega
        | succ i ih =>
          intro hi
          have := ih (by omega)
          have := inc i (by omega)
          omega
      have h1 := all (C + 1) (by omega)
      have h2 := pcn_le C (f (C + 1))
      omega
  obtain ⟨i, hi, e⟩ := ex
  intro j hj
  have h1 := stay i e (j - i)
  have h2 := stay i e (C - i)
  rw [show i + (j - i) = j by omega] at h1
  rw [show i + (C - i) = C by omega] at h2
  rw [h1, h2]
theorem dk_lt {T : tT} (hT : tG T) (b f : Nat) : ∀ i, dk T b f i < 2 ^ tC T
  | 0 => and_lt _ (and_lt' _ hT.2.2.2.2)
  | i + 1 => or_lt (dk_lt hT b f i) (and_lt _ (nr_ltC hT _))
theorem dk_all {T : tT} (hT : tG T) (b f : Nat) : dk T b f 24 = dk T b f (tC T) := by
  refine grow (dk T b f) (dk_lt hT b f) (fun i q hq => ?_) (fun i j e => ?_) 24 hT.c24
  · show (dk T b f i ||| _).testBit q = true
    rw [Nat.testBit_or, hq]
    rfl
  · show (dk T b f i ||| (nr T (dk T b f i) &&& cm b)) = (dk T b f j ||| (nr T (dk T b f j) &&& cm b))
    rw [e]
/-- the reference's way to go on in the dark -/
theorem dk_step {T : tT} (hT : tG T) (b f : Nat) : ∀ i, spT T (dk T b f i) &&& (tS T &&& cm b) = dk T b f (i + 1) ∧ dk T b f i &&& (tS T &&& cm b) = dk T b f i := by
  have key : ∀ i, dk T b f i &&& (tS T &&& cm b) = dk T b f i → spT T (dk T b f i) &&& (tS T &&& cm b) = dk T b f (i + 1) := by
    intro i h
    rw [spT_eq]
    show _ = dk T b f i ||| (nr T (dk T b f i) &&& cm b)
    rw [Nat.and_or_distrib_right]
    congr 1
    · rw [Nat.and_assoc, ← Nat.and_assoc (tS T) (tS T), Nat.and_self, h]
    · rw [← Nat.and_assoc, nr_sub]
  have sub : ∀ i, dk T b f i &&& (tS T &&& cm b) = dk T b f i := by
    intro i
    induction i with
    | zero =>
      show ((f &&& tS T) &&& cm b) &&& (tS T &&& cm b) = (f &&& tS T) &&& cm b
      apply Nat.eq_of_testBit_eq
      intro i
      simp only [Nat.testBit_and]
      cases f.testBit i <;> cases (tS T).testBit i <;> cases (cm b).testBit i <;> rfl
    | succ i ih =>
      show (dk T b f i ||| (nr T (dk T b f i) &&& cm b)) &&& (tS T &&& cm b) = _
      rw [Nat.and_or_distrib_right, ih]
      congr 1
      have e : ∀ z S c : Nat, (z &&& c) &&& (S &&& c) = (z &&& S) &&& c := fun z S c => by
        apply Nat.eq_of_testBit_eq
        intro i
        simp only [Nat.testBit_and]
        cases z.testBit i <;> cases S.testBit i <;> cases c.testBit i <;> rfl
      rw [e, nr_sub]
  exact fun i => ⟨key i (sub i), sub i⟩
section PB
variable {G : am_G} {l : Launch} {t : am_T} {I : am_I} {L : am_J} {Q : bm_P}
end PB

/-! goes: its loops -/
def fI (o : Option Nat) : Int32 := match o with
  | some x => nI x
  | none => -1
theorem fI_lt {o : Option Nat} (h : ∀ x, o = some x → x < 1000) : (fI o).toInt < 0 ↔ o = none := by
  cases o with
  | none => exact ⟨fun _ => rfl, fun _ => by decide⟩
  | some x =>
    have hx := h x rfl
    show (nI x).toInt < 0 ↔ _
    rw [nI_toInt (by omega)]
    constructor
    · intro q; omega
    · intro q; cases q
theorem fI_eq {o : Option Nat} {n : Nat} (h : ∀ x, o = some x → x < 1000) (hn : n < 1000) : (fI o).toInt = (nI n).toInt ↔ o = some n := by
  rw [nI_toInt (by omega)]
  cases o with
  | none =>
    show (-1 : Int32).toInt = (n : Int) ↔ _
    rw [show (-1 : Int32).toInt = -1 from rfl]
    constructor
    · intro q; omega
    · intro q; cases q
  | some x =>
    have hx := h x rfl
    show (nI x).toInt = (n : Int) ↔ _
    rw [nI_toInt (by omega)]
    constructor
    · intro q; rw [show x = n by omega]
    · intro q; cases q; rfl
theorem dn_t {j : Nat} (h : j < 1000) : (nI j + -1).toInt = (j : Int) - 1 := by
  cases j with
  | zero => decide
  | succ j =>
    rw [pk_m1, nI_toInt (by omega)]
    omega
theorem dn_1 (m : Nat) : nI m - 1 = nI m + -1 := by
  rw [Int32.sub_eq_add_neg]
/-- the three arrays of a search -/
def gC (n : Nat) : Prop := 63 ≤ n ∧ n + 3 ≤ 81 ∧ am_SH n = (100, 48) ∧ am_SH (n + 1) = (100, 48) ∧ am_SH (n + 2) = (100, 48)
def gA (n : Nat) (far : Nat → Option Nat) (cm : Nat → Nat) (I : am_I) : Prop := (∀ k, k < 48 → I n k = fI (far k)) ∧ ∀ k m, far k = some (m + 1) → I (n + 1) k = nI (cm k)
def gW (n m : Nat) (wy : Nat → Nat) (I : am_I) : Prop := ∀ i, i < m → I (n + 2) i = nI (wy i) ∧ wy i < 4
abbrev gL (x y : Int32) (n : Nat) (b fd nn : Int32) (r : am_L) : am_L := some (.ref 0) :: some (.int x) :: some (.int y) :: some (.ref n) :: some (.ref (n + 1)) :: some (.ref (n + 2)) :: some (.int b) :: some (.int fd) :: some (.int nn) :: r
theorem gA.fr {n : Nat} {far : Nat → Option Nat} {cm : Nat → Nat} {I I' : am_I} (h : gA n far cm I) (e1 : I' n = I n) (e2 : I' (n + 1) = I (n + 1)) : gA n far cm I' := by
  unfold gA at h ⊢
  rw [e1, e2]
  exact h
section GO
variable {G : am_G} {l : Launch} {t : am_T} {L : am_J} {Q : nm_P} {T : tT} {sh f own br bg nn : Nat} {s : sT} {far : Nat → Option Nat} {cm : Nat → Nat} {n : Nat} {x y fd nv : Int32}
theorem g_back (hT : tG T) (hC : gC n) (hF : BF T sh s f own br bg nn far cm) {k : Nat} {kv : Int32} {d12 d13 d14 d15 : Option Value} : ∀ (i m b : Nat) (wy : Nat → Nat) (I : am_I) (zm zb : Int32), far b = some i → m + i ≤ 47 → zm = nI m → zb = nI b → gA n far cm I → gW n m wy I → pf T sh s wy k m b →
    (∀ (wy' : Nat → Nat) (I' : am_I), (∀ z, z ≠ n + 2 → I' z = I z) → gW n (m + i) wy' I' → pf T sh s wy' k (m + i) bg → nm_W G l 78 167 (gL x y n (nI bg) fd nv [some (.int kv), some (.int (nI (m + i))), some (.int (nI bg)), d12, d13, d14, d15]) [] (n + 3) 3 144 t I' L Q) →
    nm_W G l 78 133 (gL x y n (nI bg) fd nv [some (.int kv), some (.int zm), some (.int zb), d12, d13, d14, d15]) [] (n + 3) 3 144 t I L Q := by
  have h24 := hT.c24
  intro i
  induction i with
  | zero =>
    intro m b wy I zm zb hb hm ezm ezb hA hW hp kont
    subst ezm ezb
    have eb := (hF.2.2 b).mp hb
    subst eb
    refine nm_go (am_ok_all 78 (by decide)) 2 ?_
    refine And.intro (fun _ => ?_) (fun cd => absurd rfl cd)
    exact kont wy I (fun _ _ => rfl) hW hp
  | succ i ih =>
    intro m b wy I zm zb hb hm ezm ezb hA hW hp kont
    subst ezm ezb
    have nb : b ≠ bg := fun e => by
      rw [(hF.2.2 b).mpr e] at hb
      cases hb
    have bl := (hF.1 b _ hb).1
    have bgl := (hF.1 bg 0 ((hF.2.2 bg).mpr rfl)).1
    obtain ⟨p, w, hw, ec, ep, he⟩ := hF.2.1 b i hb
    have pl := (hF.1 p i ep).1
    have hcm := hA.2 b i hb
    rw [ec] at hcm
    have e4 : ¬ (4 : Int32).toInt = 0 := by decide
    have er : I (n + 1) b - I (n + 1) b / 4 * 4 = nI w := by
      rw [hcm, k4, pk_rem (by omega) (by decide) (by decide)]
      congr 1
      omega
    have ed : I (n + 1) b / 4 = nI p := by
      rw [hcm, k4, pk_div (by omega) (by decide) (by decide)]
      congr 1
      omega
    refine nm_go (am_ok_all 78 (by decide)) 2 ?_
    refine And.intro (fun cd => ?_) (fun cd => ?_)
    · rw [nI_toInt (by omega), nI_toInt (by omega)] at cd
      omega
    refine nm_go (am_ok_all 78 (by decide)) 60 ?_
    refine ⟨48, ⟨by have := hC.2.1; omega, hC.2.2.2.1⟩, b, nI_toInt (by omega), by omega, ?_⟩
    refine ⟨e4, ?_⟩
    rw [er]
    refine ⟨48, ⟨by have := hC.2.1; omega, hC.2.2.2.2⟩, m, nI_toInt (by omega), by omega, ?_⟩
    refine ⟨48, ⟨by have := hC.2.1; omega, hC.2.2.2.1⟩, b, nI_toInt (by omega), by omega, ?_⟩
    refine ⟨e4, ?_⟩
    rw [u_ne (show n + 1 ≠ n + 2 by omega), ed]
    have wy1 : ∀ j, j < m → cup wy m w j = wy j := fun j hj => cup_ne (by omega)
    refine ih (m + 1) p (cup wy m w) _ _ _ ep (by omega) (nI_succ m).symm rfl (hA.fr (u_ne (by omega)) (u_ne (by omega))) (fun j hj => ?_) ⟨b, by rw [cup_eq]; exact he, pf_c m b wy1 hp⟩ (fun wy' I' f' W' p' => ?_)
    · by_cases ej : j = m
      · subst ej
        rw [u_eq, cup_eq]
        exact ⟨rfl, hw⟩
      · rw [u_nj ej, cup_ne ej]
        exact hW j (by omega)
    · rw [show m + 1 + i = m + (i + 1) by omega] at W' p' ⊢
      refine kont wy' I' (fun z hz => ?_) W' p'
      rw [f' z hz, u_ne hz]
theorem g_back2 (hT : tG T) (hC : gC n) (hF : BF T sh s f own br bg nn far cm) {k : Nat} {d10 d11 d12 d13 d14 d15 : Option Value} : ∀ (i m b : Nat) (wy : Nat → Nat) (I : am_I) (zm zb : Int32), far b = some i → m + i ≤ 47 → zm = nI m → zb = nI b → gA n far cm I → gW n m wy I → pf T sh s wy k m b →
    (∀ (wy' : Nat → Nat) (I' : am_I), (∀ z, z ≠ n + 2 → I' z = I z) → gW n (m + i) wy' I' → pf T sh s wy' k (m + i) bg → nm_W G l 78 380 (gL x y n (nI bg) fd (nI (m + i)) [some (.int (nI bg)), d10, d11, d12, d13, d14, d15]) [] (n + 3) 3 144 t I' L Q) →
    nm_W G l 78 346 (gL x y n (nI bg) fd zm [some (.int zb), d10, d11, d12, d13, d14, d15]) [] (n + 3) 3 144 t I L Q := by
  have h24 := hT.c24
  intro i
  induction i with
  | zero =>
    intro m b wy I zm zb hb hm ezm ezb hA hW hp kont
    subst ezm ezb
    have eb := (hF.2.2 b).mp hb
    subst eb
    refine nm_go (am_ok_all 78 (by decide)) 2 ?_
    refine And.intro (fun _ => ?_) (fun cd => absurd rfl cd)
    exact kont wy I (fun _ _ => rfl) hW hp
  | succ i ih =>
    intro m b wy I zm zb hb hm ezm ezb hA hW hp kont
    subst ezm ezb
    have nb : b ≠ bg := fun e => by
      rw [(hF.2.2 b).mpr e] at hb
      cases hb
    have bl := (hF.1 b _ hb).1
    have bgl := (hF.1 bg 0 ((hF.2.2 bg).mpr rfl)).1
    obtain ⟨p, w, hw, ec, ep, he⟩ := hF.2.1 b i hb
    have pl := (hF.1 p i ep).1
    have hcm := hA.2 b i hb
    rw [ec] at hcm
    have e4 : ¬ (4 : Int32).toInt = 0 := by decide
    have er : I (n + 1) b - I (n + 1) b / 4 * 4 = nI w := by
      rw [hcm, k4, pk_rem (by omega) (by decide) (by decide)]
      congr 1
      omega
    have ed : I (n + 1) b / 4 = nI p := by
      rw [hcm, k4, pk_div (by omega) (by decide) (by decide)]
      congr 1
      omega
    refine nm_go (am_ok_all 78 (by decide)) 2 ?_
    refine And.intro (fun cd => ?_) (fun cd => ?_)
    · rw [nI_toInt (by omega), nI_toInt (by omega)] at cd
      omega
    refine nm_go (am_ok_all 78 (by decide)) 60 ?_
    refine ⟨48, ⟨by have := hC.2.1; omega, hC.2.2.2.1⟩, b, nI_toInt (by omega), by omega, ?_⟩
    refine ⟨e4, ?_⟩
    rw [er]
    refine ⟨48, ⟨by have := hC.2.1; omega, hC.2.2.2.2⟩, m, nI_toInt (by omega), by omega, ?_⟩
    refine ⟨48, ⟨by have := hC.2.1; omega, hC.2.2.2.1⟩, b, nI_toInt (by omega), by omega, ?_⟩
    refine ⟨e4, ?_⟩
    rw [u_ne (show n + 1 ≠ n + 2 by omega), ed]
    have wy1 : ∀ j, j < m → cup wy m w j = wy j := fun j hj => cup_ne (by omega)
    refine ih (m + 1) p (cup wy m w) _ _ _ ep (by omega) (nI_succ m).symm rfl (hA.fr (u_ne (by omega)) (u_ne (by omega))) (fun j hj => ?_) ⟨b, by rw [cup_eq]; exact he, pf_c m b wy1 hp⟩ (fun wy' I' f' W' p' => ?_)
    · by_cases ej : j = m
      · subst ej
        rw [u_eq, cup_eq]
        exact ⟨rfl, hw⟩
      · rw [u_nj ej, cup_ne ej]
        exact hW j (by omega)
    · rw [show m + 1 + i = m + (i + 1) by omega] at W' p' ⊢
      refine kont wy' I' (fun z hz => ?_) W' p'
      rw [f' z hz, u_ne hz]
end GO

/-! reading a text as a town: what is read; the class -/
/-- the sign at a place; END -/
def sgC (n : Nat) (c : Nat → Int) (p : Nat) : Int := if p < n then c p else 1000
/-- behind the blanks -/
def skp (n : Nat) (c : Nat → Int) : Nat → Nat → Nat
  | 0, p => p
  | k + 1, p => if p < n ∧ c p = 32 then skp n c k (p + 1) else p
def sk (n : Nat) (c : Nat → Int) (p : Nat) : Nat := skp n c (n - p) p
theorem skp_more (n : Nat) (c : Nat → Int) : ∀ (k p : Nat), n - p ≤ k → skp n c k p = skp n c (n - p) p
  | 0, p, h => by rw [show n - p = 0 by omega]
  | k + 1, p, h => by
    by_cases q : p < n ∧ c p = 32
    · obtain ⟨m, hm⟩ : ∃ m, n - p = m + 1 := ⟨n - p - 1, by omega⟩
      rw [hm]
      show (if p < n ∧ c p = 32 then skp n c k (p + 1) else p) = (if p < n ∧ c p = 32 then skp n c m (p + 1) else p)
      rw [if_pos q, if_pos q, skp_more n c k (p + 1) (by omega), show n - (p + 1) = m by omega]
    · show (if p < n ∧ c p = 32 then skp n c k (p + 1) else p) = _
      rw [if_neg q]
      cases hm : n - p with
      | zero => rfl
      | succ m =>
        show p = (if p < n ∧ c p = 32 then skp n c m (p + 1) else p)
        rw [if_neg q]
theorem sk_go {n : Nat} {c : Nat → Int} {p : Nat} (h : p < n ∧ c p = 32) : sk n c p = sk n c (p + 1) := by
  unfold sk
  obtain ⟨m, hm⟩ : ∃ m, n - p = m + 1 := ⟨n - p - 1, by omega⟩
  rw [hm]
  show (if p < n ∧ c p = 32 then skp n c m (p + 1) else p) = _
  rw [if_pos h, show n - (p + 1) = m by omega]
theorem sk_stop {n : Nat} {c : Nat → Int} {p : Nat} (h : ¬ (p < n ∧ c p = 32)) : sk n c p = p := by
  unfold sk
  cases hm : n - p with
  | zero => rfl
  | succ m =>
    show (if p < n ∧ c p = 32 then skp n c m (p + 1) else p) = p
    rw [if_neg h]
theorem skp_le (n : Nat) (c : Nat → Int) : ∀ (k p : Nat), p ≤ skp n c k p ∧ (p ≤ n → skp n c k p ≤ n)
  | 0, p => ⟨Nat.le_refl p, fun h => h⟩
  | k + 1, p => by
    show p ≤ (if p < n ∧ c p = 32 then skp n c k (p + 1) else p) ∧ (p ≤ n → (if p < n ∧ c p = 32 then skp n c k (p + 1) else p) ≤ n)
    have := skp_le n c k (p + 1)
    split
    · rename_i h
      exact ⟨by omega, fun _ => this.2 (by omega)⟩
    · exact ⟨Nat.le_refl p, fun h => h⟩
theorem sk_le (n : Nat) (c : Nat → Int) (p : Nat) : p ≤ sk n c p ∧ (p ≤ n → sk n c p ≤ n) := skp_le n c _ p
theorem sk_end {n : Nat} {c : Nat → Int} : ∀ (d p : Nat), n - p = d → ¬ (sk n c p < n ∧ c (sk n c p) = 32)
  | 0, p, h => by
    have := (sk_le n c p).1
    omega
  | d + 1, p, h => by
    by_cases q : p < n ∧ c p = 32
    · rw [sk_go q]
      exact sk_end d (p + 1) (by omega)
    · rw [sk_stop q]
      exact q
/-- a figure's worth at a place, if it is one of these -/
def fgO (n : Nat) (c : Nat → Int) (lo hi p : Nat) : Option Nat := if (48 + lo : Int) ≤ sgC n c p ∧ sgC n c p ≤ 48 + hi then some (sgC n c p - 48).toNat else none
def kdO (x : Int) : Option Nat := if x = 108 then some 0 else if x = 102 then some 1 else if x = 99 then some 2 else if x = 104 then some 3 else if x = 111 then some 4 else if x = 98 then some 5 else none
/-- the cells: where reading stops, and, if nothing is wrong, streets and door -/
def cP (n : Nat) (c : Nat → Int) : Nat → Nat → Nat → Nat → Option Nat → Nat × Option (Nat × Option Nat)
  | 0, _, p, S, D => (p, some (S, D))
  | m + 1, i, p, S, D => if sgC n c (sk n c p) = 68 ∧ D = none then cP n c m (i + 1) (sk n c p + 1) (S ||| 1 <<< i) (some i)
    else if sgC n c (sk n c p) = 46 then cP n c m (i + 1) (sk n c p + 1) (S ||| 1 <<< i) D
    else if sgC n c (sk n c p) = 35 then cP n c m (i + 1) (sk n c p + 1) S D
    else (sk n c p, none)
def up (f : Nat → Nat) (k v : Nat) : Nat → Nat := fun j => if j = k then v else f j
/-- one lamp from its letter on: where reading stops, and, if nothing is wrong, kind, cell, reach -/
def l1 (n : Nat) (c : Nat → Int) (w h S tk q : Nat) : Nat × Option (Nat × Nat × Nat) := match kdO (sgC n c q) with
  | none => (q, none)
  | some kd => match fgO n c 0 (w - 1) (q + 1) with
    | none => (q + 1, none)
    | some x => match fgO n c 0 (h - 1) (q + 2) with
      | none => (q + 2, none)
      | some y => if S.testBit (w * y + x) = true ∧ tk.testBit (w * y + x) = false then
          match fgO n c 1 5 (q + 3) with
          | none => (q + 3, none)
          | some r => (q + 4, some (kd, w * y + x, r))
        else (q + 2, none)
/-- the lamps -/
def lP (n : Nat) (c : Nat → Int) (w h S : Nat) : Nat → Nat → Nat → (Nat → Nat) → (Nat → Nat) → (Nat → Nat) → Nat × Option (Nat × (Nat → Nat) × (Nat → Nat) × (Nat → Nat))
  | 0, _, p, _, _, _ => (p, none)
  | m + 1, k, p, K, P, R => if n ≤ sk n c p then (sk n c p, some (k, K, P, R))
    else if 6 ≤ k then (sk n c p, none)
    else match l1 n c w h S (orN k (fun j => 1 <<< P j)) (sk n c p) with
    | (q, none) => (q, none)
    | (q, some (kd, cl, r)) => lP n c w h S m (k + 1) q (up K k kd) (up P k cl) (up R k r)
def pS (n : Nat) (c : Nat → Int) : Nat × Option (Nat × Nat) := if sgC n c (sk n c 0) = 103 then
    match fgO n c 2 6 (sk n c 0 + 1) with
    | none => (sk n c 0 + 1, none)
    | some w => match fgO n c 1 4 (sk n c 0 + 2) with
      | none => (sk n c 0 + 2, none)
      | some h => (sk n c 0 + 3, some (w, h))
  else (sk n c 0, none)
/-- a text read as a town -/
def pP (n : Nat) (c : Nat → Int) : Nat × Option tT := match pS n c with
  | (p, none) => (p, none)
  | (p, some (w, h)) => match cP n c (w * h) 0 p 0 none with
    | (q, none) => (q, none)
    | (q, some (_, none)) => (q, none)
    | (q, some (S, some D)) => match lP n c w h S 7 0 q (fun _ => 0) (fun _ => 0) (fun _ => 0) with
      | (r, none) => (r, none)
      | (r, some (k, K, P, R)) => (r, some ((w, h, S, D, k), K, P, R))
theorem sg_lt {n : Nat} {c : Nat → Int} {p : Nat} (h : sgC n c p ≠ 1000) : p < n := by
  unfold sgC at h
  by_cases q : p < n
  · exact q
  · rw [if_neg q] at h
    exact absurd rfl h
theorem fg_some {n : Nat} {c : Nat → Int} {lo hi p v : Nat} (hh : hi < 10) (h : fgO n c lo hi p = some v) : p < n ∧ lo ≤ v ∧ v ≤ hi := by
  unfold fgO at h
  split at h
  · cases h
    rename_i q
    exact ⟨sg_lt (n := n) (c := c) (p := p) (by omega), by omega, by omega⟩
  · cases h
section PA
variable {G : am_G} {l : Launch} {t2 : Option Nat × Option Nat} {I : am_I} {L : am_J} {Q : bm_P}
/-- the text number k of the class: n bytes c -/
def txC (k n : Nat) (c : Nat → Int) (I : am_I) : Prop := I (38 + 2 * (6 + k)) 1 = nI n ∧ ∀ p, p < n → (I (39 + 2 * (6 + k)) p).toInt = c p ∧ -128 ≤ c p ∧ c p ≤ 127
theorem txC.u {k n : Nat} {c : Nat → Int} {I : am_I} (h : txC k n c I) {a j : Nat} {v : Int32} (ha : a < 38) : txC k n c (am_u I a j v) := by
  unfold txC at h ⊢
  rw [u_ne (by omega), u_ne (by omega)]
  exact h
abbrev tK2 (k : Nat) (t2 : Option Nat × Option Nat) : am_T := (some (38 + 2 * (6 + k)), t2)
theorem sp_next (k n : Nat) (c : Nat → Int) (p : Nat) (hk : k < 4) (hn : n ≤ 80) (hp : p < 1000) (ht : txC k n c I) (h9 : I 3 9 = nI p) (h : ∀ z : Int32, z.toInt = sgC n c p → Q (some (.int z)) (tK2 k t2) I L) : bm_C G l 203 [.ref 3] (tK2 k t2) I L Q := by
  obtain ⟨h1, h2⟩ := ht
  have hz : (itm (I (38 + 2 * (6 + k)) 1) (I (39 + 2 * (6 + k))) (I 3 9)).toInt = sgC n c p := by
    unfold itm sgC
    rw [h9, h1, nI_toInt (by omega), nI_toInt (by omega)]
    by_cases q : p < n
    · rw [if_pos (by omega), if_pos q, Int.toNat_natCast, (h2 p q).1]
    · rw [if_neg (by omega), if_neg q]
      rfl
  have hq := h _ hz
  have hs : (I (38 + 2 * (6 + k)) 1).toInt ≤ (cp (6 + k) : Int) := by
    rw [h1, nI_toInt (by omega), show cp (6 + k) = 80 from if_neg (by omega)]
    omega
  match k, hk with
  | 0, _ =>
    refine bm_go (am_ok_all 203 (by decide)) 40 ?_
    exact sp_item (6 + 0) (by decide) hs hq
  | 1, _ =>
    refine bm_go (am_ok_all 203 (by decide)) 40 ?_
    exact sp_item (6 + 1) (by decide) hs hq
  | 2, _ =>
    refine bm_go (am_ok_all 203 (by decide)) 40 ?_
    exact sp_item (6 + 2) (by decide) hs hq
  | 3, _ =>
    refine bm_go (am_ok_all 203 (by decide)) 40 ?_
    exact sp_item (6 + 3) (by decide) hs hq
theorem u_id {I : am_I} {a j : Nat} {v : Int32} (h : I a j = v) : am_u I a j v = I := by
  funext x y
  unfold am_u
  by_cases q : x = a ∧ y = j
  · rw [if_pos q, q.1, q.2, h]
  · rw [if_neg q]
theorem u_u {I : am_I} {a j : Nat} {v w : Int32} : am_u (am_u I a j v) a j w = am_u I a j w := by
  funext x y
  unfold am_u
  by_cases q : x = a ∧ y = j
  · rw [if_pos q, if_pos q]
  · rw [if_neg q, if_neg q, if_neg q]
theorem sp_skip (k n : Nat) (c : Nat → Int) (p : Nat) (hk : k < 4) (hn : n ≤ 80) (hp : p ≤ n) (ht : txC k n c I) (h9 : I 3 9 = nI p) (h : Q none (tK2 k t2) (am_u I 3 9 (nI (sk n c p))) L) : bm_C G l 204 [.ref 3] (tK2 k t2) I L Q := by
  have lp : ∀ d i y q, n - q = d → q ≤ n → i ≤ q → y = nI i → sk n c q = sk n c p → bm_W G l 204 2 [some (.ref 3), some (.int y)] [] (tK2 k t2) (am_u I 3 9 (nI q)) L Q := by
    intro d
    induction d with
    | zero =>
      intro i y q hd hq hi hy hs
      obtain rfl : q = n := by omega
      subst hy
      have e : sk q c q = q := sk_stop (by omega)
      rw [← hs, e] at h
      refine bm_go (am_ok_all 204 (by decide)) 40 ?_
      refine And.intro (fun _ => h) (fun cd => ?_)
      refine sp_next k q c q hk hn (by omega) (ht.u (by decide)) u_eq (fun z hz => ?_)
      unfold sgC at hz
      rw [if_neg (by omega)] at hz
      refine And.intro (fun _ => h) (fun cd => ?_)
      have : (32 : Int32).toInt = 32 := rfl
      omega
    | succ d ih =>
      intro i y q hd hq hi hy hs
      subst hy
      refine bm_go (am_ok_all 204 (by decide)) 40 ?_
      refine And.intro (fun cd => ?_) (fun cd => ?_)
      · rw [nI_toInt (by omega), T80] at cd
        omega
      · refine sp_next k n c q hk hn (by omega) (ht.u (by decide)) u_eq (fun z hz => ?_)
        unfold sgC at hz
        rw [if_pos (by omega)] at hz
        have e32 : (32 : Int32).toInt = 32 := rfl
        refine And.intro (fun cd => ?_) (fun cd => ?_)
        · have e : sk n c q = q := sk_stop (fun w => cd (by rw [hz, w.2, e32]))
          rw [← hs, e] at h
          exact h
        · have e : sk n c q = sk n c (q + 1) := sk_go ⟨by omega, by omega⟩
          have := ih (i + 1) (nI i + 1) (q + 1) (by omega) (by omega) (by omega) (nI_succ i).symm (by rw [← e, hs])
          rw [nI_succ q] at this
          show bm_W G l 204 2 _ [] (tK2 k t2) (am_u (am_u I 3 9 (nI q)) 3 9 (am_u I 3 9 (nI q) 3 9 + 1)) L Q
          rw [u_u, u_eq]
          exact this
  refine bm_go (am_ok_all 204 (by decide)) 40 ?_
  have := lp (n - p) 0 _ p rfl hp (by omega) rfl rfl
  rw [u_id h9] at this
  exact this
theorem sp_figure {x y : Int32} (k n : Nat) (c : Nat → Int) (p lo hi : Nat) (hk : k < 4) (hn : n ≤ 80) (hp : p ≤ n) (ht : txC k n c I) (h9 : I 3 9 = nI p) (hx : x = nI lo) (hy : y = nI hi) (hlo : lo < 10) (hhi : hi < 10) (h1 : ∀ v, fgO n c lo hi p = some v → p < n → lo ≤ v → v ≤ hi → Q (some (.int (nI v))) (tK2 k t2) (am_u I 3 9 (nI (p + 1))) L) (h0 : fgO n c lo hi p = none → Q (some (.int (-1))) (tK2 k t2) I L) : bm_C G l 205 [.ref 3, .int x, .int y] (tK2 k t2) I L Q := by
  have e48 : (48 : Int32).toInt = 48 := rfl
  have ex : x.toInt = (lo : Int) := by rw [hx]; exact nI_toInt (by omega)
  have ey : y.toInt = (hi : Int) := by rw [hy]; exact nI_toInt (by omega)
  unfold fgO at h1 h0
  refine bm_go (am_ok_all 205 (by decide)) 40 ?_
  refine sp_next k n c p hk hn (by omega) ht h9 (fun z hz => ?_)
  have hzr : -128 ≤ z.toInt ∧ z.toInt ≤ 1000 := by
    rw [hz]
    unfold sgC
    split
    · rename_i q
      have := ht.2 p q
      omega
    · omega
  have hs : (z - 48).toInt = z.toInt - 48 := by
    rw [Int32.toInt_sub, e48]
    exact Int.bmod_eq_of_le (by omega) (by omega)
  by_cases q : (48 + lo : Int) ≤ sgC n c p ∧ sgC n c p ≤ 48 + hi
  · rw [if_pos q] at h1
    have hpn : p < n := by
      by_cases w : p < n
      · exact w
      · unfold sgC at q
        rw [if_neg w] at q
        omega
    refine And.intro (fun cd => by omega) (fun cd => ?_)
    refine And.intro (fun c2 => ?_) (fun c2 => by omega)
    have := h1 _ rfl hpn (by omega) (by omega)
    have e1 : nI (sgC n c p - 48).toNat = z - 48 := Int32.toInt_inj.mp (by rw [nI_toInt (by omega), hs]; omega)
    rw [e1, nI_succ, ← h9] at this
    exact this
  · rw [if_neg q] at h0
    refine And.intro (fun cd => h0 rfl) (fun cd => ?_)
    refine And.intro (fun c2 => ?_) (fun c2 => h0 rfl)
    omega
end PA

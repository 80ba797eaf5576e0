/-! rows of lamps: those that end with a lamp, those that go on -/
/-- the steps of a row, from a set that is lit, a lamp last -/
def cst (g : Nat → Nat → Nat → Option Nat) (s l : Nat) : List Nat → Option Nat
  | [] => some 0
  | k :: r => oadd (g s l k) (cst g (s + 2 ^ k) k r)
def okr (ok : Nat → Nat → Bool) (s : Nat) : List Nat → Bool
  | [] => true
  | k :: r => ok s k && okr ok (s + 2 ^ k) r
def ominL (f : List Nat → Option Nat) : List (List Nat) → Option Nat
  | [] => none
  | r :: R => omin (f r) (ominL f R)
theorem omin_assoc (a b c : Option Nat) : omin (omin a b) c = omin a (omin b c) := by
  cases a <;> cases b <;> cases c <;> simp [omin, Nat.min_assoc]
theorem omin_comm (a b : Option Nat) : omin a b = omin b a := by
  cases a <;> cases b <;> simp [omin, Nat.min_comm]
theorem omin_n (a : Option Nat) : omin a none = a := by cases a <;> rfl
theorem oadd_min (a b c : Option Nat) : oadd (omin a b) c = omin (oadd a c) (oadd b c) := by
  cases a with
  | none => cases b <;> cases c <;> rfl
  | some x =>
    cases b with
    | none => cases c <;> rfl
    | some y =>
      cases c with
      | none => rfl
      | some z =>
        show some (min x y + z) = some (min (x + z) (y + z))
        rw [Nat.add_min_add_right]
theorem oadd_min' (a b c : Option Nat) : oadd c (omin a b) = omin (oadd c a) (oadd c b) := by
  cases c with
  | none => rfl
  | some z =>
    cases a with
    | none => cases b <;> rfl
    | some x =>
      cases b with
      | none => rfl
      | some y =>
        show some (z + min x y) = some (min (z + x) (z + y))
        rw [Nat.add_min_add_left]
theorem oadd_n (c : Option Nat) : oadd c none = none := by cases c <;> rfl
theorem oadd_assoc (a b c : Option Nat) : oadd (oadd a b) c = oadd a (oadd b c) := by
  cases a <;> cases b <;> cases c <;> simp [oadd, Nat.add_assoc]
theorem oadd_0 (a : Option Nat) : oadd a (some 0) = a := by cases a <;> rfl
theorem oadd_0l (a : Option Nat) : oadd (some 0) a = a := by
  cases a with
  | none => rfl
  | some x =>
    show some (0 + x) = some x
    rw [Nat.zero_add]
theorem ominL_app (f : List Nat → Option Nat) : ∀ (A B : List (List Nat)), ominL f (A ++ B) = omin (ominL f A) (ominL f B)
  | [], B => rfl
  | r :: A, B => by
    show omin (f r) (ominL f (A ++ B)) = omin (omin (f r) (ominL f A)) (ominL f B)
    rw [ominL_app f A B, omin_assoc]
theorem ominL_map (f : List Nat → Option Nat) (h : List Nat → List Nat) : ∀ (A : List (List Nat)), ominL f (A.map h) = ominL (fun r => f (h r)) A
  | [] => rfl
  | r :: A => by
    show omin (f (h r)) (ominL f (A.map h)) = _
    rw [ominL_map f h A]
    rfl
theorem ominL_cong {f f' : List Nat → Option Nat} : ∀ (A : List (List Nat)), (∀ r, r ∈ A → f r = f' r) → ominL f A = ominL f' A
  | [], _ => rfl
  | r :: A, h => by
    show omin (f r) (ominL f A) = omin (f' r) (ominL f' A)
    rw [h r List.mem_cons_self, ominL_cong A (fun q hq => h q (List.mem_cons_of_mem _ hq))]
theorem ominL_perm {f : List Nat → Option Nat} {A B : List (List Nat)} (h : A.Perm B) : ominL f A = ominL f B := by
  induction h with
  | nil => rfl
  | cons r _ ih =>
    show omin (f r) _ = omin (f r) _
    rw [ih]
  | swap r q A =>
    show omin (f q) (omin (f r) (ominL f A)) = omin (f r) (omin (f q) (ominL f A))
    rw [← omin_assoc, omin_comm (f q), omin_assoc]
  | trans _ _ h1 h2 => exact h1.trans h2
theorem ominL_add (w : Option Nat) (f : List Nat → Option Nat) : ∀ (A : List (List Nat)), ominL (fun r => oadd (f r) w) A = oadd (ominL f A) w
  | [] => rfl
  | r :: A => by
    show omin (oadd (f r) w) (ominL (fun r => oadd (f r) w) A) = oadd (omin (f r) (ominL f A)) w
    rw [ominL_add w f A, oadd_min]
theorem ominL_add' (w : Option Nat) (f : List Nat → Option Nat) : ∀ (A : List (List Nat)), ominL (fun r => oadd w (f r)) A = oadd w (ominL f A)
  | [] => by
    show none = oadd w none
    rw [oadd_n]
  | r :: A => by
    show omin (oadd w (f r)) (ominL (fun r => oadd w (f r)) A) = oadd w (omin (f r) (ominL f A))
    rw [ominL_add' w f A, oadd_min']
theorem ominL_none {f : List Nat → Option Nat} : ∀ (A : List (List Nat)), ominL f A = none ↔ ∀ r, r ∈ A → f r = none
  | [] => ⟨fun _ r hr => absurd hr List.not_mem_nil, fun _ => rfl⟩
  | q :: A => by
    show omin (f q) (ominL f A) = none ↔ _
    rw [omin_none, ominL_none A]
    constructor
    · rintro ⟨h1, h2⟩ r hr
      rcases List.mem_cons.mp hr with rfl | hr
      · exact h1
      · exact h2 r hr
    · intro h
      exact ⟨h q List.mem_cons_self, fun r hr => h r (List.mem_cons_of_mem _ hr)⟩
theorem ominL_flat (f : List Nat → Option Nat) (F : Nat → List (List Nat)) : ∀ n, ominL f ((List.range n).flatMap F) = ominN n (fun i => ominL f (F i))
  | 0 => rfl
  | n + 1 => by
    rw [List.range_succ, List.flatMap_append, ominL_app, ominL_flat f F n]
    show omin _ (ominL f ([n].flatMap F)) = omin _ _
    rw [List.flatMap_singleton]
theorem cnt_flat (p : List Nat → Bool) (F : Nat → List (List Nat)) : ∀ n, ((List.range n).flatMap F).countP p = sumN n (fun i => (F i).countP p)
  | 0 => rfl
  | n + 1 => by
    rw [List.range_succ, List.flatMap_append, List.countP_append, cnt_flat p F n, List.flatMap_singleton]
    rfl
/-- rows of a set, the last lamp first -/
def eE : Nat → Nat → Nat → List (List Nat)
  | 0, _, _ => []
  | d + 1, S, l => if S = 0 then (if l = 7 then [[]] else []) else if S.testBit l then (List.range 8).flatMap (fun last => (eE d (S - 2 ^ l) last).map (fun q => l :: q)) else []
/-- rows of what is left of a set -/
def pQ (S : Nat) : Nat → Nat → List (List Nat)
  | 0, _ => [[]]
  | d + 1, s => if S ≤ s then [[]] else (List.range 6).flatMap (fun k => if S.testBit k && !s.testBit k then (pQ S d (s + 2 ^ k)).map (fun r => k :: r) else [])
def setL (s : Nat) : List Nat → Nat
  | [] => s
  | k :: r => setL (s + 2 ^ k) r
def lastL (l : Nat) : List Nat → Nat
  | [] => l
  | k :: r => lastL k r
theorem setL_app : ∀ (r : List Nat) (s k : Nat), setL s (r ++ [k]) = setL s r + 2 ^ k
  | [], s, k => rfl
  | j :: r, s, k => setL_app r (s + 2 ^ j) k
theorem lastL_app : ∀ (r : List Nat) (l k : Nat), lastL l (r ++ [k]) = k
  | [], l, k => rfl
  | j :: r, l, k => lastL_app r j k
theorem cst_app (g : Nat → Nat → Nat → Option Nat) : ∀ (r : List Nat) (s l k : Nat), cst g s l (r ++ [k]) = oadd (cst g s l r) (g (setL s r) (lastL l r) k)
  | [], s, l, k => by
    show oadd (g s l k) (some 0) = oadd (some 0) (g s l k)
    rw [oadd_0, oadd_0l]
  | j :: r, s, l, k => by
    show oadd (g s l j) (cst g (s + 2 ^ j) j (r ++ [k])) = oadd (oadd (g s l j) (cst g (s + 2 ^ j) j r)) _
    rw [cst_app g r, oadd_assoc]
    rfl
theorem okr_app (ok : Nat → Nat → Bool) : ∀ (r : List Nat) (s k : Nat), okr ok s (r ++ [k]) = (okr ok s r && ok (setL s r) k)
  | [], s, k => by simp [okr, setL]
  | j :: r, s, k => by
    show (ok s j && okr ok (s + 2 ^ j) (r ++ [k])) = ((ok s j && okr ok (s + 2 ^ j) r) && _)
    rw [okr_app ok r, Bool.and_assoc]
    rfl
theorem eE_mem : ∀ (d S l : Nat) (q : List Nat), q ∈ eE d S l → setL 0 q.reverse = S ∧ lastL 7 q.reverse = l
  | 0, S, l, q, h => by cases h
  | d + 1, S, l, q, h => by
    unfold eE at h
    by_cases z : S = 0
    · rw [if_pos z] at h
      by_cases z7 : l = 7
      · rw [if_pos z7] at h
        rw [List.mem_singleton] at h
        subst h
        exact ⟨z.symm, z7.symm⟩
      · rw [if_neg z7] at h
        cases h
    · rw [if_neg z] at h
      by_cases b : S.testBit l = true
      · rw [if_pos b] at h
        obtain ⟨last, _, h2⟩ := List.mem_flatMap.mp h
        obtain ⟨q', h3, rfl⟩ := List.mem_map.mp h2
        obtain ⟨e1, e2⟩ := eE_mem d (S - 2 ^ l) last q' h3
        have := two_le b
        rw [List.reverse_cons, setL_app, lastL_app, e1]
        exact ⟨by omega, rfl⟩
      · rw [if_neg b] at h
        cases h
theorem Fo_rows (g : Nat → Nat → Nat → Option Nat) : ∀ (d S l : Nat), S < d → Fo g S l = ominL (fun q => cst g 0 7 q.reverse) (eE d S l)
  | 0, S, l, h => by omega
  | d + 1, S, l, h => by
    rw [Fo_eq]
    unfold eE
    by_cases z : S = 0
    · rw [if_pos z, if_pos z]
      by_cases z7 : l = 7
      · rw [if_pos z7, if_pos z7]
        rfl
      · rw [if_neg z7, if_neg z7]
        rfl
    · rw [if_neg z, if_neg z]
      by_cases b : S.testBit l = true
      · have := two_le b
        have := Nat.two_pow_pos l
        rw [if_pos b, if_pos b, ominL_flat]
        refine ominN_c 8 (fun i _ => ?_)
        rw [ominL_map, Fo_rows g d (S - 2 ^ l) i (by omega), ← ominL_add]
        refine ominL_cong _ (fun q hq => ?_)
        obtain ⟨e1, e2⟩ := eE_mem d (S - 2 ^ l) i q hq
        show _ = cst g 0 7 (l :: q).reverse
        rw [List.reverse_cons, cst_app, e1, e2]
      · rw [if_neg b, if_neg b]
        rfl
/-- what a row can, and may -/
def fea (g : Nat → Nat → Nat → Option Nat) (ok : Nat → Nat → Bool) (s l : Nat) (r : List Nat) : Bool := (cst g s l r).isSome && okr ok s r
theorem cnt_if (p q : List Nat → Bool) (c : Bool) (A : List (List Nat)) (h : ∀ r, r ∈ A → p r = (q r && c)) : A.countP p = if c then A.countP q else 0 := by
  cases c with
  | true =>
    rw [if_pos rfl]
    exact List.countP_congr (fun r hr => by rw [h r hr, Bool.and_true])
  | false =>
    rw [if_neg (by decide)]
    rw [List.countP_eq_zero]
    intro r hr
    rw [h r hr, Bool.and_false]
    decide
theorem Wo_rows (g : Nat → Nat → Nat → Option Nat) (ok : Nat → Nat → Bool) : ∀ (d S l : Nat), S < d → Wo g ok S l = (eE d S l).countP (fun q => fea g ok 0 7 q.reverse)
  | 0, S, l, h => by omega
  | d + 1, S, l, h => by
    rw [Wo_eq]
    unfold eE
    by_cases z : S = 0
    · rw [if_pos z, if_pos z]
      by_cases z7 : l = 7
      · rw [if_pos z7, if_pos z7]
        rfl
      · rw [if_neg z7, if_neg z7]
        rfl
    · rw [if_neg z, if_neg z]
      by_cases b : S.testBit l = true
      · have := two_le b
        have := Nat.two_pow_pos l
        rw [if_pos b, if_pos b, cnt_flat]
        refine sumN_c 8 (fun i _ => ?_)
        rw [List.countP_map, Wo_rows g ok d (S - 2 ^ l) i (by omega)]
        refine (cnt_if _ _ _ _ (fun q hq => ?_)).symm
        obtain ⟨e1, e2⟩ := eE_mem d (S - 2 ^ l) i q hq
        show fea g ok 0 7 (l :: q).reverse = _
        unfold fea
        rw [List.reverse_cons, cst_app, okr_app, e1, e2]
        cases cst g 0 7 q.reverse with
        | none => rfl
        | some x =>
          cases g (S - 2 ^ l) i l with
          | none => simp [oadd]
          | some y => simp [oadd]
      · rw [if_neg b, if_neg b]
        rfl

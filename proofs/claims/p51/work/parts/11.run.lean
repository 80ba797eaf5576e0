/-! the small machine's runs: from place to place, stops at the heads of loops and at calls -/
def am_seg (G : am_G) (l : Launch) (m : Nat) (Q : Option Value → am_S → Prop) : Nat → Nat → am_L → List Value → Nat → Nat → am_S → Prop
  | 0, pc, ls, st, c, k, g => am_WP G l m pc ls st c k g Q
  | n + 1, pc, ls, st, c, k, g => match am_code m pc with
    | none => False
    | some en => match en.1 with
      | true => am_WP G l m pc ls st c k g Q
      | false => am_step G m (am_seg G l m Q n) (am_WPm G l) Q en ls st c k g
def am_run (G : am_G) (l : Launch) (m : Nat) (Q : Option Value → am_S → Prop) (n pc : Nat) (ls : am_L) (st : List Value) (c k : Nat) (g : am_S) : Prop := match am_code m pc with
  | none => False
  | some en => am_step G m (am_seg G l m Q n) (am_WPm G l) Q en ls st c k g
theorem am_seg_sound {G : am_G} {l : Launch} {m : Nat} {Q : Option Value → am_S → Prop} (hok : am_okM m) : ∀ (n pc : Nat) (ls : am_L) (st : List Value) (c k : Nat) (g : am_S), am_seg G l m Q n pc ls st c k g → am_WP G l m pc ls st c k g Q
  | 0, pc, ls, st, c, k, g, h => h
  | n + 1, pc, ls, st, c, k, g, h => by
    unfold am_seg at h
    cases hc : am_code m pc with
    | none => rw [hc] at h; exact h.elim
    | some en =>
      rw [hc] at h
      obtain ⟨ct, en⟩ := en
      cases ct with
      | true => exact h
      | false => exact am_sound hok (am_seg_sound hok n) (fun _ _ _ _ q => q) hc h
theorem am_goK {G : am_G} {l : Launch} {m : Nat} {Q : Option Value → am_S → Prop} (hok : am_okM m) (n : Nat) {pc : Nat} {ls : am_L} {st : List Value} {c k : Nat} {g : am_S} (h : am_run G l m Q n pc ls st c k g) : am_WP G l m pc ls st c k g Q := by
  unfold am_run at h
  cases hc : am_code m pc with
  | none => rw [hc] at h; exact h.elim
  | some en =>
    rw [hc] at h
    exact am_sound hok (am_seg_sound hok n) (fun _ _ _ _ q => q) hc h
/-- the state with which the law begins -/
def am_s0 : am_S := ((0, fun _ => (0, 0)), (fun _ _ => 0), (fun _ _ => 0), fun _ _ => none)
/-- what is left to show: the law, walked by the small machine, answers 1 -/
def am_Law : Prop := ∀ (G : am_G) (l : Launch), G.2.2.1 ≤ 260 → am_WP G l 264 0 (am_init 20 [.float 0]) [] 0 0 am_s0 (fun v _ => v = some (.int 1))
def am_R_law : String := "OwnLightLaw"

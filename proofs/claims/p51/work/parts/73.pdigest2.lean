/-! pair: digest, all of it -/
theorem mx_0 (f : Nat → Int32) (h : Int64) : mx 0 f h = h := rfl
theorem itN_0 (F : Nat → Int64 → Int64) (h : Int64) : itN 0 F h = h := rfl
theorem mx_c (f g : Nat → Int32) (h : Int64) : ∀ n, (∀ j, j < n → f j = g j) → mx n f h = mx n g h
  | 0, _ => by rw [mx_0, mx_0]
  | n + 1, e => by rw [mx_s, mx_s, mx_c f g h n (fun j hj => e j (by omega)), e n (by omega)]
section PD
variable {G : am_G} {l : Launch} {t : am_T} {I : am_I} {L : am_J} {Q : bm_P}
end PD

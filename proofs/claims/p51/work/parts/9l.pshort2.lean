/-! pair: shortest, the reference -/
theorem eM_eq {a : Option Nat} (h : ob a) {v : Nat} (hv : v < 500000) : (eM a).toInt = (nI v).toInt ↔ a = some v := by
  rw [nI_toInt (by omega), eM_i h]
  cases a with
  | none =>
    constructor
    · intro e
      have e : (-9 : Int) = (v : Int) := e
      omega
    · intro e; cases e
  | some w =>
    constructor
    · intro e
      have e : (w : Int) = (v : Int) := e
      rw [show w = v by omega]
    · intro e
      show (w : Int) = (v : Int)
      rw [Option.some.inj e]
theorem bm_C.mono {G : am_G} {l : Launch} {m : Nat} {As : List Value} {t : am_T} {I : am_I} {L : am_J} {Q Q' : bm_P} (h : bm_C G l m As t I L Q) (hq : ∀ v t I L, Q v t I L → Q' v t I L) : bm_C G l m As t I L Q' :=
  fun n n1 n2 => am_WP.mono (h n n1 n2) (fun v s ⟨t, I, L, e, q⟩ => ⟨t, I, L, e, hq v t I L q⟩)
section PS
variable {G : am_G} {l : Launch} {t : am_T} {I : am_I} {L : am_J} {Q : bm_P}
end PS

/-! rows and texts by their numbers; how the third part of what holds takes changes of rows -/
theorem c10 {P : Nat → Prop} (h0 : P 0) (h1 : P 1) (h2 : P 2) (h3 : P 3) (h4 : P 4) (h5 : P 5) (h6 : P 6) (h7 : P 7) (h8 : P 8) (h9 : P 9) {k : Nat} (hk : k < 10) : P k := by
  match k, hk with
  | 0, _ => exact h0
  | 1, _ => exact h1
  | 2, _ => exact h2
  | 3, _ => exact h3
  | 4, _ => exact h4
  | 5, _ => exact h5
  | 6, _ => exact h6
  | 7, _ => exact h7
  | 8, _ => exact h8
  | 9, _ => exact h9
section RL
variable {G : am_G} {l : Launch} {t : am_T} {I : am_I} {L : am_J} {Q : bm_P}
theorem sp_item {x : Int32} (k : Nat) (hk : k < 10) (hs : (I (38 + 2 * k) 1).toInt ≤ (cp k : Int)) (h : Q (some (.int (itm (I (38 + 2 * k) 1) (I (39 + 2 * k)) x))) t I L) : bm_C G l 233 [.ref (38 + 2 * k), .int x] t I L Q :=
  c10 (P := fun k => (I (38 + 2 * k) 1).toInt ≤ (cp k : Int) → Q (some (.int (itm (I (38 + 2 * k) 1) (I (39 + 2 * k)) x))) t I L → bm_C G l 233 [.ref (38 + 2 * k), .int x] t I L Q) sp_item_38 sp_item_40 sp_item_42 sp_item_44 sp_item_46 sp_item_48 sp_item_50 sp_item_52 sp_item_54 sp_item_56 hk hs h
theorem sp_change {x v : Int32} (k : Nat) (hk : k < 10) (hs : (I (38 + 2 * k) 1).toInt ≤ (cp k : Int)) (h1 : 0 ≤ x.toInt → x.toInt < (I (38 + 2 * k) 1).toInt → Q none t (am_u I (39 + 2 * k) x.toInt.toNat v) L) (h0 : (x.toInt < 0 ∨ (I (38 + 2 * k) 1).toInt ≤ x.toInt) → Q none t I L) : bm_C G l 234 [.ref (38 + 2 * k), .int x, .int v] t I L Q :=
  c10 (P := fun k => (I (38 + 2 * k) 1).toInt ≤ (cp k : Int) → (0 ≤ x.toInt → x.toInt < (I (38 + 2 * k) 1).toInt → Q none t (am_u I (39 + 2 * k) x.toInt.toNat v) L) → ((x.toInt < 0 ∨ (I (38 + 2 * k) 1).toInt ≤ x.toInt) → Q none t I L) → bm_C G l 234 [.ref (38 + 2 * k), .int x, .int v] t I L Q) sp_change_38 sp_change_40 sp_change_42 sp_change_44 sp_change_46 sp_change_48 sp_change_50 sp_change_52 sp_change_54 sp_change_56 hk hs h1 h0
theorem sp_renew {x v : Int32} (k : Nat) (hk : k < 10) (hx : x.toInt ≤ (cp k : Int)) (h : Q none t (am_f (am_u I (38 + 2 * k) 1 x) (39 + 2 * k) (cp k) v) L) : bm_C G l 232 [.ref (38 + 2 * k), .int x, .int v] t I L Q :=
  c10 (P := fun k => x.toInt ≤ (cp k : Int) → Q none t (am_f (am_u I (38 + 2 * k) 1 x) (39 + 2 * k) (cp k) v) L → bm_C G l 232 [.ref (38 + 2 * k), .int x, .int v] t I L Q) sp_renew_38 sp_renew_40 sp_renew_42 sp_renew_44 sp_renew_46 sp_renew_48 sp_renew_50 sp_renew_52 sp_renew_54 sp_renew_56 hk hx h
theorem sp_digested {h' : Int64} (k : Nat) (hk : k < 10) (n : Nat) (hn : (I (38 + 2 * k) 1).toInt = (n : Int) ∨ ((I (38 + 2 * k) 1).toInt = -1 ∧ n = 0)) (hs : n ≤ cp k) (h : Q (some (.long ((List.range n).foldl (fun h j => 31 * h + (I (39 + 2 * k) j).toInt64) (31 * h' + (I (38 + 2 * k) 1).toInt64)))) t I L) : bm_C G l 238 [.ref (38 + 2 * k), .long h'] t I L Q :=
  c10 (P := fun k => ((I (38 + 2 * k) 1).toInt = (n : Int) ∨ ((I (38 + 2 * k) 1).toInt = -1 ∧ n = 0)) → n ≤ cp k → Q (some (.long ((List.range n).foldl (fun h j => 31 * h + (I (39 + 2 * k) j).toInt64) (31 * h' + (I (38 + 2 * k) 1).toInt64)))) t I L → bm_C G l 238 [.ref (38 + 2 * k), .long h'] t I L Q) (sp_digested_38 n) (sp_digested_40 n) (sp_digested_42 n) (sp_digested_44 n) (sp_digested_46 n) (sp_digested_48 n) (sp_digested_50 n) (sp_digested_52 n) (sp_digested_54 n) (sp_digested_56 n) hk hn hs h
theorem sp_ref (k : Nat) (hk : k < 10) (h1 : (I (38 + 2 * k) 1).toInt < 0 → Q (some (.int (-3))) t (am_u (am_u I 36 3 1) 37 1 (I 37 1 + 1)) L) (h0 : 0 ≤ (I (38 + 2 * k) 1).toInt → Q (some (.int 0)) t I L) : bm_C G l 56 [.ref 0, .ref (38 + 2 * k)] t I L Q :=
  c10 (P := fun k => ((I (38 + 2 * k) 1).toInt < 0 → Q (some (.int (-3))) t (am_u (am_u I 36 3 1) 37 1 (I 37 1 + 1)) L) → (0 ≤ (I (38 + 2 * k) 1).toInt → Q (some (.int 0)) t I L) → bm_C G l 56 [.ref 0, .ref (38 + 2 * k)] t I L Q) sp_ref_38 sp_ref_40 sp_ref_42 sp_ref_44 sp_ref_46 sp_ref_48 sp_ref_50 sp_ref_52 sp_ref_54 sp_ref_56 hk h1 h0
theorem sp_refAt {x : Int32} (k : Nat) (hk : k < 10) (h1 : (I (38 + 2 * k) 1).toInt < 0 → Q (some (.int (-3))) t (am_u (am_u I 36 3 1) 37 1 (I 37 1 + 1)) L) (h2 : 0 ≤ (I (38 + 2 * k) 1).toInt → (x.toInt < 0 ∨ (I (38 + 2 * k) 1).toInt ≤ x.toInt) → Q (some (.int (-3))) t (am_u (am_u I 36 3 2) 37 2 (I 37 2 + 1)) L) (h0 : 0 ≤ x.toInt → x.toInt < (I (38 + 2 * k) 1).toInt → Q (some (.int 0)) t I L) : bm_C G l 57 [.ref 0, .ref (38 + 2 * k), .int x] t I L Q :=
  c10 (P := fun k => ((I (38 + 2 * k) 1).toInt < 0 → Q (some (.int (-3))) t (am_u (am_u I 36 3 1) 37 1 (I 37 1 + 1)) L) → (0 ≤ (I (38 + 2 * k) 1).toInt → (x.toInt < 0 ∨ (I (38 + 2 * k) 1).toInt ≤ x.toInt) → Q (some (.int (-3))) t (am_u (am_u I 36 3 2) 37 2 (I 37 2 + 1)) L) → (0 ≤ x.toInt → x.toInt < (I (38 + 2 * k) 1).toInt → Q (some (.int 0)) t I L) → bm_C G l 57 [.ref 0, .ref (38 + 2 * k), .int x] t I L Q) sp_refAt_38 sp_refAt_40 sp_refAt_42 sp_refAt_44 sp_refAt_46 sp_refAt_48 sp_refAt_50 sp_refAt_52 sp_refAt_54 sp_refAt_56 hk h1 h2 h0
end RL
